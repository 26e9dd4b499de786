/** Compares answers with those that are due, and ends the test with exit code 1 if one is wrong. */
final class Due {
    private static int wrong = 0;
    private static int asked = 0;
    private static String sentence = "";
    private static int askedOfIt = 0;

    private Due() {
    }

    static void is(String what, long got, long want) {
        asked++;
        if (got != want) {
            wrong++;
            if (wrong <= 40) {
                System.out.println(what + " answered " + got + ", due is " + want);
            }
        }
    }

    /** The sentence of the document that the answers behind it are about. */
    static void says(String words) {
        sentence = words;
        askedOfIt = 0;
    }

    /** An answer about the sentence told last; a wrong one is named by it and by its number. */
    static void is(long got, long want) {
        askedOfIt++;
        is(sentence + " [" + askedOfIt + "]", got, want);
    }

    static void end() {
        System.out.println(asked + " answers looked at, " + wrong + " wrong");
        if (wrong != 0) {
            System.exit(1);
        }
    }

    /** Writes a text on the page, eight letters a call. */
    static int write(FrogsOnRing x, String text) {
        int answer = x.letters(0L);
        for (int first = 0; first < text.length(); first += 8) {
            answer = x.letters(word(text.substring(first, Math.min(text.length(), first + 8))));
        }
        return answer;
    }

    /** Up to eight letters as the bytes of a long, the first one lowest. */
    static long word(String text) {
        long w = 0;
        for (int i = 0; i < text.length(); i++) {
            w |= (text.charAt(i) & 255L) << (8 * i);
        }
        return w;
    }

    static FrogsOnRing stones(String text) {
        FrogsOnRing x = new FrogsOnRing();
        write(x, text);
        x.stones();
        return x;
    }

    static FrogsOnRing aiming(String text, String aim) {
        FrogsOnRing x = stones(text);
        write(x, aim);
        x.aim();
        return x;
    }
}
