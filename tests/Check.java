/** What the tests of sentences share: the sentence that is at stake, and what its calls must answer. */
final class Check {
    static final int NONE = HandedVoices.NONE, BAD = HandedVoices.BAD, FULL = HandedVoices.FULL;
    static final long NO = HandedVoices.NO;
    static final int ABSENT = -5, NOTHING = -11, CAST = -12, PLACE = -13, SIZE = -14;
    static final int HUGE = Integer.MAX_VALUE, LEAST = Integer.MIN_VALUE;

    private static String sentence = "";
    private static int number;
    private static int sentences;
    private static int wrong;

    private Check() {
    }

    /** The document's sentence (or its part) that would be broken, if an answer up to the next one were another. */
    static void says(String words) {
        sentence = words;
        number = 0;
        sentences++;
    }

    static void due(long got, long want) {
        due("answer " + (number + 1), got, want);
    }

    static void due(String what, long got, long want) {
        number++;
        if (got != want) {
            wrong++;
            System.out.println("\"" + sentence + "\": " + what + " is " + got + ", due is " + want);
        }
    }

    static void finish() {
        System.out.println(wrong == 0 ? sentences + " sentences hold" : wrong + " answers are not as due");
        if (wrong != 0) {
            System.exit(1);
        }
    }

    static HandedVoices with(int members) {
        HandedVoices x = new HandedVoices();
        for (int k = 0; k < members; k++) {
            x.member();
        }
        return x;
    }

    /** Puts a text behind THE TEXT, in as few calls as can be. */
    static void feed(HandedVoices x, String text) {
        int bytes = 0;
        int n = 0;
        for (int k = 0; k < text.length(); k++) {
            bytes = bytes << 8 | text.charAt(k) & 255;
            n++;
            if (n == 4 || k == text.length() - 1) {
                x.feed(bytes, n);
                n = 0;
            }
        }
    }

    static int hall(HandedVoices x, String text) {
        feed(x, text);
        return x.hall();
    }

    static void pass(HandedVoices x, int minutes) {
        for (int left = minutes; left > 0; left -= 20) {
            x.pass(Math.min(left, 20));
        }
    }

    static void dueFraction(long gotAbove, long gotBelow, long above, long below) {
        due("above the line", gotAbove, above);
        due("below the line", gotBelow, below);
    }

    static void dueVoices(HandedVoices x, int member, long above, long below) {
        dueFraction(x.voices(member, 0, 0), x.voices(member, 0, 1), above, below);
    }

    static void dueRight(HandedVoices x, long above, long below) {
        dueFraction(x.right(0, 0, 0), x.right(0, 0, 1), above, below);
    }

    /** Just below and just above 0 .. n-1, and as far off as can be. */
    static int[] outside(int n) {
        return new int[] {-1, n, HUGE, LEAST};
    }
}
