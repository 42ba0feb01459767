/** Each promise by itself: ordinary numbers, the edges that the document names, wrong numbers. */
public final class PromiseTest {
    private static final int NONE = HandedVoices.NONE, BAD = HandedVoices.BAD, FULL = HandedVoices.FULL;
    private static final long NO = HandedVoices.NO;
    private static final int ABSENT = -5, NOTHING = -11, CAST = -12, PLACE = -13, SIZE = -14;
    private static final int HUGE = Integer.MAX_VALUE, LEAST = Integer.MIN_VALUE;

    private static int promise;
    private static int check;
    private static int wrong;

    public static void main(String[] args) {
        constants();
        members();
        thoughts();
        plainHands();
        given();
        named();
        takenBack();
        minutes();
        handsTold();
        texts();
        halls();
        faults();
        bars();
        shares();
        blindShares();
        voices();
        unrolled();
        lostOnes();
        decided();
        turning();
        power();
        few();
        best();
        bestRules();
        right();
        rightOfThoseHeard();
        surest();
        breach();
        rather();
        settle();
        heap();
        mend();
        late();
        fewest();
        tables();
        acts();
        traces();
        taken();
        counts();
        tapes();
        items();
        shifts();
        nobody();
        System.out.println(wrong == 0 ? "all promises hold" : wrong + " answers are not as due");
        if (wrong != 0) {
            System.exit(1);
        }
    }

    private static void of(int number) {
        promise = number;
        check = 0;
    }

    private static void due(long got, long want) {
        check++;
        if (got != want) {
            wrong++;
            System.out.println("promise " + promise + ", check " + check + ": " + got + ", due is " + want);
        }
    }

    private static HandedVoices with(int members) {
        HandedVoices x = new HandedVoices();
        for (int k = 0; k < members; k++) {
            x.member();
        }
        return x;
    }

    private static void feed(HandedVoices x, String text) {
        for (int k = 0; k < text.length(); k++) {
            x.feed(text.charAt(k), 1);
        }
    }

    private static int hall(HandedVoices x, String text) {
        feed(x, text);
        return x.hall();
    }

    private static void dueVoices(HandedVoices x, int member, int matter, long above, long below) {
        due(x.voices(member, matter, 0), above);
        due(x.voices(member, matter, 1), below);
    }

    private static void constants() {
        of(0);
        due(HandedVoices.NONE, -1);
        due(HandedVoices.BAD, -2);
        due(HandedVoices.STATE, -3);
        due(HandedVoices.FULL, -4);
        due(HandedVoices.NO, Long.MIN_VALUE);
    }

    private static void members() {
        of(1);
        HandedVoices x = new HandedVoices();
        due(x.count(0), 0);
        due(x.of(0, 0, 0), NONE);
        of(2);
        for (int k = 0; k < 8; k++) {
            due(x.member(), k);
        }
        due(x.member(), FULL);
        due(x.count(0), 8);
    }

    private static void thoughts() {
        of(3);
        HandedVoices x = with(2);
        due(x.think(1, 2, true, 0), 5);
        due(x.think(1, 2, true, 10), 100);
        due(x.think(1, 2, false, 7), 110);
        due(x.think(1, 2, false, 7), 7);
        due(x.think(1, 1, true, 5), 5);
        due(x.think(2, 0, true, 5), NONE);
        due(x.think(-1, 0, true, 5), NONE);
        due(x.think(0, 3, true, 99), NONE);
        due(x.think(0, -1, true, 5), NONE);
        due(x.think(0, 0, true, 11), BAD);
        due(x.think(0, 0, true, -1), BAD);
        due(x.of(0, 0, 5), 0);
        due(x.of(0, 0, 6), 5);
    }

    private static void plainHands() {
        of(4);
        HandedVoices x = with(3);
        due(x.hand(0, 0, 0), 1);
        due(x.hand(0, 0, 5), 0);
        due(x.hand(0, 0, 1), 5);
        due(x.hand(0, 0, 1), 1);
        for (int kind : new int[] {2, 3, 4, 6, -1, HUGE, LEAST}) {
            due(x.hand(0, 0, kind), BAD);
        }
        due(x.hand(3, 0, 2), NONE);
        due(x.hand(-1, 0, 1), NONE);
        due(x.hand(0, 3, 9), NONE);
        due(x.hand(0, -1, 1), NONE);
        x.give(1, 1, 2);
        x.back(1, 1, 0);
        due(x.hand(1, 1, 5), 2);
        due(x.of(1, 1, 1), 100);
        due(x.of(1, 1, 2), ABSENT);
        due(x.of(1, 0, 0), 1);
    }

    private static void given() {
        of(5);
        HandedVoices x = with(3);
        due(x.give(0, 1, 2), 1);
        due(x.give(0, 1, 1), 2);
        due(x.of(0, 1, 2), 1);
        due(x.give(0, 1, 0), BAD);
        due(x.give(0, 1, 3), NONE);
        due(x.give(0, 1, -1), NONE);
        due(x.give(3, 1, 3), NONE);
        due(x.give(0, 3, 0), NONE);
        due(x.give(HUGE, LEAST, 0), NONE);
        due(x.of(0, 1, 2), 1);
        x.back(0, 1, 0);
        due(x.share(0, 0, 1), 10);
        due(x.give(0, 1, 2), 2);
        due(x.of(0, 1, 1), 100);
        due(x.share(0, 2, 1), 10);
    }

    private static void named() {
        of(6);
        HandedVoices x = with(4);
        due(x.names(0, 0, 1, 2, 0), 1);
        due(x.names(0, 0, 2, 1, 9), 3);
        due(x.names(0, 0, 3, 1, 1), 4);
        due(x.of(0, 0, 4), 1);
        due(x.names(0, 0, 1, 2, 10), BAD);
        due(x.names(0, 0, 1, 2, -1), BAD);
        due(x.names(0, 0, 0, 2, 1), BAD);
        due(x.names(0, 0, 2, 0, 1), BAD);
        due(x.names(0, 0, 2, 2, 1), BAD);
        due(x.names(0, 0, 4, 2, 10), NONE);
        due(x.names(0, 0, 2, 4, 1), NONE);
        due(x.names(0, 0, -1, 2, 1), NONE);
        due(x.names(4, 0, 1, 2, 1), NONE);
        due(x.names(0, 3, 1, 1, 1), NONE);
        due(x.of(0, 0, 2), 3);
        x.back(0, 0, 0);
        due(x.names(0, 0, 1, 2, 4), 4);
        due(x.of(0, 0, 1), 100);
        due(x.share(0, 1, 0), 4);
        due(x.share(0, 2, 0), 6);
    }

    private static void takenBack() {
        of(7);
        HandedVoices x = with(2);
        x.give(0, 0, 1);
        due(x.back(0, 0, 3), 100);
        due(x.back(0, 0, 2), 3);
        due(x.share(0, 1, 0), 10);
        x.pass(1);
        due(x.share(0, 1, 0), 10);
        x.pass(1);
        due(x.share(0, 1, 0), 0);
        due(x.share(0, 0, 0), 10);
        due(x.of(0, 0, 0), 2);
        due(x.back(0, 0, 100), 2);
        due(x.share(0, 1, 0), 10);
        due(x.back(0, 0, 0), 100);
        due(x.back(0, 0, -1), BAD);
        due(x.back(0, 0, 101), BAD);
        due(x.back(2, 0, 101), NONE);
        due(x.back(0, 3, 1), NONE);
        due(x.back(-1, 0, 1), NONE);
        due(x.of(0, 0, 1), 0);
        due(x.back(1, 2, 7), 100);
    }

    private static void minutes() {
        of(8);
        HandedVoices x = new HandedVoices();
        due(x.pass(0), BAD);
        due(x.pass(21), BAD);
        due(x.pass(-1), BAD);
        due(x.pass(HUGE), BAD);
        due(x.pass(1), 1);
        for (int k = 1; k <= 4; k++) {
            due(x.pass(20), 1 + 20 * k);
        }
        due(x.pass(19), BAD);
        due(x.count(3), 81);
        due(x.pass(18), 99);
        due(x.pass(1), BAD);
        due(x.count(3), 99);
    }

    private static void handsTold() {
        of(9);
        HandedVoices x = with(3);
        int[] self = {1, 100, ABSENT, ABSENT, 0, 0, 5};
        for (int what = 0; what < 7; what++) {
            due(x.of(0, 0, what), self[what]);
        }
        x.think(0, 0, true, 9);
        x.names(0, 0, 2, 1, 0);
        x.back(0, 0, 44);
        int[] order = {3, 44, 2, 1, 10, 1, 9};
        for (int what = 0; what < 7; what++) {
            due(x.of(0, 0, what), order[what]);
        }
        x.names(0, 0, 2, 1, 3);
        due(x.of(0, 0, 4), 3);
        x.give(0, 0, 2);
        due(x.of(0, 0, 4), 10);
        due(x.of(0, 0, 3), ABSENT);
        x.hand(0, 0, 5);
        due(x.of(0, 0, 2), ABSENT);
        due(x.of(0, 0, 4), 0);
        x.hand(0, 0, 0);
        due(x.of(0, 0, 0), 0);
        due(x.of(0, 0, 4), 0);
        due(x.of(0, 0, 7), NONE);
        due(x.of(0, 0, -1), NONE);
        due(x.of(3, 0, 0), NONE);
        due(x.of(0, 3, 0), NONE);
    }

    private static void texts() {
        of(10);
        HandedVoices x = new HandedVoices();
        due(x.feed(0x63617020, 4), 4);
        due(x.feed(0x7A7A3132, 2), 6);
        due(x.feed(7, 0), 6);
        due(x.feed(7, 5), BAD);
        due(x.feed(7, -1), BAD);
        due(x.count(2), 6);
        due(x.hall(), 1);
        due(x.count(2), 0);
        due(x.feed(0xFFFF63, 1), 1);
        for (int k = 0; k < 24; k++) {
            x.feed(0, 4);
        }
        due(x.feed(0, 4), FULL);
        due(x.count(2), 97);
        due(x.feed(0, 3), 100);
        due(x.feed(0, 1), FULL);
        due(x.feed(0, 0), 100);
        due(x.feed(0, 9), BAD);
        due(x.hall(), -11);
        due(x.count(2), 0);
    }

    private static void halls() {
        of(11);
        HandedVoices x = with(3);
        due(hall(x, "cap 0"), 1);
        due(x.heap(0, 0), 0);
        due(hall(x, "cap 001;cap 2;need 0 1;need 2 3;ring b;ring l"), 2);
        x.give(0, 0, 1);
        x.give(2, 0, 1);
        due(x.heap(0, 0), 2);
        due(hall(x, "bar a=2&b=1;bar a=0&b=1"), 3);
        due(x.heap(0, 0), 1);
        due(hall(x, "cap 1 "), -15);
        due(x.heap(0, 0), 1);
        due(x.barred(0, 1, 0), 1);
        due(hall(x, "need 3 9"), 4);
        due(x.heap(0, 0), 3);
        due(x.barred(0, 1, 0), 0);
        due(x.count(1), 4);
        due(hall(x, "cap 1;cap 1;cap 1;cap 1;cap 1;cap 1"), 5);
    }

    private static void faults() {
        of(11);
        check = 100;
        HandedVoices x = with(1);
        String[] texts = {"", "x", "b", "ba", "bar", "bar ", "bar  a=1", "bar a", "bar a=", "bar a=1", "bar a=1234",
            "bar a==1", "bar c=1", "bar a=1&", "bar a=1|", "bar a=1)", "bar (a=1", "bar (a=1)", "bar (a=1)1",
            "bar ((((a=1))))", "bar (((((a=1)))))", "bar !!!!a=1", "bar !!!!!a=1", "bar !(!(a=1))", "bar !(!((a=1)))",
            "bar !(!(!a=1))", "bar a=1&!(b>2|m<3)&(s=4)|q=010", "bar a=1 ", "bar a=1;", "bar a=1;;", "bar (a=1;",
            "cap", "cap 12", "cap 1234", "cap -1", "cap 1x", "need", "need 1", "need 1 ", "need 1 0", "need 1 00",
            "need 1 000", "need 1 0;", "need 1 00;cap 1", "need 1 001", "need 0 1", "need 1234 1", "need 12 3456",
            "need  1 1", "ring", "ring ", "ring l", "ring b", "ring lb", "ring x", "cap 1;ring b;need 3 4;bar m=1;cap 2;ring l",
            "cap 1;cap 1;cap 1;cap 1;cap 1;cap 1;", "cap 1;cap 1;cap 1;cap 1;cap 1;cap 1x", ";", "cap 1;", "cap 1;x", "CAP 1",
            "bar (a=1)&(b=2)&(m=0)&(s=3)&(q=4)&(a=2)", "bar !(a=1&b=1)|!(a=2&b=2)", "bar (a=1)!b=2", "bar !&a=1"};
        int[] places = {0, 0, 1, 2, 3, 4, 4, 5, 6, -1, 9,
            6, 4, 8, 8, 7, 8, -1, 9,
            -1, 8, -1, 8, -1, 8,
            8, -1, 7, 8, 8, 8,
            3, -1, 7, 4, 5, 4, 6, 7, 8, 9,
            9, 8, 9, -1, -1, 8, 11,
            5, 4, 5, -1, -1, 6, 5, -1,
            35, 35, 0, 6, 6, 0,
            -1, -1, 9, 5};
        int halls = 0;
        for (int k = 0; k < texts.length; k++) {
            due(hall(x, texts[k]), places[k] < 0 ? ++halls : -10 - places[k]);
        }
        due(x.count(1), halls);
        due(hall(x, "bar a=1" + "&a=1".repeat(23)), halls + 1);
        due(hall(x, "bar a=1" + "&a=1".repeat(23) + "|"), -110);
    }

    private static void bars() {
        of(12);
        HandedVoices x = with(4);
        due(x.barred(0, 1, 0), 0);
        due(x.barred(1, 1, 0), BAD);
        due(x.barred(4, 1, 0), NONE);
        due(x.barred(1, 4, 0), NONE);
        due(x.barred(4, 4, 0), NONE);
        due(x.barred(1, 1, 3), NONE);
        hall(x, "bar a=1&b=2|m=2;bar s>8&q<3");
        due(x.barred(1, 2, 0), 1);
        due(x.barred(2, 1, 0), 0);
        due(x.barred(3, 0, 2), 1);
        x.think(3, 1, false, 9);
        due(x.barred(0, 3, 1), 0);
        x.think(0, 1, false, 2);
        due(x.barred(0, 3, 1), 1);
        due(x.barred(3, 0, 1), 0);
        due(x.barred(0, 3, 0), 0);
        x.think(0, 1, false, 3);
        due(x.barred(0, 3, 1), 0);
        hall(x, "bar a=0|a=1&b=0");
        due(x.barred(0, 3, 1), 1);
        due(x.barred(1, 3, 1), 0);
        hall(x, "bar (a=0|a=1)&b=0");
        due(x.barred(0, 3, 1), 0);
        hall(x, "bar !a=0&b=3");
        due(x.barred(1, 3, 1), 1);
        due(x.barred(0, 3, 1), 0);
        due(x.barred(1, 2, 1), 0);
        hall(x, "bar !(a=0&b=3)");
        due(x.barred(0, 3, 1), 0);
        due(x.barred(1, 2, 1), 1);
        hall(x, "bar !!a<2;bar !b<003");
        due(x.barred(1, 2, 1), 1);
        due(x.barred(2, 3, 1), 1);
        due(x.barred(2, 1, 1), 0);
        hall(x, "bar s=5&a=0&b=3");
        due(x.member(), 4);
        due(x.barred(0, 3, 0), 1);
        due(x.barred(0, 3, 1), 0);
        hall(x, "bar b=4");
        due(x.barred(0, 4, 0), 1);
        hall(x, "bar m=0;bar !a<0");
        due(x.barred(0, 4, 0), 1);
        hall(x, "bar m=0;bar a<0");
        due(x.barred(0, 4, 1), 0);
        due(x.barred(0, 4, 0), 1);
    }

    private static void shares() {
        of(13);
        HandedVoices x = with(4);
        due(x.share(0, 0, 0), 10);
        due(x.share(0, 1, 0), 0);
        due(x.share(4, 0, 0), NONE);
        due(x.share(0, 4, 0), NONE);
        due(x.share(0, 0, 3), NONE);
        due(x.share(0, 0, -1), NONE);
        x.names(0, 0, 1, 2, 3);
        due(x.share(0, 1, 0), 3);
        due(x.share(0, 2, 0), 7);
        due(x.share(0, 0, 0), 0);
        x.names(1, 0, 2, 3, 0);
        due(x.share(1, 2, 0), 10);
        due(x.share(1, 3, 0), 0);
        x.give(2, 0, 3);
        hall(x, "bar b=2");
        due(x.share(0, 0, 0), 7);
        due(x.share(0, 2, 0), 0);
        due(x.share(1, 3, 0), 10);
        hall(x, "bar b>1");
        due(x.share(1, 1, 0), 10);
        due(x.share(2, 2, 0), 10);
        x.hand(3, 0, 0);
        due(x.share(3, 3, 0), 10);
    }

    private static void blindShares() {
        of(13);
        check = 100;
        HandedVoices x = with(4);
        x.hand(0, 0, 5);
        due(x.share(0, 1, 0), 10);
        x.think(0, 0, true, 10);
        x.think(3, 0, true, 6);
        x.think(2, 0, true, 6);
        x.think(2, 1, true, 0);
        due(x.share(0, 2, 0), 10);
        due(x.share(0, 0, 0), 0);
        hall(x, "bar b=2");
        due(x.share(0, 3, 0), 10);
        hall(x, "bar s>5");
        due(x.share(0, 1, 0), 10);
        hall(x, "bar a=0");
        due(x.share(0, 0, 0), 10);
        HandedVoices alone = with(1);
        alone.hand(0, 0, 5);
        due(alone.share(0, 0, 0), 10);
        due(alone.voices(0, 0, 0), 1);
    }

    private static void voices() {
        of(14);
        HandedVoices x = with(5);
        dueVoices(x, 0, 0, 1, 1);
        x.give(0, 0, 1);
        x.give(1, 0, 2);
        x.names(3, 0, 2, 4, 3);
        dueVoices(x, 2, 0, 33, 10);
        dueVoices(x, 4, 0, 17, 10);
        dueVoices(x, 0, 0, 0, 1);
        dueVoices(x, 2, 1, 1, 1);
        hall(x, "cap 2");
        dueVoices(x, 2, 0, 2, 1);
        dueVoices(x, 4, 0, 17, 10);
        hall(x, "bar b=4");
        dueVoices(x, 3, 0, 7, 10);
        dueVoices(x, 4, 0, 1, 1);
        due(x.voices(5, 0, 0), NO);
        due(x.voices(-1, 0, 0), NO);
        due(x.voices(0, 3, 0), NO);
        due(x.voices(0, 0, 2), NO);
        due(x.voices(0, 0, -1), NO);
    }

    /** Rings of parts: 0 hands 5 of ten to 1 and 5 to 2, and 1 hands 5 back and 5 to 2. */
    private static void unrolled() {
        of(14);
        check = 100;
        HandedVoices x = with(3);
        x.names(0, 0, 1, 2, 5);
        x.names(1, 0, 0, 2, 5);
        hall(x, "bar a=1&b=2");
        // through 0: 1 + t/2, through 1: 1 + s/2; both 2, and 1 speaks with half
        dueVoices(x, 1, 0, 1, 1);
        dueVoices(x, 2, 0, 2, 1);
        hall(x, "bar a=0&b=2|a=1&b=2");
        dueVoices(x, 0, 0, 1, 1);
        x.names(0, 0, 1, 2, 9);
        // through 0: 1 + t/2, through 1: 1 + 9s/10: 30/11 and 38/11
        dueVoices(x, 0, 0, 3, 11);
        dueVoices(x, 1, 0, 19, 11);
        HandedVoices y = with(8);
        for (int i = 0; i < 7; i++) {
            y.names(i, 2, (i + 1) % 8, (i + 3) % 8, i < 6 ? i + 1 : 9);
        }
        y.hand(4, 2, 1);
        dueVoices(y, 7, 2, 278444, 61211);
        dueVoices(y, 4, 2, 211244, 61211);
    }

    private static void lostOnes() {
        of(15);
        HandedVoices x = with(6);
        due(x.lost(0), 0);
        due(x.lost(3), NONE);
        due(x.lost(-1), NONE);
        x.give(0, 0, 1);
        x.give(1, 0, 0);
        x.names(2, 0, 0, 3, 9);
        x.give(4, 0, 0);
        due(x.lost(0), 19);
        due(x.lost(1), 0);
        dueVoices(x, 0, 0, 0, 1);
        // of the two that 2 is, nine tenths are lost with 0
        dueVoices(x, 3, 0, 11, 10);
        x.names(1, 0, 0, 3, 9);
        due(x.lost(0), 0);
        // the voice goes round till it comes to 3: 0, 1, 4 and 2 have all come there
        dueVoices(x, 3, 0, 5, 1);
        x.give(5, 0, 3);
        x.give(3, 0, 5);
        due(x.lost(0), 63);
        hall(x, "bar a=5");
        due(x.lost(0), 0);
        dueVoices(x, 5, 0, 6, 1);
    }

    private static void decided() {
        of(16);
        HandedVoices x = with(4);
        due(x.decided(0), 0);
        x.think(0, 0, true, 5);
        x.think(1, 0, true, 5);
        due(x.decided(0), 0);
        x.give(2, 0, 1);
        due(x.decided(0), 1);
        due(x.decided(1), 0);
        hall(x, "need 3 4");
        due(x.decided(0), 0);
        hall(x, "need 2 3;cap 1");
        due(x.decided(0), 0);
        hall(x, "need 1 2;cap 1");
        due(x.decided(0), 1);
        hall(x, "need 0 999");
        due(x.decided(1), 0);
        x.think(0, 1, true, 5);
        due(x.decided(1), 1);
        hall(x, "need 0 1;cap 0");
        due(x.decided(0), 0);
        due(x.decided(3), NONE);
        due(x.decided(-1), NONE);
    }

    private static void turning() {
        of(17);
        HandedVoices x = with(4);
        due(x.turning(0), 0);
        x.think(0, 0, true, 5);
        x.think(1, 0, true, 5);
        due(x.turning(0), 12);
        x.think(2, 0, true, 5);
        due(x.turning(0), 7);
        x.give(3, 0, 0);
        due(x.turning(0), 1);
        x.think(2, 0, false, 5);
        x.think(1, 0, false, 5);
        due(x.turning(0), 6);
        due(x.turning(3), NONE);
        due(x.turning(-1), NONE);
    }

    private static void power() {
        of(18);
        HandedVoices x = with(4);
        due(x.power(3, 0), 3);
        x.give(0, 0, 1);
        // 1 has two of four, 2 and 3 one each
        due(x.power(1, 0), 3);
        due(x.power(2, 0), 1);
        due(x.power(0, 0), 0);
        hall(x, "need 3 4");
        due(x.power(2, 0), 1);
        due(x.power(1, 0), 1);
        hall(x, "need 1 1");
        due(x.power(1, 0), 0);
        due(x.power(4, 0), NONE);
        due(x.power(-1, 0), NONE);
        due(x.power(0, 3), NONE);
    }

    private static void few() {
        of(19);
        HandedVoices x = with(5);
        due(x.few(0), 7);
        x.give(4, 0, 3);
        due(x.few(0), 9);
        x.give(0, 0, 3);
        due(x.few(0), 8);
        hall(x, "need 1 1");
        due(x.few(0), ABSENT);
        hall(x, "need 0 1");
        due(x.few(0), 2);
        due(x.few(1), 1);
        HandedVoices y = with(8);
        hall(y, "need 7 8");
        due(y.few(0), 255);
        due(x.few(3), NONE);
        due(x.few(-1), NONE);
    }

    private static void best() {
        of(20);
        HandedVoices x = with(4);
        due(x.best(0, -1), 1);
        due(x.best(0, 0), NONE);
        x.names(0, 0, 1, 3, 0);
        x.names(1, 0, 0, 3, 0);
        due(x.best(0, -1), 3);
        due(x.best(0, 0), 1);
        due(x.best(0, 1), 0);
        due(x.best(0, 2), NONE);
        due(x.best(0, 4), NONE);
        due(x.best(0, -2), NONE);
        due(x.best(3, -1), NONE);
        due(x.best(-1, 0), NONE);
        due(x.best(1, -1), 1);
        hall(x, "bar a=0&b=3");
        due(x.best(0, -1), 1);
        due(x.best(0, 0), 0);
        due(x.best(0, 1), 1);
        hall(x, "bar b=3");
        due(x.best(0, -1), 0);
        due(x.best(0, 0), ABSENT);
        due(x.best(0, 3), NONE);
        hall(x, "bar a=0&b=1");
        due(x.best(0, -1), 2);
        due(x.best(0, 0), 1);
        due(x.best(0, 1), 0);
        hall(x, "bar a=0");
        due(x.best(0, -1), 0);
        hall(x, "ring b");
        x.back(0, 0, 0);
        due(x.best(0, 0), NONE);
        due(x.best(0, -1), 2);
        due(x.best(0, 1), 0);
        x.give(2, 1, 3);
        x.give(3, 1, 2);
        x.names(0, 1, 1, 2, 0);
        due(x.best(1, -1), 0);
        due(x.best(1, 0), ABSENT);
        HandedVoices y = with(8);
        for (int i = 0; i < 7; i++) {
            y.names(i, 0, (i + 1) % 7, 7, 0);
        }
        due(y.best(0, -1), 127);
        due(y.best(0, 0), 1);
        due(y.best(0, 6), 0);
        hall(y, "bar b<7");
        due(y.best(0, -1), 1);
        due(y.best(0, 6), 1);
    }

    /** What the two rings make of orders that go round. */
    private static void bestRules() {
        of(20);
        check = 100;
        HandedVoices x = with(4);
        x.names(0, 0, 1, 3, 0);
        x.names(1, 0, 2, 3, 0);
        x.names(2, 0, 0, 3, 0);
        due(x.lost(0), 7);
        hall(x, "ring b");
        due(x.lost(0), 0);
        due(x.share(0, 3, 0), 10);
        due(x.share(1, 2, 0), 10);
        due(x.share(2, 0, 0), 10);
        dueVoices(x, 3, 0, 4, 1);
        hall(x, "ring b;ring l");
        due(x.lost(0), 7);
        hall(x, "ring b;bar b=3");
        due(x.best(0, -1), 0);
        due(x.lost(0), 7);
        hall(x, "ring b;bar a=0&b=3");
        due(x.share(0, 1, 0), 10);
        due(x.share(1, 3, 0), 10);
        hall(x, "ring b;bar a<2&b=3");
        due(x.share(2, 3, 0), 10);
    }

    private static void right() {
        of(21);
        HandedVoices x = with(3);
        due(x.right(0, 0, 0), 1);
        due(x.right(0, 0, 1), 2);
        x.think(0, 0, false, 9);
        x.think(1, 0, false, 9);
        // two of three, with 9, 9 and 5 of ten
        due(x.right(0, 0, 0), 9);
        due(x.right(0, 0, 1), 10);
        x.think(2, 0, false, 7);
        due(x.right(0, 0, 0), 117);
        due(x.right(0, 0, 1), 125);
    }

    private static void rightOfThoseHeard() {
        of(21);
        check = 100;
        HandedVoices x = with(3);
        x.think(0, 0, false, 9);
        x.think(1, 0, true, 9);
        x.think(2, 0, false, 7);
        x.give(0, 0, 2);
        x.give(1, 0, 2);
        due(x.right(0, 0, 0), 7);
        due(x.right(0, 0, 1), 10);
        due(x.right(0, 1, 0), 117);
        due(x.right(0, 1, 1), 125);
        hall(x, "cap 0;need 0 1");
        due(x.right(0, 0, 0), 0);
        due(x.right(0, 0, 1), 1);
        hall(x, "need 0 1");
        due(x.right(0, 1, 0), 997);
        due(x.right(0, 1, 1), 1000);
        x.think(2, 0, false, 10);
        due(x.right(0, 0, 0), 1);
        due(x.right(0, 0, 1), 1);
        due(x.right(3, 0, 0), NO);
        due(x.right(0, 2, 0), NO);
        due(x.right(0, -1, 0), NO);
        due(x.right(0, 0, 2), NO);
        due(x.right(0, 0, -1), NO);
    }

    private static void surest() {
        of(22);
        HandedVoices x = with(3);
        x.think(0, 0, false, 9);
        x.think(1, 0, true, 9);
        x.think(2, 0, false, 10);
        x.give(2, 0, 0);
        due(x.surest(0), 2);
        due(x.surest(1), 0);
        x.think(2, 0, false, 9);
        due(x.surest(0), 0);
        x.think(0, 0, true, 0);
        due(x.surest(0), 1);
        due(x.surest(3), NONE);
        due(x.surest(-1), NONE);
        due(new HandedVoices().surest(0), ABSENT);
        due(new HandedVoices().surest(3), NONE);
    }

    private static void breach() {
        of(23);
        HandedVoices x = with(5);
        due(x.breach(0), ABSENT);
        x.names(0, 0, 1, 3, 0);
        x.names(1, 0, 0, 4, 0);
        hall(x, "ring b;cap 2");
        due(x.breach(0), ABSENT);
        due(x.breach(3), NONE);
        due(x.breach(-1), NONE);
        due(new HandedVoices().breach(2), ABSENT);
        due(x.of(2, 0, 0), 1);
    }

    private static void rather() {
        of(24);
        HandedVoices x = with(3);
        x.think(0, 0, false, 8);
        // 8, 5, 5 of ten: 65 of a hundred; as only 0 speaks for two: 80
        due(x.rather(0), 11);
        hall(x, "bar b=0");
        due(x.rather(0), ABSENT);
        hall(x, "bar a=1&b=0");
        due(x.rather(0), 21);
        x.think(0, 0, false, 2);
        // 2, 5, 5: 35 of a hundred; 0 gives to 1: 50
        due(x.rather(0), 2);
        hall(x, "bar b=1");
        due(x.rather(0), 3);
        hall(x, "bar a=0");
        due(x.rather(0), 13);
        hall(x, "need 66 100");
        // two of three are just enough: 0 alone is right with 2 of ten, 1 with 5
        due(x.rather(0), 2);
        // two of three aren't: all must be right, or, if 0 gives to 1, both
        hall(x, "need 67 100");
        due(x.rather(0), 2);
        hall(x, "ring l");
        x.give(0, 1, 1);
        x.think(0, 1, false, 9);
        x.think(1, 1, false, 1);
        x.think(2, 1, false, 6);
        due(x.rather(1), 0);
        x.back(0, 1, 0);
        // 0 speaks for itself now, and with 9 of ten alone is best off: 1 gives to it
        due(x.rather(1), 3);
        due(x.rather(3), NONE);
        due(x.rather(-1), NONE);
        due(x.of(0, 1, 0), 2);
        due(x.of(0, 1, 1), 0);
    }

    private static void settle() {
        of(25);
        HandedVoices x = with(3);
        x.think(0, 0, false, 8);
        x.back(1, 0, 0);
        due(x.settle(0), 1);
        due(x.of(1, 0, 0), 2);
        due(x.of(1, 0, 1), 100);
        due(x.of(1, 0, 2), 0);
        due(x.of(1, 0, 4), 10);
        due(x.rather(0), ABSENT);
        due(x.settle(0), 0);
        x.think(1, 0, false, 10);
        // 1 speaks for itself again; then 8, 10, 5: 90; 0 gives to 1: all
        due(x.settle(0), 2);
        due(x.of(1, 0, 0), 1);
        due(x.of(0, 0, 2), 1);
        due(x.right(0, 0, 0), 1);
        HandedVoices y = with(8);
        hall(y, "need 1 3");
        int[] sure = {8, 7, 4, 3, 4, 9, 4, 9};
        for (int i = 0; i < 8; i++) {
            y.think(i, 1, true, sure[i]);
        }
        y.names(0, 1, 3, 6, 0);
        y.names(2, 1, 6, 4, 0);
        y.give(7, 1, 6);
        due(y.settle(1), 12);
        due(y.rather(1), 3);
        due(y.of(0, 1, 0), 1);
        due(x.settle(3), NONE);
        due(x.settle(-1), NONE);
        due(new HandedVoices().settle(0), 0);
    }

    private static void heap() {
        of(26);
        HandedVoices x = with(4);
        due(x.heap(0, 0), 1);
        due(x.heap(0, 1), 1);
        x.names(0, 0, 1, 2, 4);
        due(x.heap(0, 0), 8);
        due(x.heap(0, 1), 5);
        hall(x, "cap 1");
        due(x.heap(0, 0), 1);
        due(x.heap(0, 2), NO);
        due(x.heap(0, -1), NO);
        due(x.heap(3, 0), NO);
        due(new HandedVoices().heap(0, 0), 0);
        due(new HandedVoices().heap(0, 1), 1);
    }

    private static void mend() {
        of(27);
        HandedVoices x = with(5);
        x.give(0, 0, 1);
        x.give(1, 0, 2);
        x.names(3, 0, 2, 4, 3);
        x.think(2, 0, true, 8);
        x.think(4, 0, false, 6);
        due(x.mend(0, 2, 1), 2);
        due(x.mend(0, 1, 8), 11);
        due(x.mend(0, 1, 2), ABSENT);
        due(x.mend(0, 4, 0), 0);
        due(x.mend(0, 8, 8), 0);
        due(x.mend(0, 3, 0), ABSENT);
        due(x.mend(0, 0, 8), ABSENT);
        x.think(2, 0, true, 3);
        // with 0 or with 1 for itself: any two of three, with 5, 3 and 6 of ten
        due(x.mend(0, 8, 1), 1);
        due(x.mend(0, 9, 0), BAD);
        due(x.mend(0, -1, 0), BAD);
        due(x.mend(0, 0, 9), BAD);
        due(x.mend(0, 0, -1), BAD);
        due(x.mend(3, 9, 0), NONE);
        due(x.mend(-1, 0, 0), NONE);
        due(x.of(1, 0, 0), 2);
        due(new HandedVoices().mend(0, 0, 0), 0);
    }

    private static void late() {
        of(28);
        HandedVoices x = with(3);
        x.think(0, 0, true, 5);
        x.give(1, 0, 0);
        due(x.late(0), ABSENT);
        x.back(1, 0, 50);
        due(x.decided(0), 1);
        due(x.late(0), 99);
        x.give(2, 0, 0);
        x.back(2, 0, 50);
        x.back(1, 0, 100);
        due(x.late(0), ABSENT);
        x.think(1, 0, true, 5);
        x.give(0, 0, 2);
        x.give(2, 0, 1);
        x.give(1, 0, 2);
        // all are lost till 30; from 30 on 2 speaks and says no, from 60 on 1 says yes for two
        x.back(2, 0, 60);
        due(x.late(0), ABSENT);
        x.back(1, 0, 30);
        due(x.late(0), 59);
        HandedVoices y = with(2);
        y.think(1, 0, true, 5);
        y.give(0, 0, 1);
        y.back(0, 0, 99);
        due(y.late(0), 99);
        y.hand(0, 0, 1);
        due(y.late(0), ABSENT);
        y.give(0, 0, 1);
        y.back(0, 0, 7);
        y.names(1, 0, 0, 7, 9);
        due(y.decided(0), 1);
        due(y.late(0), 99);
        due(x.late(3), NONE);
        due(x.late(-1), NONE);
        for (int k = 0; k < 3; k++) {
            x.pass(20);
        }
        due(x.decided(0), 0);
        due(x.late(0), ABSENT);
    }

    private static void fewest() {
        of(29);
        HandedVoices x = with(5);
        due(x.fewest(0), 7);
        x.think(0, 0, true, 5);
        due(x.fewest(0), 6);
        x.give(4, 0, 3);
        due(x.fewest(0), 8);
        x.give(0, 0, 3);
        x.give(3, 0, 2);
        // 2 has four of five voices; 4 alone, for itself, has one
        due(x.fewest(0), 4);
        x.give(2, 0, 1);
        x.give(1, 0, 2);
        // all are lost: one that speaks for itself has them all
        due(x.fewest(0), 2);
        x.think(1, 0, true, 5);
        due(x.fewest(0), 4);
        x.hand(1, 0, 1);
        due(x.fewest(0), 0);
        hall(x, "need 1 1");
        due(x.fewest(0), ABSENT);
        HandedVoices y = with(8);
        hall(y, "need 7 8");
        due(y.fewest(0), 255);
        due(x.fewest(3), NONE);
        due(x.fewest(-1), NONE);
        due(x.of(2, 0, 0), 2);
    }

    private static void tables() {
        of(30);
        HandedVoices x = with(3);
        x.names(0, 0, 1, 2, 4);
        due(x.table(0, 0, 0), 100);
        due(x.tape(0, 3, 8), 1);
        due(x.table(0, 0, 0), 0);
        long[] row = {9, 0, 1, 7, 5, 8, 5, 1};
        for (int k = 0; k < row.length; k++) {
            x.item(0, k, row[k]);
        }
        due(x.table(0, 1, 0), 3);
        x.item(0, 5, 14);
        x.item(0, 6, 10);
        due(x.table(0, 1, 0), 2);
        x.item(0, 5, 8);
        x.item(0, 6, 5);
        due(x.table(0, 3, 0), 0);
        due(x.table(0, 8, 0), 100);
        due(x.table(0, HUGE, 0), 100);
        due(x.table(0, -1, 0), 100);
        due(x.table(0, LEAST, 0), 100);
        x.tape(1, 3, 7);
        x.shift(0, 1, 1, 0, 7);
        due(x.table(1, 0, 0), 3);
        due(x.table(1, 1, 0), 0);
        x.tape(2, 3, 5);
        x.shift(1, 0, 2, 0, 5);
        due(x.table(2, 0, 0), 102);
        x.tape(2, 3, 4);
        x.shift(1, 0, 2, 0, 4);
        due(x.table(2, 0, 0), 102);
        x.tape(2, 2, 4);
        due(x.table(2, 0, 0), CAST);
        due(x.table(6, 0, 0), NONE);
        due(x.table(-1, 0, 0), NONE);
        due(x.table(2, 0, 3), NONE);
        due(new HandedVoices().table(0, 0, 0), 0);
    }

    private static void acts() {
        of(31);
        HandedVoices x = with(6);
        x.hand(0, 1, 0);
        x.give(2, 1, 0);
        x.names(3, 1, 0, 1, 0);
        x.names(4, 1, 0, 1, 3);
        x.hand(5, 1, 5);
        // kinds 0 to 5 are the hands of 0 to 5; what each act answers with 7, and the bodies that run
        int[][] gives = {{7, 10}, {8, 10}, {16, 30, 10}, {17, 30, 10}, {19, 51, 30, 10}, {19, 30, 10}};
        int[][] holds = {{6, 11, 10}, {7, 11, 10}, {-15, 31, 11, 30, 10}, {-11, 40, 31, 11, 30, 10, 30, 10},
            {-18, 31, 11, 51, 30, 10}, {-18, 31, 11, 30, 10}};
        int[][] tells = {{12, 12, 11, 10}, {9, 20, 12, 11, 10}, {-30, 12, 31, 11, 30, 10},
            {-22, 12, 40, 31, 11, 30, 10, 30, 10}, {-20, 50, 12, 31, 11, 51, 30, 10},
            {18, 60, 31, 11, 30, 10, 12, 31, 11, 30, 10}};
        int[][][] acts = {gives, holds, tells};
        for (int act = 0; act < 3; act++) {
            for (int kind = 0; kind < 6; kind++) {
                int[] told = acts[act][kind];
                due(x.act(kind, 1, act, 7), told[0]);
                due(x.count(4), told.length - 1);
                for (int k = 1; k < told.length; k++) {
                    due(x.trace(k - 1), told[k]);
                }
                due(x.trace(told.length - 1), NONE);
            }
        }
        x.back(5, 1, 0);
        due(x.act(5, 1, 1, 7), -18);
        due(x.act(0, 1, 0, HUGE), HUGE);
        due(x.act(1, 1, 0, HUGE), LEAST);
        due(x.act(2, 1, 0, 1 << 30), LEAST + 2);
        due(x.act(2, 1, 0, LEAST), 2);
        due(x.act(0, 2, 1, 0), -2);
    }

    private static void traces() {
        of(32);
        HandedVoices x = with(1);
        due(x.trace(0), NONE);
        due(x.act(0, 0, 2, 7), 14 ^ 7);
        due(x.trace(0), 20);
        due(x.trace(3), 10);
        due(x.trace(4), NONE);
        due(x.trace(-1), NONE);
        due(x.trace(HUGE), NONE);
        int[][] wrongs = {{1, 0, 0}, {-1, 0, 0}, {0, 3, 0}, {0, -1, 0}, {0, 0, 3}, {0, 0, -1}};
        for (int[] call : wrongs) {
            x.act(0, 0, 2, 7);
            due(x.act(call[0], call[1], call[2], 7), 0);
            due(x.count(4), 0);
            due(x.trace(0), NONE);
        }
    }

    private static void taken() {
        of(33);
        HandedVoices x = with(6);
        x.hand(0, 1, 0);
        x.give(2, 1, 0);
        x.names(3, 1, 0, 1, 0);
        x.names(4, 1, 0, 1, 3);
        x.hand(5, 1, 5);
        String[] fits = {"0", "01", "02", "023", "024", "025"};
        for (int kind = 0; kind < 6; kind++) {
            for (int k = 0; k < 6; k++) {
                due(x.taken(kind, 1, k), fits[kind].indexOf('0' + k) >= 0 ? kind : CAST);
            }
        }
        due(x.taken(6, 1, 0), NOTHING);
        due(x.taken(-1, 1, 0), NOTHING);
        due(x.taken(0, 3, 0), NOTHING);
        due(x.taken(0, -1, 0), NOTHING);
        due(x.taken(9, 9, 6), BAD);
        due(x.taken(0, 0, -1), BAD);
    }

    private static void counts() {
        of(34);
        HandedVoices x = with(2);
        due(x.count(0), 2);
        due(x.count(1), 0);
        hall(x, "cap 1");
        hall(x, "cap x");
        due(x.count(1), 1);
        x.feed(0, 3);
        due(x.count(2), 3);
        due(x.count(3), 0);
        x.pass(7);
        due(x.count(3), 7);
        due(x.count(4), 0);
        x.act(1, 0, 0, 0);
        due(x.count(4), 1);
        due(x.count(5), BAD);
        due(x.count(-1), BAD);
        due(x.count(LEAST), BAD);
    }

    private static void tapes() {
        of(35);
        HandedVoices x = new HandedVoices();
        due(x.tape(0, 0, 60), 1);
        due(x.item(0, 59, 3), 1);
        due(x.tape(0, 0, 61), BAD);
        due(x.tape(0, 5, -1), BAD);
        due(x.tape(0, -2, 1), BAD);
        due(x.tape(0, 4, -1), SIZE);
        due(x.tape(0, 0, LEAST), SIZE);
        due(x.tape(6, 9, -1), NONE);
        due(x.tape(-1, 0, 1), NONE);
        due(x.read(0, 59), 3);
        due(x.tape(0, 0, 60), 1);
        due(x.read(0, 59), 0);
        due(x.tape(5, 1, 0), 1);
        due(x.read(5, 0), NO);
        due(x.item(5, 0, 1), PLACE);
        due(x.tape(0, -1, -7), 1);
        due(x.item(0, 0, 1), NOTHING);
        due(x.tape(0, -1, 99), 1);
        due(x.read(0, 0), NO);
    }

    private static void items() {
        of(36);
        HandedVoices x = new HandedVoices();
        long v = 0x123456789ABCDEF0L;
        long[] kept = {(byte) 0xF0, (short) 0xDEF0, 0x9ABCDEF0, v, 1};
        for (int sort = 0; sort < 5; sort++) {
            due(x.item(sort, 1, v), NOTHING);
            x.tape(sort, sort, 3);
            due(x.item(sort, 1, v), 1);
            due(x.read(sort, 1), kept[sort]);
            due(x.read(sort, 0), 0);
            due(x.read(sort, 2), 0);
            due(x.item(sort, 3, 1), PLACE);
            due(x.item(sort, -1, 1), PLACE);
        }
        due(x.item(4, 1, 256), 1);
        due(x.read(4, 1), 1);
        due(x.item(4, 1, 0), 1);
        due(x.read(4, 1), 0);
        due(x.item(6, 0, 1), NONE);
        due(x.item(-1, 0, 1), NONE);
        due(x.item(3, 0, Long.MAX_VALUE), 1);
        of(37);
        due(x.read(3, 0), Long.MAX_VALUE);
        due(x.read(3, 3), NO);
        due(x.read(3, -1), NO);
        due(x.read(3, LEAST), NO);
        due(x.read(5, 0), NO);
        due(x.read(6, 0), NO);
        due(x.read(-1, 0), NO);
    }

    private static void shifts() {
        of(38);
        HandedVoices x = new HandedVoices();
        x.tape(0, 2, 5);
        x.tape(1, 2, 3);
        x.tape(2, 3, 5);
        for (int k = 0; k < 5; k++) {
            x.item(0, k, k + 1);
        }
        due(x.shift(0, 0, 0, 1, 4), 4);
        long[] up = {1, 1, 2, 3, 4};
        for (int k = 0; k < 5; k++) {
            due(x.read(0, k), up[k]);
        }
        due(x.shift(0, 2, 0, 0, 3), 3);
        long[] down = {2, 3, 4, 3, 4};
        for (int k = 0; k < 5; k++) {
            due(x.read(0, k), down[k]);
        }
        due(x.shift(0, 1, 1, 1, 2), 2);
        due(x.read(1, 0), 0);
        due(x.read(1, 1), 3);
        due(x.read(1, 2), 4);
        due(x.shift(0, 5, 1, 3, 0), 0);
        due(x.shift(0, 6, 1, 0, 0), PLACE);
        due(x.shift(0, 0, 1, 4, 0), PLACE);
        due(x.shift(0, 0, 1, 0, 4), PLACE);
        due(x.shift(1, 0, 0, 0, 4), PLACE);
        due(x.shift(0, 0, 1, 0, -1), PLACE);
        due(x.shift(0, -1, 1, 0, 1), PLACE);
        due(x.shift(0, 0, 1, -1, 1), PLACE);
        due(x.shift(0, HUGE, 1, 0, HUGE), PLACE);
        due(x.shift(0, 1, 1, 1, HUGE), PLACE);
        due(x.shift(0, 0, 2, 0, -1), CAST);
        due(x.shift(0, 0, 3, 0, -1), NOTHING);
        due(x.shift(3, 0, 0, 0, 1), NOTHING);
        due(x.shift(3, 0, 6, 0, 1), NONE);
        due(x.shift(-1, 0, 0, 0, 1), NONE);
    }

    /** Where there are no members. */
    private static void nobody() {
        of(1);
        check = 100;
        HandedVoices x = new HandedVoices();
        due(x.lost(0), 0);
        due(x.decided(0), 0);
        due(x.turning(0), 0);
        due(x.few(0), ABSENT);
        due(x.best(0, -1), 1);
        due(x.right(0, 0, 0), 0);
        due(x.right(0, 1, 1), 1);
        due(x.breach(0), ABSENT);
        due(x.rather(0), ABSENT);
        due(x.settle(0), 0);
        due(x.late(0), ABSENT);
        due(x.fewest(0), ABSENT);
        due(x.voices(0, 0, 0), NO);
        due(x.power(0, 0), NONE);
    }
}
