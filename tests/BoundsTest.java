/**
 * Each promise at the bounds that its own words name, on their inner side, and
 * where there is nothing yet. What lies outside is RefusalTest's.
 */
public final class BoundsTest {
    public static void main(String[] args) {
        constants();
        newObject();
        member();
        think();
        hand();
        give();
        names();
        back();
        pass();
        of();
        feed();
        hall();
        hallOfAll();
        barredAndShare();
        voices();
        bits();
        power();
        best();
        right();
        wishes();
        settle();
        heapAndMend();
        lateAndFewest();
        table();
        act();
        trace();
        taken();
        count();
        tape();
        itemAndRead();
        shift();
        shiftToItself();
        lastOfAll();
        Check.finish();
    }

    private static void constants() {
        Check.says("NONE, BAD, STATE, FULL, NO");
        Check.due(HandedVoices.NONE, -1);
        Check.due(HandedVoices.BAD, -2);
        Check.due(HandedVoices.STATE, -3);
        Check.due(HandedVoices.FULL, -4);
        Check.due(HandedVoices.NO, Long.MIN_VALUE);
    }

    private static void newObject() {
        Check.says("HandedVoices(): No MEMBERS");
        HandedVoices x = new HandedVoices();
        for (int what = 0; what < 5; what++) {
            Check.due(x.count(what), 0);
        }
        Check.due(x.think(0, 0, true, 5), Check.NONE);
        Check.due(x.share(0, 0, 0), Check.NONE);
        Check.due(x.voices(0, 0, 0), Check.NO);
        Check.due(x.power(0, 0), Check.NONE);
        Check.due(x.taken(0, 0, 0), Check.NOTHING);
        Check.due(x.act(0, 0, 0, 1), 0);
        Check.due(x.trace(0), Check.NONE);
        Check.due(x.lost(2), 0);
        Check.due(x.turning(2), 0);
        // one object's members are none of another's
        Check.with(3);
        Check.due(x.count(0), 0);
        Check.due(x.member(), 0);
    }

    private static void member() {
        Check.says("A MEMBER: its number. FULL.");
        HandedVoices x = Check.with(7);
        Check.due(x.give(0, 0, 7), Check.NONE);
        Check.due(x.member(), 7);
        Check.due(x.give(0, 0, 7), 1);
        Check.due(x.member(), Check.FULL);
        Check.due(x.member(), Check.FULL);
        Check.due(x.count(0), 8);
    }

    private static void think() {
        Check.says("100 times what it thought, and how SURE it was");
        HandedVoices x = Check.with(8);
        Check.due(x.think(7, 2, true, 10), 5);
        Check.due(x.think(7, 2, true, 0), 110);
        Check.due(x.think(7, 2, false, 0), 100);
        Check.due(x.think(7, 2, false, 10), 0);
        Check.due(x.think(7, 2, false, 5), 10);
        Check.due(x.think(7, 1, false, 5), 5);
        Check.due(x.think(6, 2, false, 5), 5);
    }

    private static void hand() {
        Check.says("A HAND of KIND 0, 1, 5, not TAKEN BACK: the KIND before");
        HandedVoices x = Check.with(2);
        int before = 1;
        for (int kind : new int[] {0, 1, 5, 5, 0, 0, 1, 1}) {
            x.back(1, 2, 0);
            Check.due(x.hand(1, 2, kind), before);
            Check.due(x.of(1, 2, 1), 100);
            before = kind;
        }
        x.names(1, 2, 0, 1, 5);
        x.give(0, 0, 1);
        Check.due(x.hand(0, 0, 1), 2);
        Check.due(x.of(0, 0, 2), Check.ABSENT);
        Check.due(x.of(0, 0, 4), 0);
    }

    private static void give() {
        Check.says("A HAND of KIND GIVE: the KIND before");
        HandedVoices x = Check.with(8);
        Check.due(x.give(7, 2, 0), 1);
        Check.due(x.give(0, 2, 7), 1);
        Check.due(x.give(7, 2, 6), 2);
        Check.due(x.of(7, 2, 2), 6);
        x.names(7, 2, 1, 2, 3);
        Check.due(x.give(7, 2, 0), 4);
        Check.due(x.of(7, 2, 2), 0);
        Check.due(x.of(7, 2, 3), Check.ABSENT);
        Check.due(x.of(7, 2, 4), 10);
        x.hand(7, 2, 5);
        Check.due(x.give(7, 2, 0), 5);
    }

    private static void names() {
        Check.says("A HAND of KIND ORDER (x 0), PARTS (x 1 .. 9): the KIND before");
        HandedVoices x = Check.with(8);
        Check.due(x.names(7, 2, 0, 6, 0), 1);
        Check.due(x.of(7, 2, 0), 3);
        Check.due(x.of(7, 2, 4), 10);
        for (int part = 1; part < 10; part++) {
            Check.due(x.names(7, 2, 6, 0, part), part == 1 ? 3 : 4);
            Check.due(x.of(7, 2, 0), 4);
            Check.due(x.of(7, 2, 4), part);
            Check.due(x.share(7, 6, 2), part);
            Check.due(x.share(7, 0, 2), 10 - part);
        }
        Check.due(x.names(0, 0, 7, 1, 0), 1);
        Check.due(x.of(0, 0, 2), 7);
        Check.due(x.of(0, 0, 3), 1);
    }

    private static void back() {
        Check.says("A HAND is TAKEN BACK from a MINUTE on (0 .. 100): from which it was");
        HandedVoices x = Check.with(8);
        Check.due(x.back(7, 2, 0), 100);
        Check.due(x.back(7, 2, 100), 0);
        Check.due(x.back(7, 2, 99), 100);
        Check.due(x.back(7, 2, 99), 99);
        Check.due(x.of(7, 2, 1), 99);
        Check.due(x.of(7, 1, 1), 100);
        Check.due(x.of(6, 2, 1), 100);
    }

    private static void pass() {
        Check.says("n MINUTES go by (1 .. 20): NOW. BAD: also beyond 99");
        HandedVoices x = new HandedVoices();
        Check.due(x.pass(1), 1);
        Check.due(x.pass(20), 21);
        Check.due(x.pass(20), 41);
        Check.due(x.pass(20), 61);
        Check.due(x.pass(19), 80);
        Check.due(x.pass(20), Check.BAD);
        Check.due(x.pass(19), 99);
        Check.due(x.pass(1), Check.BAD);
        HandedVoices y = new HandedVoices();
        Check.pass(y, 79);
        Check.due(y.pass(20), 99);
    }

    private static void of() {
        Check.says("NAMES (-5: none), tenths (of PARTS; else 10 for those of one NAME and ORDERS, 0 for others)");
        HandedVoices x = Check.with(3);
        int[][] told = {{0, 100, -5, -5, 0}, {1, 100, -5, -5, 0}, {2, 100, 1, -5, 10}, {3, 100, 2, 1, 10},
            {4, 100, 1, 2, 9}, {5, 100, -5, -5, 0}};
        for (int kind = 5; kind >= 0; kind--) {
            switch (kind) {
                case 2 -> x.give(0, 1, 1);
                case 3 -> x.names(0, 1, 2, 1, 0);
                case 4 -> x.names(0, 1, 1, 2, 9);
                default -> x.hand(0, 1, kind);
            }
            for (int what = 0; what < 5; what++) {
                Check.due("kind " + kind + ", what " + what, x.of(0, 1, what), told[kind][what]);
            }
        }
        x.give(0, 1, 1);
        x.back(0, 1, 0);
        // a hand that is taken back is of its kind all the same
        Check.due(x.of(0, 1, 0), 2);
        Check.due(x.of(0, 1, 2), 1);
        Check.due(x.of(0, 1, 4), 10);
    }

    private static void feed() {
        Check.says("The n lowest bytes of a number, the highest first (n 0 .. 4)");
        HandedVoices x = Check.with(1);
        Check.due(x.feed(-1, 0), 0);
        Check.due(x.feed(0x78787863, 1), 1);
        Check.due(x.feed(0x78786170, 2), 3);
        Check.due(x.feed(0x78203030, 3), 6);
        Check.due(x.feed(0x303B6361, 4), 10);
        Check.due(x.feed(0x78702030, 3), 13);
        // "cap 000;cap 0"
        Check.due(x.hall(), 1);
        x.feed(0x63617020, 4);
        Check.due(x.feed(0x30303078, 1), 5);
        Check.due(x.hall(), -14);
        Check.says("feed(): how many it has");
        for (int k = 1; k <= 25; k++) {
            Check.due(x.feed(Check.LEAST, 4), 4 * k);
        }
        Check.due(x.feed(0, 0), 100);
        Check.due(x.count(2), 100);
    }

    private static void hall() {
        Check.says("THE TEXT is the HALL: how many there were so far, with it; -10 less the FAULT");
        HandedVoices x = Check.with(2);
        Check.due(x.hall(), -10);
        Check.due(x.count(1), 0);
        for (int k = 1; k <= 30; k++) {
            Check.due(Check.hall(x, "cap " + k), k);
            Check.due(x.count(1), k);
        }
        Check.due(Check.hall(x, "cap"), -13);
        Check.due(Check.hall(x, "cap 0"), 31);
        Check.due(Check.hall(x, "0".repeat(100)), -10);
    }

    private static void hallOfAll() {
        Check.says("a HALL of as many bars, and as long, as can be");
        HandedVoices x = Check.with(8);
        String deep = "bar !(!(a=0&b=1|a=2))";
        Check.due(Check.hall(x, deep), 1);
        Check.due(x.barred(0, 1, 0), 1);
        Check.due(x.barred(0, 2, 0), 0);
        Check.due(x.barred(2, 1, 0), 1);
        Check.due(x.barred(1, 0, 0), 0);
        Check.due(Check.hall(x, "bar a=0;bar a=1;bar a=2;bar a=3;bar a=4;bar a=5"), 2);
        for (int k = 0; k < 8; k++) {
            Check.due(x.barred(k, (k + 1) % 8, 1), k < 6 ? 1 : 0);
        }
        // one nested in the other to the right, so that as much as can be waits for its other side
        Check.due(Check.hall(x, "bar a=0|a=9&(a=1|b=1&(a=2|b=2&(a=3|b=3&(a=4|b=4&m=2))))"), 3);
        Check.due(x.barred(0, 4, 2), 1);
        Check.due(x.barred(4, 3, 2), 0);
        Check.due(Check.hall(x, "bar a=9|b<9&(a=9|b<9&(a=9|b<9&(a=9|b<9&(a=9|b=4&m=2))))"), 4);
        Check.due(x.barred(0, 4, 2), 1);
        Check.due(x.barred(0, 4, 1), 0);
        Check.due(x.barred(0, 3, 2), 0);
    }

    private static void barredAndShare() {
        Check.says("barred(): 1, 0; share(): tenths (to itself: with which it SPEAKS)");
        HandedVoices x = Check.with(8);
        Check.hall(x, "bar a=7&b=0&m=2");
        Check.due(x.barred(7, 0, 2), 1);
        Check.due(x.barred(0, 7, 2), 0);
        Check.due(x.barred(7, 0, 1), 0);
        Check.due(x.share(7, 7, 2), 10);
        x.names(7, 2, 0, 6, 9);
        Check.due(x.share(7, 7, 2), 9);
        Check.due(x.share(7, 0, 2), 0);
        Check.due(x.share(7, 6, 2), 1);
        Check.due(x.share(0, 0, 2), 10);
        Check.due(x.share(0, 7, 2), 0);
    }

    private static void voices() {
        Check.says("voices(): VOICES of a MEMBER NOW: part 0 above, 1 below the line");
        HandedVoices x = Check.with(8);
        Check.due(x.voices(7, 2, 0), 1);
        Check.due(x.voices(7, 2, 1), 1);
        for (int k = 0; k < 7; k++) {
            x.give(k, 2, 7);
        }
        Check.due(x.voices(7, 2, 0), 8);
        Check.due(x.voices(7, 2, 1), 1);
        Check.due(x.voices(0, 2, 0), 0);
        Check.due(x.voices(0, 2, 1), 1);
        Check.due(x.voices(7, 1, 0), 1);
    }

    private static void bits() {
        Check.says("lost(), turning(), few(): as bits");
        HandedVoices x = Check.with(8);
        x.give(7, 2, 6);
        x.give(6, 2, 7);
        Check.due(x.lost(2), 192);
        Check.due(x.lost(1), 0);
        x.give(7, 2, 0);
        x.think(0, 2, true, 5);
        x.think(1, 2, true, 5);
        x.think(2, 2, true, 5);
        // 0 has three, 1 and 2 one each: five of eight, so that each of them turns it
        Check.due(x.decided(2), 1);
        Check.due(x.turning(2), 7);
        Check.due(x.few(2), 7);
        x.hand(7, 2, 1);
        x.hand(6, 2, 1);
        Check.hall(x, "need 7 8");
        for (int k = 0; k < 8; k++) {
            x.think(k, 2, true, 5);
        }
        Check.due(x.turning(2), 255);
        Check.due(x.few(2), 255);
    }

    private static void power() {
        Check.says("power(): POWER of a MEMBER");
        HandedVoices x = Check.with(2);
        // just half is not more, so each turns it, if the other one thinks yes
        Check.due(x.power(0, 0), 1);
        Check.due(x.power(1, 2), 1);
        x.give(0, 0, 1);
        Check.due(x.power(0, 0), 0);
        Check.due(x.power(1, 0), 1);
        x.think(0, 2, true, 5);
        Check.due(x.power(1, 2), 1);
    }

    private static void best() {
        Check.says("WAYS (i -1); BEST: 0 the first, 1 the second; -5: no such way");
        HandedVoices x = Check.with(8);
        x.names(7, 2, 0, 1, 0);
        Check.due(x.best(2, -1), 2);
        Check.due(x.best(2, 7), 0);
        x.give(0, 2, 7);
        Check.due(x.best(2, -1), 1);
        Check.due(x.best(2, 7), 1);
        x.give(1, 2, 0);
        Check.due(x.best(2, -1), 0);
        Check.due(x.best(2, 7), Check.ABSENT);
        Check.due(x.best(2, 0), Check.NONE);
        Check.due(x.best(1, 7), Check.NONE);
        Check.due(x.best(1, -1), 1);
    }

    private static void right() {
        Check.says("right(): RIGHT (what 0), ALONE (1), in lowest terms: part 0 above, 1 below the line");
        HandedVoices x = Check.with(4);
        for (int k = 0; k < 4; k++) {
            x.think(k, 2, true, 8);
        }
        x.give(0, 2, 1);
        x.give(2, 2, 3);
        // both must be right: 64 of a hundred; alone three of four: 4096 and 4 times 1024 of ten thousand
        Check.due(x.right(2, 0, 0), 16);
        Check.due(x.right(2, 0, 1), 25);
        Check.due(x.right(2, 1, 0), 512);
        Check.due(x.right(2, 1, 1), 625);
    }

    private static void wishes() {
        Check.says("surest(), breach(), rather(): -5");
        HandedVoices x = new HandedVoices();
        for (int m = 0; m < 3; m++) {
            Check.due(x.surest(m), Check.ABSENT);
            Check.due(x.breach(m), Check.ABSENT);
            Check.due(x.rather(m), Check.ABSENT);
        }
        x.member();
        Check.due(x.surest(2), 0);
        Check.due(x.rather(2), Check.ABSENT);
        x.member();
        Check.due(x.rather(2), 2);
    }

    private static void settle() {
        Check.says("settle(): TURN BY TURN: how often it was done");
        HandedVoices x = Check.with(2);
        x.think(1, 2, true, 9);
        x.back(0, 2, 3);
        // 45 of a hundred, as both must be right; 0 gives to 1: nine of ten
        Check.due(x.settle(2), 1);
        Check.due(x.of(0, 2, 0), 2);
        Check.due(x.of(0, 2, 1), 100);
        Check.due(x.of(0, 2, 2), 1);
        Check.due(x.of(0, 2, 3), Check.ABSENT);
        Check.due(x.of(0, 2, 4), 10);
        Check.due(x.of(0, 0, 0), 1);
        Check.due(x.settle(2), 0);
        x.give(0, 1, 1);
        x.give(1, 1, 0);
        x.back(0, 1, 99);
        Check.due(x.settle(1), 1);
        Check.due(x.of(0, 1, 0), 1);
        Check.due(x.of(0, 1, 1), 100);
        Check.due(x.of(0, 1, 2), Check.ABSENT);
        Check.due(x.of(0, 1, 3), Check.ABSENT);
        Check.due(x.of(0, 1, 4), 0);
    }

    private static void heapAndMend() {
        Check.says("mend(): h (0 .. 8), n (0 .. 8)");
        HandedVoices x = Check.with(8);
        for (int k = 0; k < 8; k++) {
            x.give(k, 2, k == 7 ? 0 : 7);
        }
        // all are lost: no heap is more than 0
        Check.due(x.heap(2, 0), 0);
        Check.due(x.heap(2, 1), 1);
        Check.due(x.mend(2, 0, 0), 0);
        Check.due(x.mend(2, 0, 8), 0);
        // one that speaks has all eight, and is right with five of ten
        Check.due(x.mend(2, 8, 8), 1);
        // 1 for itself has its own voice alone, as nobody gives to it, and all others are lost
        Check.due(x.mend(2, 1, 8), 2);
        Check.due(x.mend(2, 1, 1), 2);
        Check.due(x.mend(2, 1, 0), 0);
    }

    private static void lateAndFewest() {
        Check.says("late(): LATE; -5. fewest(): FEWEST; -5");
        HandedVoices x = Check.with(8);
        Check.due(x.late(2), Check.ABSENT);
        Check.due(x.fewest(2), 31);
        x.give(7, 2, 6);
        x.give(6, 2, 7);
        Check.due(x.fewest(2), 15);
        for (int k = 0; k < 8; k++) {
            x.think(k, 2, true, 5);
        }
        Check.due(x.fewest(2), 0);
        Check.due(x.late(2), Check.ABSENT);
    }

    private static void table() {
        Check.says("A TABLE from place i of a TAPE on");
        HandedVoices x = Check.with(8);
        x.tape(5, 3, 60);
        for (int k = 44; k < 60; k++) {
            x.item(5, k, 1);
        }
        Check.due(x.table(5, 44, 2), 8);
        Check.due(x.table(5, 45, 2), 107);
        Check.due(x.table(5, 46, 2), 107);
        Check.due(x.table(5, 47, 2), 106);
        Check.due(x.table(5, 58, 2), 101);
        Check.due(x.table(5, 59, 2), 100);
        Check.due(x.table(5, 43, 2), 0);
        Check.due(x.table(5, 0, 2), 0);
        x.tape(5, 3, 59);
        for (int k = 44; k < 59; k++) {
            x.item(5, k, 1);
        }
        Check.due(x.table(5, 44, 2), 107);
    }

    private static void act() {
        Check.says("An ACT of a HAND with x");
        HandedVoices x = Check.with(8);
        Check.due(x.act(7, 2, 0, 1), 8);
        Check.due(x.act(7, 2, 1, 1), 6);
        Check.due(x.act(7, 2, 2, 1), 12 ^ 7);
        x.hand(7, 2, 0);
        Check.due(x.act(7, 2, 2, 1), 12);
        x.give(7, 2, 0);
        x.back(7, 2, 0);
        // taken back it is of its kind all the same
        Check.due(x.act(7, 2, 0, 1), 9);
        Check.due(x.act(7, 1, 0, 1), 8);
    }

    private static void trace() {
        Check.says("THE TRACE's i-th body. NONE");
        HandedVoices x = Check.with(3);
        Check.due(x.trace(0), Check.NONE);
        x.act(0, 0, 0, 5);
        Check.due(x.trace(0), 10);
        Check.due(x.trace(1), Check.NONE);
        x.names(0, 0, 1, 2, 0);
        // what is asked and changed meanwhile leaves it
        Check.due(x.trace(0), 10);
        x.act(0, 0, 1, 5);
        int[] bodies = {40, 31, 11, 30, 10, 30, 10};
        for (int k = 0; k < bodies.length; k++) {
            Check.due(x.trace(k), bodies[k]);
        }
        Check.due(x.trace(7), Check.NONE);
    }

    private static void taken() {
        Check.says("A HAND taken for one of KIND k (0 .. 5), or one under that: its KIND");
        HandedVoices x = Check.with(8);
        Check.due(x.taken(7, 2, 0), 1);
        Check.due(x.taken(7, 2, 1), 1);
        Check.due(x.taken(7, 2, 2), Check.CAST);
        x.hand(7, 2, 0);
        Check.due(x.taken(7, 2, 0), 0);
        Check.due(x.taken(7, 2, 1), Check.CAST);
        x.hand(7, 2, 5);
        Check.due(x.taken(7, 2, 0), 5);
        Check.due(x.taken(7, 2, 2), 5);
        Check.due(x.taken(7, 2, 5), 5);
        Check.due(x.taken(7, 2, 4), Check.CAST);
        Check.due(x.taken(7, 2, 1), Check.CAST);
        x.give(7, 2, 0);
        Check.due(x.taken(7, 2, 2), 2);
        Check.due(x.taken(7, 2, 3), Check.CAST);
        Check.due(x.taken(7, 2, 5), Check.CAST);
        x.back(7, 2, 0);
        Check.due(x.taken(7, 2, 2), 2);
        Check.due(x.taken(7, 2, 1), Check.CAST);
    }

    private static void count() {
        Check.says("How many: 0 MEMBERS, 1 HALLS, 2 bytes of THE TEXT, 3 NOW, 4 bodies that ran");
        HandedVoices x = Check.with(8);
        Check.hall(x, "cap 1");
        Check.hall(x, "cap 2");
        Check.feed(x, "abc");
        x.pass(9);
        x.hand(0, 0, 5);
        x.act(0, 0, 2, 0);
        int[] told = {8, 2, 3, 9, 10};
        for (int what = 0; what < 5; what++) {
            Check.due(x.count(what), told[what]);
        }
    }

    private static void tape() {
        Check.says("A TAPE becomes a row of n (0 .. 60) of a sort, all 0, or holds nothing (sort -1: n does not matter)");
        HandedVoices x = new HandedVoices();
        for (int sort = 0; sort < 5; sort++) {
            Check.due(x.tape(5, sort, 0), 1);
            Check.due(x.item(5, 0, 1), Check.PLACE);
            Check.due(x.tape(5, sort, 60), 1);
            Check.due(x.read(5, 59), 0);
            Check.due(x.item(5, 59, 1), 1);
            Check.due(x.item(5, 60, 1), Check.PLACE);
            Check.due(x.tape(5, sort, 60), 1);
            Check.due(x.read(5, 59), 0);
            Check.due(x.item(5, 0, 1), 1);
            Check.due(x.tape(5, sort, 1), 1);
            Check.due(x.read(5, 0), 0);
            Check.due(x.read(5, 1), Check.NO);
        }
        for (int n : new int[] {0, 60, 61, -1, Check.HUGE, Check.LEAST}) {
            x.tape(5, 0, 3);
            Check.due(x.tape(5, -1, n), 1);
            Check.due(x.read(5, 0), Check.NO);
            Check.due(x.item(5, 0, 1), Check.NOTHING);
            Check.due(x.tape(5, -1, n), 1);
        }
    }

    private static void itemAndRead() {
        Check.says("Item i of a TAPE becomes v: 1");
        HandedVoices x = new HandedVoices();
        x.tape(0, 3, 60);
        x.tape(1, 3, 60);
        Check.due(x.item(0, 59, Long.MAX_VALUE), 1);
        Check.due(x.item(1, 0, Long.MIN_VALUE + 1), 1);
        Check.due(x.read(0, 59), Long.MAX_VALUE);
        Check.due(x.read(1, 0), Long.MIN_VALUE + 1);
        Check.due(x.read(0, 58), 0);
        Check.due(x.read(1, 1), 0);
        x.tape(2, 0, 1);
        Check.due(x.item(2, 0, 7), 1);
        Check.due(x.item(2, 1, 7), Check.PLACE);
        Check.due(x.read(2, 0), 7);
        Check.due(x.read(2, 1), Check.NO);
    }

    /** The first n of a row, as the figures of a number. */
    private static long figures(HandedVoices x, int tape, int n) {
        long figures = 0;
        for (int i = 0; i < n; i++) {
            figures = figures * 10 + x.read(tape, i);
        }
        return figures;
    }

    private static HandedVoices rows() {
        HandedVoices x = new HandedVoices();
        x.tape(0, 0, 6);
        x.tape(5, 0, 4);
        for (int i = 0; i < 6; i++) {
            x.item(0, i, i + 1);
        }
        return x;
    }

    private static void shift() {
        Check.says("n items of a TAPE from i on come to another one from j on: n");
        HandedVoices x = rows();
        Check.due(x.shift(0, 2, 5, 0, 4), 4);
        Check.due(figures(x, 5, 4), 3456);
        Check.due(figures(x, 0, 6), 123456);
        Check.due(x.shift(5, 0, 0, 2, 4), 4);
        Check.due(x.shift(5, 3, 0, 0, 1), 1);
        Check.due(figures(x, 0, 6), 623456);
        Check.due(x.shift(0, 6, 5, 4, 0), 0);
        Check.due(x.shift(0, 0, 5, 0, 0), 0);
        Check.due(figures(x, 5, 4), 3456);
        x.tape(1, 0, 0);
        Check.due(x.shift(1, 0, 0, 6, 0), 0);
        Check.due(x.shift(0, 6, 1, 0, 0), 0);
        Check.due(x.shift(1, 0, 1, 0, 0), 0);
        Check.due(x.shift(1, 0, 1, 0, 1), Check.PLACE);
    }

    private static void shiftToItself() {
        Check.says("shift(): (or the same) .. as they all were before");
        HandedVoices x = rows();
        Check.due(x.shift(0, 0, 0, 1, 5), 5);
        Check.due(figures(x, 0, 6), 112345);
        x = rows();
        Check.due(x.shift(0, 1, 0, 0, 5), 5);
        Check.due(figures(x, 0, 6), 234566);
        x = rows();
        Check.due(x.shift(0, 0, 0, 0, 6), 6);
        Check.due(figures(x, 0, 6), 123456);
        for (int sort = 0; sort < 5; sort++) {
            x.tape(sort, sort, 60);
            x.item(sort, 0, 1);
            Check.due(x.shift(sort, 0, sort, 1, 59), 59);
            Check.due(x.read(sort, 0), 1);
            Check.due(x.read(sort, 1), 1);
            Check.due(x.read(sort, 2), 0);
        }
    }

    /** Eight members, the last matter and the last minute: in a row of either nothing stands behind them. */
    private static void lastOfAll() {
        Check.says("MEMBERS 0 .. 7, MATTERS 0 .. 2, MINUTES 0 .. 99: every call with the last of each");
        HandedVoices x = Check.with(8);
        Check.pass(x, 99);
        for (int k = 0; k < 8; k++) {
            x.think(k, 2, k > 3, k);
            x.back(k, 2, 99);
        }
        Check.due(x.breach(2), Check.ABSENT);
        // all but 7 are more often wrong than 7: 0 gives to 1 first of all
        Check.due(x.rather(2), 2);
        Check.due(x.late(2), Check.ABSENT);
        Check.due(x.fewest(2), 1);
        Check.due(x.surest(2), 7);
        Check.due(x.few(2), 31);
        Check.due(x.mend(2, 1, 8), 0);
        for (int k = 0; k < 7; k++) {
            x.give(k, 2, 7);
        }
        x.names(6, 2, 0, 7, 0);
        Check.due(x.best(2, -1), 2);
        Check.due(x.best(2, 6), 0);
        Check.due(x.best(2, 7), Check.NONE);
        Check.due(x.breach(2), Check.ABSENT);
        Check.due(x.rather(2), Check.ABSENT);
        Check.due(x.settle(2), 0);
        Check.due(x.late(2), Check.ABSENT);
        Check.due(x.fewest(2), 0);
        Check.due(x.mend(2, 7, 8), 1);
        Check.due(x.heap(2, 0), 8);
        Check.due(x.right(2, 0, 0), 7);
        Check.due(x.right(2, 0, 1), 10);
        Check.due(x.turning(2), 128);
        Check.due(x.power(7, 2), 1);
        Check.due(x.lost(2), 0);
    }
}
