/** Every sentence under "Terms" that names a bound, a tie, nothing there or no more room: a test of its own. */
public final class TermsTest {
    public static void main(String[] args) {
        objects();
        members();
        kinds();
        takingBack();
        wrapping();
        bodies();
        texts();
        faults();
        ruling();
        whereVoicesGo();
        lostAndVoices();
        deciding();
        turningAndPower();
        ways();
        beingRight();
        wishing();
        mending();
        lateAndFewest();
        tapes();
        tables();
        Check.finish();
    }

    private static void objects() {
        lastCall();
    }

    private static void lastCall() {
        Check.says("An object is used for at most 512 calls after it has been made");
        HandedVoices x = Check.with(8);
        for (int call = 9; call <= 510; call++) {
            x.think(7, 2, call % 2 == 0, call % 11);
        }
        // the 510th has been true and 4
        Check.due(x.think(7, 2, false, 10), 104);
        Check.due(x.think(7, 2, true, 0), 10);
    }

    // ==== 1

    private static void members() {
        membersAsTheyCome();
        matters();
        thoughtsAtFirst();
        sureness();
        minutes();
    }

    private static void membersAsTheyCome() {
        Check.says("MEMBERS 0 .. 7, as they come");
        HandedVoices x = new HandedVoices();
        Check.due(x.of(0, 0, 0), Check.NONE);
        for (int k = 0; k < 8; k++) {
            Check.due(x.of(k, 0, 0), Check.NONE);
            Check.due(x.member(), k);
            Check.due(x.of(k, 0, 0), 1);
        }
        Check.due(x.member(), Check.FULL);
        Check.due(x.count(0), 8);
        Check.due(x.of(8, 0, 0), Check.NONE);
    }

    private static void matters() {
        Check.says("MATTERS 0 .. 2");
        HandedVoices x = Check.with(2);
        Check.due(x.think(1, -1, true, 6), Check.NONE);
        Check.due(x.think(1, 0, true, 7), 5);
        Check.due(x.think(1, 1, false, 8), 5);
        Check.due(x.think(1, 2, true, 9), 5);
        Check.due(x.think(1, 3, true, 6), Check.NONE);
        Check.due(x.think(1, 0, true, 0), 107);
        Check.due(x.think(1, 1, true, 0), 8);
        Check.due(x.think(1, 2, true, 0), 109);
    }

    private static void thoughtsAtFirst() {
        Check.says("Of each MATTER a MEMBER thinks NO (0, at first) or YES (1)");
        HandedVoices x = Check.with(8);
        for (int m = 0; m < 3; m++) {
            Check.due(x.of(7, m, 5), 0);
            x.think(7, m, true, 5);
            Check.due(x.of(7, m, 5), 1);
            x.think(7, m, false, 5);
            Check.due(x.of(7, m, 5), 0);
        }
    }

    private static void sureness() {
        Check.says("SURE so many of ten (0 .. 10; 5 at first)");
        HandedVoices x = Check.with(1);
        Check.due(x.of(0, 0, 6), 5);
        Check.due(x.think(0, 0, false, -1), Check.BAD);
        Check.due(x.think(0, 0, false, 11), Check.BAD);
        Check.due(x.think(0, 0, false, 0), 5);
        Check.due(x.of(0, 0, 6), 0);
        Check.due(x.think(0, 0, false, 10), 0);
        Check.due(x.of(0, 0, 6), 10);
    }

    private static void minutes() {
        Check.says("MINUTES are 0 .. 99; NOW is 0 at first");
        HandedVoices x = new HandedVoices();
        Check.due(x.count(3), 0);
        Check.pass(x, 98);
        Check.due(x.count(3), 98);
        Check.due(x.pass(2), Check.BAD);
        Check.due(x.pass(1), 99);
        Check.due(x.pass(1), Check.BAD);
        Check.due(x.count(3), 99);
    }

    private static void kinds() {
        selfAtFirst();
        oneHandOfEach();
        anotherMember();
        parts();
        theSurest();
        theSurestOther();
    }

    private static void selfAtFirst() {
        Check.says("1 SELF under HAND (at first)");
        HandedVoices x = Check.with(8);
        for (int m = 0; m < 3; m++) {
            Check.due(x.of(0, m, 0), 1);
            Check.due(x.of(7, m, 0), 1);
            Check.due(x.share(7, 7, m), 10);
            Check.due(x.of(7, m, 2), Check.ABSENT);
            Check.due(x.of(7, m, 3), Check.ABSENT);
            Check.due(x.of(7, m, 4), 0);
        }
    }

    private static void oneHandOfEach() {
        Check.says("HANDS of KINDS, one of each MEMBER in each MATTER");
        HandedVoices x = Check.with(8);
        x.give(7, 2, 0);
        x.give(7, 0, 6);
        x.give(6, 2, 1);
        Check.due(x.of(7, 2, 2), 0);
        Check.due(x.of(7, 1, 2), Check.ABSENT);
        Check.due(x.of(7, 0, 2), 6);
        Check.due(x.of(6, 2, 2), 1);
        x.hand(7, 2, 0);
        Check.due(x.of(7, 2, 2), Check.ABSENT);
        Check.due(x.of(7, 0, 2), 6);
    }

    private static void anotherMember() {
        Check.says("to a NAME (another MEMBER)");
        HandedVoices x = Check.with(8);
        Check.due(x.give(7, 0, 7), Check.BAD);
        Check.due(x.give(7, 0, 6), 1);
        Check.due(x.give(7, 0, 8), Check.NONE);
        Check.due(x.give(0, 0, -1), Check.NONE);
        Check.due(x.give(0, 0, 1), 1);
        Check.due(x.of(7, 0, 2), 6);
    }

    private static void parts() {
        Check.says("x tenths (1 .. 9) to a first NAME, the others to a second one");
        HandedVoices x = Check.with(3);
        Check.due(x.names(0, 0, 2, 1, -1), Check.BAD);
        Check.due(x.names(0, 0, 2, 1, 1), 1);
        Check.due(x.share(0, 2, 0), 1);
        Check.due(x.share(0, 1, 0), 9);
        Check.due(x.names(0, 0, 2, 1, 9), 4);
        Check.due(x.share(0, 2, 0), 9);
        Check.due(x.share(0, 1, 0), 1);
        Check.due(x.names(0, 0, 2, 1, 10), Check.BAD);
        Check.due(x.names(0, 0, 2, 1, 0), 4);
        Check.due(x.of(0, 0, 0), 3);
    }

    private static void theSurest() {
        Check.says("BLIND: the most SURE in that MATTER (of several the least)");
        HandedVoices x = Check.with(4);
        x.hand(3, 0, 5);
        Check.due(x.share(3, 0, 0), 10);
        x.think(2, 0, false, 6);
        Check.due(x.share(3, 2, 0), 10);
        x.think(1, 0, true, 6);
        Check.due(x.share(3, 1, 0), 10);
        x.think(0, 1, true, 10);
        Check.due(x.share(3, 1, 0), 10);
        for (int k = 0; k < 3; k++) {
            x.think(k, 0, true, 0);
        }
        Check.due(x.share(3, 0, 0), 10);
        x.hand(3, 2, 5);
        x.think(2, 2, true, 6);
        Check.due(x.share(3, 2, 2), 10);
    }

    private static void theSurestOther() {
        Check.says("BLIND: to the other MEMBER");
        HandedVoices x = Check.with(1);
        x.hand(0, 0, 5);
        Check.due(x.share(0, 0, 0), 10);
        x.think(0, 0, true, 10);
        x.member();
        x.think(1, 0, true, 0);
        Check.due(x.share(0, 1, 0), 10);
        Check.due(x.share(0, 0, 0), 0);
    }

    private static void takingBack() {
        fromAMinuteOn();
        neverTakenBack();
        atOnce();
        ofKindHand();
    }

    private static void fromAMinuteOn() {
        Check.says("A HAND is TAKEN BACK from a MINUTE on: it is as SELF then");
        HandedVoices x = Check.with(3);
        x.give(0, 0, 1);
        x.names(1, 0, 0, 2, 0);
        x.back(0, 0, 5);
        x.back(1, 0, 6);
        Check.pass(x, 4);
        Check.due(x.share(0, 1, 0), 10);
        Check.due(x.lost(0), 3);
        Check.due(x.pass(1), 5);
        Check.due(x.share(0, 1, 0), 0);
        Check.due(x.share(0, 0, 0), 10);
        Check.due(x.share(1, 0, 0), 10);
        Check.due(x.lost(0), 0);
        Check.dueVoices(x, 0, 2, 1);
        x.pass(1);
        Check.due(x.share(1, 0, 0), 0);
        Check.dueVoices(x, 0, 1, 1);
        Check.pass(x, 93);
        Check.due(x.share(0, 0, 0), 10);
    }

    private static void neverTakenBack() {
        Check.says("TAKEN BACK from a MINUTE on (100 at first)");
        HandedVoices x = Check.with(2);
        Check.due(x.of(1, 2, 1), 100);
        x.give(0, 0, 1);
        Check.due(x.of(0, 0, 1), 100);
        x.give(0, 1, 1);
        x.back(0, 1, 99);
        Check.pass(x, 98);
        Check.due(x.share(0, 1, 1), 10);
        x.pass(1);
        Check.due(x.share(0, 1, 0), 10);
        Check.due(x.share(0, 1, 1), 0);
    }

    private static void atOnce() {
        Check.says("TAKEN BACK from MINUTE 0, or NOW");
        HandedVoices x = Check.with(2);
        x.give(0, 0, 1);
        x.back(0, 0, 0);
        Check.due(x.share(0, 0, 0), 10);
        x.pass(3);
        x.back(0, 0, 3);
        Check.due(x.share(0, 0, 0), 10);
        x.back(0, 0, 4);
        Check.due(x.share(0, 0, 0), 0);
    }

    private static void ofKindHand() {
        Check.says("Of KIND 0 it is as SELF, too");
        HandedVoices x = Check.with(2);
        x.hand(0, 0, 0);
        Check.due(x.share(0, 0, 0), 10);
        Check.due(x.lost(0), 0);
        Check.dueVoices(x, 0, 1, 1);
        x.give(1, 0, 0);
        Check.dueVoices(x, 0, 2, 1);
    }

    /** A hand of each kind in a matter, the number of the kind its member's. */
    private static HandedVoices ofEachKind(int matter) {
        HandedVoices x = Check.with(6);
        x.hand(0, matter, 0);
        x.give(2, matter, 0);
        x.names(3, matter, 0, 1, 0);
        x.names(4, matter, 0, 1, 3);
        x.hand(5, matter, 5);
        return x;
    }

    private static void wrapping() {
        Check.says("ACTS of HANDS by KIND, with x (wrapping)");
        HandedVoices x = ofEachKind(2);
        Check.due("HUGE + 1", x.act(1, 2, 0, Check.HUGE), Check.LEAST);
        Check.due("LEAST - 2", x.act(0, 2, 1, Check.LEAST), Check.HUGE - 1);
        x = ofEachKind(0);
        Check.due("2^30 * 2", x.act(0, 0, 2, 1 << 30), Check.LEAST);
        Check.due("HUGE * 2", x.act(0, 0, 2, Check.HUGE), -2);
        Check.due("LEAST * 2 + 2", x.act(2, 0, 0, Check.LEAST), 2);
        Check.due("HUGE * 2 + 2", x.act(2, 0, 0, Check.HUGE), 0);
        Check.due("(2^31 + 3) - 0, all but less than none", x.act(3, 0, 1, 1 << 30), 5 - (Check.LEAST + 3));
        Check.due("2 * -(2 * (LEAST - 4) + 4)", x.act(4, 0, 2, Check.LEAST), 8);
        HandedVoices y = Check.with(2);
        y.give(0, 0, 1);
        Check.due("-LEAST", y.act(0, 0, 1, 1 << 30), Check.LEAST);
        y.hand(0, 0, 5);
        Check.due("LEAST - 2 * LEAST", y.act(0, 0, 2, 1 << 30), Check.LEAST);
        HandedVoices z = Check.with(3);
        z.names(1, 0, 0, 2, 0);
        // -(2^31 + 1) is HUGE, and gives(1) is 3
        Check.due("HUGE + 3", z.act(1, 0, 1, 1 << 30), Check.LEAST + 2);
    }

    private static void bodies() {
        answersOfBodies();
        nextKindAbove();
        fromTheKindAbove();
        theTrace();
        latestTrace();
    }

    private static void answersOfBodies() {
        Check.says("10 gives: x + i .. 60 tells: holds(x) - super.tells(x)");
        HandedVoices x = ofEachKind(2);
        // of KINDS 0 to 5, whose members are i, in matter 2, with 7
        int[][] told = {{7, 8, 16, 17, 18 ^ 2, 19}, {5, 6, -14, -(17 - 2) + 5, -((18 ^ 2) - 2), -17},
            {10, 12 ^ 7, -28, 2 * (-15 + 5), 2 * -(((3 * 2 + 4) ^ 2) - 2), 17}};
        for (int act = 0; act < 3; act++) {
            for (int kind = 0; kind < 6; kind++) {
                Check.due("act " + act + " of kind " + kind, x.act(kind, 2, act, 7), told[act][kind]);
            }
        }
    }

    private static void dueBodies(HandedVoices x, int kind, int act, int... bodies) {
        x.act(kind, 0, act, 3);
        Check.due("how many", x.count(4), bodies.length);
        for (int k = 0; k < bodies.length; k++) {
            Check.due("body " + k, x.trace(k), bodies[k]);
        }
        Check.due("behind the last", x.trace(bodies.length), Check.NONE);
    }

    private static void nextKindAbove() {
        Check.says("the body of its KIND, or, if that has none, of the next KIND above that has one");
        HandedVoices x = ofEachKind(0);
        dueBodies(x, 1, 0, 10);
        dueBodies(x, 1, 1, 11, 10);
        dueBodies(x, 2, 2, 12, 31, 11, 30, 10);
        dueBodies(x, 3, 0, 30, 10);
        dueBodies(x, 5, 0, 30, 10);
        dueBodies(x, 4, 1, 31, 11, 51, 30, 10);
        dueBodies(x, 5, 1, 31, 11, 30, 10);
    }

    private static void fromTheKindAbove() {
        Check.says("super.gives(..): so from the KIND above the body's on");
        HandedVoices x = ofEachKind(0);
        dueBodies(x, 1, 2, 20, 12, 11, 10);
        dueBodies(x, 2, 0, 30, 10);
        dueBodies(x, 2, 1, 31, 11, 30, 10);
        dueBodies(x, 3, 1, 40, 31, 11, 30, 10, 30, 10);
        dueBodies(x, 4, 0, 51, 30, 10);
        dueBodies(x, 4, 2, 50, 12, 31, 11, 51, 30, 10);
        // of GIVE, above BLIND, there is none: the next is HAND's
        dueBodies(x, 5, 2, 60, 31, 11, 30, 10, 12, 31, 11, 30, 10);
    }

    private static void theTrace() {
        Check.says("THE TRACE: .. as they began; the first 20 are kept");
        HandedVoices x = ofEachKind(0);
        Check.due(x.trace(0), Check.NONE);
        Check.due(x.count(4), 0);
        x.act(5, 0, 2, 0);
        Check.due(x.count(4), 10);
        Check.due(x.trace(0), 60);
        Check.due(x.trace(9), 10);
        Check.due(x.trace(10), Check.NONE);
        Check.due(x.trace(20), Check.NONE);
    }

    private static void latestTrace() {
        Check.says("the bodies that ran in the latest act()");
        HandedVoices x = ofEachKind(0);
        x.act(5, 0, 2, 0);
        x.act(0, 0, 0, 0);
        Check.due(x.count(4), 1);
        Check.due(x.trace(0), 10);
        Check.due(x.trace(1), Check.NONE);
    }

    // ==== 2

    /** The text is a hall. */
    private static void sound(String text) {
        Check.due("'" + text + "'", Check.hall(Check.with(1), text), 1);
    }

    /** The text is none, by the byte at that place. */
    private static void fault(String text, int place) {
        Check.due("'" + text + "'", Check.hall(Check.with(1), text), -10 - place);
    }

    private static void texts() {
        room();
        clauses();
        fourClauses();
        oneBlank();
        figures();
        eitherBothOne();
        tests();
        nesting();
    }

    private static void room() {
        Check.says("THE TEXT (bytes, 100 at most)");
        String longest = "bar a=1" + "&b=2".repeat(23);
        HandedVoices x = Check.with(3);
        Check.feed(x, longest);
        Check.due(x.count(2), 99);
        Check.due(x.feed('|', 1), 100);
        Check.due(x.feed('a', 1), Check.FULL);
        Check.due(x.count(2), 100);
        Check.due(x.hall(), -110);
        Check.feed(x, longest + "2");
        Check.due(x.count(2), 100);
        Check.due(x.hall(), 1);
        // the last b is 22
        Check.due(x.barred(1, 2, 0), 0);
        Check.due(Check.hall(x, longest), 2);
        Check.due(x.barred(1, 2, 0), 1);
    }

    private static void clauses() {
        Check.says("CLAUSES, 1 to 6, with ; between");
        fault("", 0);
        sound("cap 1");
        fault(";cap 1", 0);
        fault("cap 1;", 6);
        fault("cap 1;;cap 1", 6);
        fault("cap 1cap 1", 5);
        sound("cap 1;cap 1;cap 1;cap 1;cap 1;cap 1");
        fault("cap 1;cap 1;cap 1;cap 1;cap 1;cap 1;cap 1", 35);
        fault("cap 1;cap 1;cap 1;cap 1;cap 1;cap 1;", 35);
    }

    private static void fourClauses() {
        Check.says("bar E; cap n; need n d; ring l or ring b");
        sound("bar a=1;cap 2;need 3 4;ring l;ring b");
        fault("bat a=1", 2);
        fault("cup 1", 1);
        fault("neet 1 2", 3);
        fault("rang l", 1);
        fault("ring", 4);
        fault("ring ", 5);
        fault("ring a", 5);
        fault("ring lb", 6);
        fault("Cap 1", 0);
        fault("ear", 0);
        fault("cap", 3);
    }

    private static void oneBlank() {
        Check.says("one blank ahead of each part behind the word");
        fault("bara=1", 3);
        fault("bar  a=1", 4);
        fault("bar a =1", 5);
        fault("bar a= 1", 6);
        fault("bar a=1 |b=1", 7);
        fault("cap1", 3);
        fault("cap  1", 4);
        fault("cap 1 ", 5);
        fault("cap 1 ;cap 1", 5);
        fault("cap 1; cap 1", 6);
        fault("need1 2", 4);
        fault("need  1 2", 5);
        fault("need 1  2", 7);
        fault("ringl", 4);
        fault("ring  l", 5);
        fault(" cap 1", 0);
    }

    private static void figures() {
        Check.says("n, d: 1 to 3 digits; a number (likewise)");
        fault("cap ", 4);
        sound("cap 0");
        sound("cap 000");
        sound("cap 999");
        fault("cap 0000", 7);
        fault("need  2", 5);
        sound("need 0 1");
        sound("need 999 999");
        fault("need 0000 1", 8);
        fault("need 1 ", 7);
        fault("need 1", 6);
        fault("need 1 0011", 10);
        sound("need 1 001");
        fault("bar a=", 6);
        sound("bar a=999");
        fault("bar a=9999", 9);
        fault("bar a=-1", 6);
        fault("cap 1/", 5);
        fault("cap 1:", 5);
        fault("cap /", 4);
        fault("cap :", 4);
    }

    private static void eitherBothOne() {
        Check.says("E: T or T|E. T: F or F&T. F: !F, (E), or a TEST");
        sound("bar a=1|a=2|a=3");
        sound("bar a=1&a=2&a=3");
        sound("bar !a=1&(a=2|!(a=3&a=4))|a=5");
        fault("bar a=1|", 8);
        fault("bar a=1&", 8);
        fault("bar |a=1", 4);
        fault("bar &a=1", 4);
        fault("bar a=1||a=2", 8);
        fault("bar a=1&|a=2", 8);
        fault("bar ()", 5);
        fault("bar (a=1", 8);
        fault("bar (a=1;cap 1", 8);
        fault("bar a=1)", 7);
        fault("bar !", 5);
        fault("bar !)", 5);
        fault("bar a=1!a=2", 7);
        fault("bar a=1(a=2)", 7);
        fault("bar (a=1)a=2", 9);
    }

    private static void tests() {
        Check.says("a TEST: a letter, < or = or >, a number: a .. b .. m .. s .. q");
        for (char letter : "abmsq".toCharArray()) {
            sound("bar " + letter + "<1|" + letter + "=1|" + letter + ">1");
        }
        fault("bar c=1", 4);
        fault("bar A=1", 4);
        fault("bar 1=a", 4);
        fault("bar =1", 4);
        fault("bar a", 5);
        fault("bar a1", 5);
        fault("bar a!1", 5);
        fault("bar a==1", 6);
        fault("bar a<=1", 6);
        fault("bar ab=1", 5);
    }

    private static void nesting() {
        Check.says("A ( or ! within 4 others is none");
        sound("bar ((((a=1))))");
        fault("bar (((((a=1)))))", 8);
        sound("bar !!!!a=1");
        fault("bar !!!!!a=1", 8);
        sound("bar !(!(a=1))");
        fault("bar !(!(!a=1))", 8);
        fault("bar !(!((a=1)))", 8);
        fault("bar ((((!a=1))))", 8);
        fault("bar ((((a=1|b=1&(m=1)))))", 16);
        // those that stand beside one another are not within
        sound("bar ((((a=1))))&((((a=1))))|!!!!a=1&!!!!a=1");
        sound("bar (((!a=1&!a=1|(a=1))))");
        sound("bar !a=1&!a=1&!a=1&!a=1&!a=1&(a=1)");
        fault("bar ((((", 8);
        fault("bar (((((", 8);
    }

    private static void faults() {
        firstByte();
        endsTooEarly();
        belowTheLine();
        textIsEmptyThen();
    }

    private static void firstByte() {
        Check.says("THE FAULT: the place of the first byte with which none begins so");
        fault("x", 0);
        fault("cx", 1);
        fault("cap 12x", 6);
        fault("cap 1;need 1;cap 1", 12);
        fault("ring b;bar a=1&(b=2|m=3&q>", 26);
        fault("ring b;bar a=1&(b=2|m=3&q>x", 26);
        fault("cap 1\u0000", 5);
        fault("cap 1\u00bb", 5);
        fault("\u00e3ap 1", 0);
    }

    private static void endsTooEarly() {
        Check.says("the end of THE TEXT, if it ends too early");
        String whole = "bar !(a=1)&b=2;cap 3;need 4 5;ring b";
        String ends = "";
        for (int n = 0; n <= whole.length(); n++) {
            ends += Check.hall(Check.with(1), whole.substring(0, n)) == -10 - n ? "." : "!";
        }
        Check.due(ends.indexOf('!'), "bar !(a=1)".length());
        Check.due(ends.equals("..........!...!.....!........!......!") ? 1 : 0, 1);
    }

    private static void belowTheLine() {
        Check.says("of a d that is 0 its third figure, or, with fewer, the first byte behind it");
        fault("need 1 0", 8);
        fault("need 1 00", 9);
        fault("need 1 000", 9);
        fault("need 1 0;cap 1", 8);
        fault("need 1 00;cap 1", 9);
        fault("need 1 000;cap 1", 9);
        fault("need 1 0000", 9);
        fault("need 1 0x", 8);
        sound("need 1 1");
        sound("need 1 01");
        sound("need 1 001");
        sound("need 1 010");
        sound("need 0 100");
        fault("cap 1;need 1 0", 14);
    }

    private static void textIsEmptyThen() {
        Check.says("THE TEXT, which is empty then (a FAULT: the HALL stays)");
        HandedVoices x = Check.with(2);
        Check.due(Check.hall(x, "cap 0"), 1);
        Check.due(x.count(2), 0);
        Check.due(Check.hall(x, "cap 1x"), -15);
        Check.due(x.count(2), 0);
        Check.due(x.count(1), 1);
        Check.due(x.heap(0, 0), 0);
        Check.due(x.hall(), -10);
        Check.due(x.heap(0, 0), 0);
        Check.due(Check.hall(x, "cap 1;bar a=0;ring b;need 0 0"), -39);
        Check.due(x.heap(0, 0), 0);
        Check.due(x.barred(0, 1, 0), 0);
        Check.due(Check.hall(x, "cap 1"), 2);
        Check.due(x.heap(0, 0), 1);
    }

    private static void ruling() {
        newestHall();
        lastClause();
        someBar();
        withoutAHall();
        withoutAClause();
        factsOfTests();
        signsOfTests();
        ofAllMeanings();
    }

    /** Whether the bar holds of the hands of 0, 1, 2 and 3 to 4, as bits. */
    private static int barredBy(String bar) {
        HandedVoices x = Check.with(5);
        Check.due("'" + bar + "'", Check.hall(x, "bar " + bar), 1);
        int barred = 0;
        for (int k = 0; k < 4; k++) {
            barred |= x.barred(k, 4, 0) << k;
        }
        return barred;
    }

    private static void ofAllMeanings() {
        Check.says("E: T or T|E. T: F or F&T. F: !F, (E): what they mean");
        Check.due(barredBy("a=1|a=2"), 6);
        Check.due(barredBy("a>0&a<2"), 2);
        Check.due(barredBy("!a=1"), 13);
        Check.due(barredBy("!!a=1"), 2);
        Check.due(barredBy("!!!a=1"), 13);
        Check.due(barredBy("a=0|a=1&a=2"), 1);
        Check.due(barredBy("a=1&a=2|a=0"), 1);
        Check.due(barredBy("(a=0|a=1)&a=1"), 2);
        Check.due(barredBy("!a=1&a>0"), 12);
        Check.due(barredBy("!(a=1&a>0)"), 13);
        Check.due(barredBy("!(a=1|a=3)"), 5);
        Check.due(barredBy("!a=1|!a=2"), 15);
        Check.due(barredBy("!(!a=1|!a>0)"), 2);
        Check.due(barredBy("((((a=2))))"), 4);
        Check.due(barredBy("a=3|!(a>0|m>0)"), 9);
        Check.due(barredBy("a=1|!a<0"), 15);
        Check.due(barredBy("a=1&!a<0"), 2);
    }

    private static void newestHall() {
        Check.says("The newest HALL rules");
        HandedVoices x = Check.with(2);
        Check.hall(x, "bar a=0;cap 0");
        Check.due(x.barred(0, 1, 0), 1);
        Check.due(x.heap(0, 0), 0);
        Check.hall(x, "bar a=1");
        Check.due(x.barred(0, 1, 0), 0);
        Check.due(x.barred(1, 0, 0), 1);
        Check.due(x.heap(0, 0), 1);
        Check.hall(x, "ring l");
        Check.due(x.barred(1, 0, 0), 0);
    }

    private static void lastClause() {
        Check.says("of cap, need, ring its last CLAUSE");
        HandedVoices x = Check.with(4);
        x.think(0, 0, true, 5);
        x.names(2, 0, 3, 0, 0);
        x.names(3, 0, 2, 0, 0);
        Check.hall(x, "cap 1;cap 2;ring b;ring l;need 3 4;need 1 9");
        Check.due(x.lost(0), 12);
        Check.due(x.decided(0), 1);
        x.hand(3, 0, 1);
        x.give(1, 0, 3);
        Check.due(x.heap(0, 0), 2);
        x.names(3, 0, 2, 0, 0);
        Check.hall(x, "cap 2;cap 1;ring l;ring b;need 1 9;need 3 4");
        Check.due(x.lost(0), 0);
        Check.due(x.heap(0, 0), 1);
        Check.due(x.decided(0), 1);
        x.hand(3, 0, 1);
        Check.due(x.decided(0), 0);
    }

    private static void someBar() {
        Check.says("a hand is BARRED, if E of some bar holds");
        HandedVoices x = Check.with(4);
        Check.hall(x, "bar a=0;cap 9;bar a=1;bar b=0");
        Check.due(x.barred(0, 1, 0), 1);
        Check.due(x.barred(1, 2, 0), 1);
        Check.due(x.barred(2, 0, 0), 1);
        Check.due(x.barred(1, 0, 0), 1);
        Check.due(x.barred(2, 1, 0), 0);
        Check.due(x.barred(3, 2, 0), 0);
    }

    private static void withoutAHall() {
        Check.says("Without a HALL: nothing barred, cap 999, need 1 2, ring l");
        HandedVoices x = Check.with(8);
        Check.due(x.barred(0, 7, 0), 0);
        x.names(0, 0, 1, 7, 0);
        x.names(1, 0, 0, 7, 0);
        Check.due(x.lost(0), 3);
        x.think(7, 0, true, 5);
        for (int k = 0; k < 4; k++) {
            x.give(k, 0, 7);
        }
        Check.due(x.heap(0, 0), 5);
        Check.due(x.decided(0), 1);
        x.hand(0, 0, 1);
        Check.due(x.decided(0), 0);
        x.give(0, 0, 7);
        for (int k = 4; k < 7; k++) {
            x.give(k, 0, 7);
        }
        Check.due(x.heap(0, 0), 8);
    }

    private static void withoutAClause() {
        Check.says("Without a CLAUSE: nothing barred, cap 999, need 1 2, ring l");
        HandedVoices x = Check.with(4);
        Check.hall(x, "bar a<4;cap 0;need 1 1;ring b");
        x.give(0, 0, 1);
        x.think(1, 0, true, 5);
        Check.hall(x, "bar a=7");
        Check.due(x.heap(0, 0), 2);
        Check.due(x.decided(0), 0);
        x.give(2, 0, 1);
        Check.due(x.decided(0), 1);
        x.names(1, 0, 2, 3, 0);
        Check.due(x.lost(0), 7);
        Check.hall(x, "cap 2");
        Check.due(x.barred(0, 1, 0), 0);
        Check.due(x.lost(0), 7);
        Check.hall(x, "need 9 1");
        Check.due(x.barred(0, 1, 0), 0);
        x.hand(1, 0, 1);
        Check.due(x.heap(0, 0), 3);
    }

    private static void factsOfTests() {
        Check.says("a the MEMBER that hands, b the one that it would hand to, m, s how SURE the latter is, q the former");
        HandedVoices x = Check.with(8);
        x.think(6, 2, true, 0);
        x.think(7, 2, true, 10);
        Check.hall(x, "bar a=7&b=6&m=2&s=0&q=10");
        Check.due(x.barred(7, 6, 2), 1);
        Check.due(x.barred(6, 7, 2), 0);
        Check.due(x.barred(7, 6, 1), 0);
        x.think(6, 2, true, 1);
        Check.due(x.barred(7, 6, 2), 0);
        x.think(6, 2, false, 0);
        Check.due(x.barred(7, 6, 2), 1);
        x.think(7, 2, false, 9);
        Check.due(x.barred(7, 6, 2), 0);
        // of another matter they are as sure as at first
        Check.hall(x, "bar a=7&b=6&m=0&s=5&q=5");
        Check.due(x.barred(7, 6, 0), 1);
    }

    private static void signsOfTests() {
        Check.says("< or = or >");
        HandedVoices x = Check.with(4);
        Check.hall(x, "bar a<2");
        Check.due(x.barred(1, 0, 0), 1);
        Check.due(x.barred(2, 0, 0), 0);
        Check.hall(x, "bar a=2");
        Check.due(x.barred(1, 0, 0), 0);
        Check.due(x.barred(2, 0, 0), 1);
        Check.due(x.barred(3, 0, 0), 0);
        Check.hall(x, "bar a>2");
        Check.due(x.barred(2, 0, 0), 0);
        Check.due(x.barred(3, 0, 0), 1);
        Check.hall(x, "bar a<0|b<000|m<0|s<0|q<0|a>999|s>10|a=010");
        Check.due(x.barred(0, 1, 0), 0);
        Check.hall(x, "bar a>0&a<999");
        Check.due(x.barred(0, 1, 0), 0);
        Check.due(x.barred(1, 0, 0), 1);
    }

    private static void whereVoicesGo() {
        barredGiveStays();
        firstNotBarred();
        surestNotBarred();
        eachPart();
        ringOfBest();
    }

    private static void barredGiveStays() {
        Check.says("GIVE: to its NAME; what is BARRED stays with the MEMBER, which SPEAKS with that");
        HandedVoices x = Check.with(3);
        x.give(0, 0, 1);
        Check.hall(x, "bar a=0&b=1");
        Check.due(x.share(0, 1, 0), 0);
        Check.due(x.share(0, 0, 0), 10);
        Check.dueVoices(x, 0, 1, 1);
        x.give(0, 0, 2);
        Check.due(x.share(0, 2, 0), 10);
        Check.due(x.share(0, 0, 0), 0);
    }

    private static void firstNotBarred() {
        Check.says("ORDER: to the first of its NAMES that isn't BARRED (or has no NAME left)");
        HandedVoices x = Check.with(4);
        x.names(0, 0, 2, 1, 0);
        Check.due(x.share(0, 2, 0), 10);
        Check.hall(x, "bar b=1");
        Check.due(x.share(0, 2, 0), 10);
        Check.hall(x, "bar b=2");
        Check.due(x.share(0, 1, 0), 10);
        Check.due(x.share(0, 2, 0), 0);
        Check.hall(x, "bar b=2|b=1");
        Check.due(x.share(0, 0, 0), 10);
        Check.due(x.share(0, 3, 0), 0);
    }

    private static void surestNotBarred() {
        Check.says("BLIND: to the surest one that isn't BARRED (or has no NAME left)");
        HandedVoices x = Check.with(4);
        x.think(2, 0, true, 9);
        x.think(1, 0, true, 8);
        x.hand(3, 0, 5);
        Check.due(x.share(3, 2, 0), 10);
        Check.hall(x, "bar b=2");
        Check.due(x.share(3, 1, 0), 10);
        Check.hall(x, "bar s>5");
        Check.due(x.share(3, 0, 0), 10);
        Check.hall(x, "bar b<3");
        Check.due(x.share(3, 3, 0), 10);
        Check.dueVoices(x, 3, 1, 1);
    }

    private static void eachPart() {
        Check.says("PARTS: each part to its NAME");
        HandedVoices x = Check.with(3);
        x.names(0, 0, 1, 2, 3);
        Check.hall(x, "bar b=1");
        Check.due(x.share(0, 0, 0), 3);
        Check.due(x.share(0, 1, 0), 0);
        Check.due(x.share(0, 2, 0), 7);
        Check.hall(x, "bar b=2");
        Check.due(x.share(0, 0, 0), 7);
        Check.due(x.share(0, 1, 0), 3);
        Check.hall(x, "bar a=0");
        Check.due(x.share(0, 0, 0), 10);
        Check.dueVoices(x, 0, 1, 1);
    }

    private static void ringOfBest() {
        Check.says("RING b: ORDERS hand to the NAMES that BEST tells, if there is one");
        HandedVoices x = Check.with(4);
        x.names(0, 0, 1, 3, 0);
        x.names(1, 0, 0, 3, 0);
        Check.due(x.share(0, 1, 0), 10);
        Check.hall(x, "ring b");
        Check.due(x.share(0, 3, 0), 10);
        Check.due(x.share(1, 0, 0), 10);
        // with 2 and 4 lost there is none, and so the first names have them
        x.member();
        x.give(2, 0, 4);
        x.give(4, 0, 2);
        Check.due(x.best(0, -1), 0);
        Check.due(x.share(0, 1, 0), 10);
        Check.due(x.share(1, 0, 0), 10);
        Check.due(x.lost(0), 23);
        Check.hall(x, "ring b;bar a=0&b=1");
        Check.due(x.share(0, 3, 0), 10);
        Check.due(x.lost(0), 20);
        // one order alone
        HandedVoices y = Check.with(3);
        y.names(0, 0, 1, 2, 0);
        y.give(1, 0, 0);
        Check.hall(y, "ring b");
        Check.due(y.share(0, 2, 0), 10);
        Check.dueVoices(y, 2, 3, 1);
    }

    // ==== 3

    private static void lostAndVoices() {
        lost();
        smallestPart();
        fitsItself();
        spokenPart();
        capAtMost();
        leastVoices();
        lostHaveNone();
        lowestTerms();
    }

    private static void lost() {
        Check.says("LOST if from it no way leads to one that SPEAKS with a part above 0");
        HandedVoices x = Check.with(8);
        for (int k = 0; k < 7; k++) {
            x.give(k, 0, k + 1);
        }
        Check.due(x.lost(0), 0);
        Check.dueVoices(x, 7, 8, 1);
        x.give(7, 0, 0);
        Check.due(x.lost(0), 255);
        Check.hall(x, "bar a=7");
        Check.due(x.lost(0), 0);
        Check.hall(x, "ring l");
        x.give(7, 0, 6);
        Check.due(x.lost(0), 255);
        x.back(3, 0, 0);
        Check.due(x.lost(0), 240);
        Check.due(new HandedVoices().lost(0), 0);
    }

    private static void smallestPart() {
        Check.says("no way (by parts above 0)");
        HandedVoices x = Check.with(3);
        x.names(0, 0, 1, 2, 9);
        x.give(1, 0, 0);
        Check.due(x.lost(0), 0);
        x.names(0, 0, 2, 1, 9);
        Check.due(x.lost(0), 0);
        x.names(0, 0, 2, 1, 0);
        Check.due(x.lost(0), 0);
        x.names(0, 0, 1, 2, 0);
        Check.due(x.lost(0), 3);
    }

    private static void fitsItself() {
        Check.says("of those that aren't LOST that is what fits itself (only one set of numbers does)");
        HandedVoices x = Check.with(3);
        x.names(0, 0, 1, 2, 9);
        x.give(1, 0, 0);
        // through 0: s = 1 + t, through 1: t = 1 + 9s/10: 20 and 19
        Check.dueVoices(x, 2, 3, 1);
        Check.dueVoices(x, 0, 0, 1);
        Check.hall(x, "bar a=0&b=2");
        // a tenth of what goes through 0 stays there; 20 go through
        Check.dueVoices(x, 0, 2, 1);
        Check.dueVoices(x, 2, 1, 1);
    }

    private static void spokenPart() {
        Check.says("VOICES: what goes THROUGH it times the part with which it SPEAKS");
        HandedVoices x = Check.with(4);
        x.give(3, 0, 0);
        x.names(0, 0, 1, 2, 3);
        Check.hall(x, "bar b=1");
        // two go through 0, and it speaks with three tenths
        Check.dueVoices(x, 0, 3, 5);
        Check.dueVoices(x, 2, 12, 5);
        Check.dueVoices(x, 1, 1, 1);
        Check.dueVoices(x, 3, 0, 1);
    }

    private static void capAtMost() {
        Check.says("VOICES: cap at most");
        HandedVoices x = Check.with(4);
        x.give(0, 0, 1);
        x.names(2, 0, 1, 3, 3);
        // 1 has 2 and 3 tenths
        Check.hall(x, "cap 3");
        Check.dueVoices(x, 1, 23, 10);
        Check.hall(x, "cap 2");
        Check.dueVoices(x, 1, 2, 1);
        Check.dueVoices(x, 3, 17, 10);
        Check.hall(x, "cap 1");
        Check.dueVoices(x, 1, 1, 1);
        Check.dueVoices(x, 3, 1, 1);
        Check.hall(x, "cap 0");
        Check.dueVoices(x, 1, 0, 1);
        Check.hall(x, "cap 999");
        Check.dueVoices(x, 1, 23, 10);
    }

    private static void leastVoices() {
        Check.says("SPEAKS with a part above 0; with VOICES, as few as can be");
        HandedVoices x = Check.with(3);
        x.names(0, 0, 2, 1, 1);
        x.give(1, 0, 2);
        x.give(2, 0, 1);
        Check.hall(x, "bar a=0&b=2");
        // a tenth of its own voice stays with 0, the others are lost with 1 and 2
        Check.due(x.lost(0), 6);
        Check.dueVoices(x, 0, 1, 10);
        Check.dueFraction(x.heap(0, 0), x.heap(0, 1), 1, 10);
        Check.due(x.few(0), 1);
        Check.due(x.turning(0), 1);
        Check.due(x.power(0, 0), 1);
        Check.dueRight(x, 1, 2);
        Check.due(x.mend(0, 0, 0), Check.ABSENT);
        Check.due(x.mend(0, 1, 0), 0);
    }

    private static void lostHaveNone() {
        Check.says("LOST ones have none");
        HandedVoices x = Check.with(4);
        x.give(0, 0, 1);
        x.give(1, 0, 0);
        x.names(2, 0, 1, 3, 4);
        Check.dueVoices(x, 0, 0, 1);
        Check.dueVoices(x, 1, 0, 1);
        Check.dueVoices(x, 2, 0, 1);
        // and what is handed to them is lost, too
        Check.dueVoices(x, 3, 8, 5);
    }

    private static void lowestTerms() {
        Check.says("All as fractions in lowest terms");
        HandedVoices x = Check.with(3);
        x.names(0, 0, 1, 2, 5);
        Check.dueVoices(x, 1, 3, 2);
        x.names(0, 0, 1, 2, 4);
        Check.dueVoices(x, 1, 7, 5);
        Check.dueVoices(x, 2, 8, 5);
        x.names(0, 0, 1, 2, 1);
        Check.dueVoices(x, 1, 11, 10);
        Check.dueVoices(x, 0, 0, 1);
        Check.dueFraction(x.heap(0, 0), x.heap(0, 1), 19, 10);
    }

    private static void deciding() {
        moreThan();
        ofThoseOfAll();
        needsThatNoneMeets();
    }

    private static void moreThan() {
        Check.says("DECIDED: YES, if d times .. is more than n times ..");
        HandedVoices x = Check.with(4);
        x.think(0, 0, true, 5);
        x.think(3, 0, true, 5);
        Check.due(x.decided(0), 0);
        x.think(1, 0, true, 5);
        Check.due(x.decided(0), 1);
        Check.hall(x, "need 3 4");
        Check.due(x.decided(0), 0);
        Check.hall(x, "need 749 999");
        Check.due(x.decided(0), 1);
        Check.hall(x, "need 750 999");
        Check.due(x.decided(0), 0);
        Check.hall(x, "need 0 1");
        Check.due(x.decided(0), 1);
        Check.due(x.decided(1), 0);
    }

    private static void ofThoseOfAll() {
        Check.says("the VOICES of those that think YES .. those of all");
        HandedVoices x = Check.with(6);
        x.think(0, 0, true, 5);
        x.give(1, 0, 2);
        x.give(2, 0, 1);
        x.give(3, 0, 0);
        x.think(1, 0, true, 5);
        // 0 has two, 4 and 5 one each, and 1 and 2 are lost
        Check.due(x.decided(0), 0);
        x.hand(4, 0, 0);
        x.give(4, 0, 1);
        Check.due(x.decided(0), 1);
        Check.hall(x, "cap 1");
        Check.due(x.decided(0), 0);
    }

    private static void needsThatNoneMeets() {
        Check.says("DECIDED where nobody has VOICES, or n is as much as d");
        HandedVoices x = Check.with(2);
        x.think(0, 0, true, 5);
        x.think(1, 0, true, 5);
        Check.hall(x, "need 1 1");
        Check.due(x.decided(0), 0);
        Check.hall(x, "need 999 1");
        Check.due(x.decided(0), 0);
        Check.hall(x, "need 998 999");
        Check.due(x.decided(0), 1);
        Check.hall(x, "need 0 999;cap 0");
        Check.due(x.decided(0), 0);
        Check.hall(x, "need 0 999");
        x.give(0, 0, 1);
        x.give(1, 0, 0);
        Check.due(x.decided(0), 0);
        Check.due(new HandedVoices().decided(0), 0);
    }

    private static void turningAndPower() {
        turns();
        withoutVoices();
        power();
        fewest();
        noneDecides();
    }

    private static void turns() {
        Check.says("TURNS: a MEMBER without which it would be DECIDED otherwise");
        HandedVoices x = Check.with(4);
        x.think(0, 0, true, 5);
        x.think(1, 0, true, 5);
        Check.due(x.turning(0), 12);
        x.think(3, 0, true, 5);
        Check.due(x.turning(0), 11);
        x.think(2, 0, true, 5);
        Check.due(x.turning(0), 0);
        Check.due(x.turning(1), 0);
        Check.due(new HandedVoices().turning(0), 0);
        HandedVoices y = Check.with(8);
        Check.hall(y, "need 0 1");
        Check.due(y.turning(0), 255);
        y.think(7, 0, true, 5);
        Check.due(y.turning(0), 128);
    }

    private static void withoutVoices() {
        Check.says("by the same VOICES; POWER: the others with VOICES");
        HandedVoices x = Check.with(4);
        x.give(1, 0, 0);
        x.give(2, 0, 3);
        x.give(3, 0, 2);
        // 0 has all, and it alone turns it; nobody else has any
        Check.due(x.turning(0), 1);
        Check.due(x.power(0, 0), 1);
        Check.due(x.power(1, 0), 0);
        Check.due(x.power(3, 0), 0);
        Check.hall(x, "cap 0");
        Check.due(x.turning(0), 0);
        Check.due(x.power(0, 0), 0);
    }

    private static void power() {
        Check.says("POWER: of all ways in which the others with VOICES think, in how many it TURNS it so");
        HandedVoices x = Check.with(1);
        Check.due(x.power(0, 0), 1);
        for (int k = 1; k < 8; k++) {
            x.member();
        }
        // it turns it, if just four of the seven others think yes
        Check.due(x.power(0, 0), 35);
        Check.due(x.power(7, 0), 35);
        Check.hall(x, "need 0 1");
        Check.due(x.power(7, 0), 1);
        Check.hall(x, "need 7 8");
        Check.due(x.power(7, 0), 1);
        Check.hall(x, "need 1 1");
        Check.due(x.power(7, 0), 0);
        x.give(0, 0, 1);
        Check.hall(x, "need 1 4");
        // more than two are needed, and 1 has two: 7 turns it by 1, or by two of five; 1 by one or two of six
        Check.due(x.power(7, 0), 11);
        Check.due(x.power(1, 0), 21);
    }

    private static void fewest() {
        Check.says("FEW: the fewest MEMBERS; of several sets the least as bits");
        HandedVoices x = Check.with(8);
        Check.due(x.few(0), 31);
        x.give(0, 0, 1);
        Check.due(x.few(0), 30);
        x.give(3, 0, 7);
        Check.due(x.few(0), 134);
        x.give(2, 0, 7);
        x.give(4, 0, 7);
        Check.due(x.few(0), 130);
        x.give(5, 0, 7);
        Check.due(x.few(0), 128);
        Check.hall(x, "need 7 8");
        Check.due(x.few(0), 194);
        Check.due(x.few(1), 255);
        Check.hall(x, "need 0 1");
        Check.due(x.few(0), 2);
        Check.due(x.few(1), 1);
    }

    private static void noneDecides() {
        Check.says("FEW: (-5: none)");
        HandedVoices x = new HandedVoices();
        Check.due(x.few(0), Check.ABSENT);
        x.member();
        Check.due(x.few(0), 1);
        Check.hall(x, "cap 0");
        Check.due(x.few(0), Check.ABSENT);
        Check.hall(x, "need 1 1");
        Check.due(x.few(0), Check.ABSENT);
        Check.hall(x, "need 998 999");
        Check.due(x.few(0), 1);
    }

    // ==== 4

    private static void ways() {
        waysWithNobodyLost();
        waysPastOtherHands();
        notTakenBack();
        neitherBarred();
        fewestSeconds();
        leastOfSeveral();
        noOrders();
        manyWays();
    }

    private static void waysWithNobodyLost() {
        Check.says("BEST: those with nobody LOST; WAYS: how many there are");
        HandedVoices x = Check.with(4);
        x.names(0, 0, 1, 3, 0);
        x.names(1, 0, 0, 3, 0);
        Check.due(x.best(0, -1), 3);
        x.give(2, 0, 0);
        Check.due(x.best(0, -1), 3);
        x.names(3, 0, 2, 1, 0);
        Check.due(x.best(0, -1), 0);
        Check.due(x.best(0, 3), Check.ABSENT);
        x.back(2, 0, 0);
        // 2 speaks; 3 hands to it, or to 1, which must hand to 0, and 0 to 1 or 3
        Check.due(x.best(0, -1), 3);
        x.hand(3, 0, 1);
        x.give(2, 0, 3);
        Check.due(x.best(0, -1), 3);
    }

    private static void waysPastOtherHands() {
        Check.says("BEST: those with nobody LOST, by parts above 0 and by BLIND hands, too");
        HandedVoices x = Check.with(4);
        x.think(3, 0, true, 9);
        x.names(0, 0, 1, 2, 0);
        x.names(1, 0, 0, 3, 9);
        x.hand(2, 0, 5);
        // 0 hands to 1, of which a tenth goes on to 3, or to 2, which hands all to 3
        Check.due(x.best(0, -1), 2);
        Check.due(x.best(0, 0), 0);
        x.think(0, 0, true, 10);
        Check.due(x.best(0, -1), 1);
        Check.due(x.best(0, 0), 0);
        Check.hall(x, "bar b=3");
        // what 1 may not hand to 3 it speaks with, and 2 hands to 0
        Check.due(x.best(0, -1), 1);
        Check.hall(x, "bar b=3;bar a=1&b=0");
        Check.due(x.share(1, 1, 0), 10);
        Check.due(x.best(0, -1), 1);
        x.give(1, 0, 0);
        Check.hall(x, "bar a=2&b=0");
        Check.due(x.best(0, -1), 1);
        Check.due(x.best(0, 0), 1);
    }

    private static void notTakenBack() {
        Check.says("each MEMBER with an ORDER that isn't TAKEN BACK");
        HandedVoices x = Check.with(3);
        x.names(0, 0, 1, 2, 0);
        x.names(1, 0, 0, 2, 0);
        x.back(0, 0, 2);
        x.pass(1);
        Check.due(x.best(0, -1), 3);
        Check.due(x.best(0, 0), 1);
        x.pass(1);
        Check.due(x.best(0, -1), 2);
        Check.due(x.best(0, 0), Check.NONE);
        Check.due(x.best(0, 1), 0);
    }

    private static void neitherBarred() {
        Check.says("hands to its first or its second NAME, neither BARRED");
        HandedVoices x = Check.with(3);
        x.names(0, 0, 1, 2, 0);
        Check.due(x.best(0, -1), 2);
        Check.hall(x, "bar b=1");
        Check.due(x.best(0, -1), 1);
        Check.due(x.best(0, 0), 1);
        Check.hall(x, "bar b=2");
        Check.due(x.best(0, -1), 1);
        Check.due(x.best(0, 0), 0);
        Check.hall(x, "bar a=0");
        Check.due(x.best(0, -1), 0);
        Check.due(x.best(0, 0), Check.ABSENT);
        Check.due(x.best(0, 1), Check.NONE);
    }

    private static void fewestSeconds() {
        Check.says("of these that with the fewest second NAMES");
        HandedVoices x = Check.with(5);
        x.names(0, 0, 1, 2, 0);
        x.names(1, 0, 0, 2, 0);
        x.names(2, 0, 0, 4, 0);
        x.names(3, 0, 4, 0, 0);
        // 0, 1 and 2 go round: 2 hands to 4, and 0 to 2, or 1 to 2
        Check.due(x.best(0, 0), 1);
        Check.due(x.best(0, 1), 0);
        Check.due(x.best(0, 2), 1);
        Check.due(x.best(0, 3), 0);
        x.names(1, 0, 4, 0, 0);
        x.names(2, 0, 4, 0, 0);
        Check.due(x.best(0, 0), 0);
        Check.due(x.best(0, 2), 0);
    }

    private static void leastOfSeveral() {
        Check.says("BEST: of several the least as bits (of MEMBERS with a second NAME)");
        HandedVoices x = Check.with(4);
        x.names(2, 0, 1, 3, 0);
        x.names(1, 0, 2, 3, 0);
        Check.due(x.best(0, 1), 1);
        Check.due(x.best(0, 2), 0);
        x.names(0, 0, 2, 3, 0);
        x.names(2, 0, 0, 3, 0);
        x.hand(1, 0, 1);
        Check.due(x.best(0, 0), 1);
        Check.due(x.best(0, 2), 0);
    }

    private static void noOrders() {
        Check.says("WAYS without an ORDER: the one in which none hands");
        HandedVoices x = new HandedVoices();
        Check.due(x.best(0, -1), 1);
        x.member();
        x.member();
        Check.due(x.best(0, -1), 1);
        x.give(0, 0, 1);
        Check.due(x.best(0, -1), 1);
        x.give(1, 0, 0);
        Check.due(x.best(0, -1), 0);
    }

    private static void manyWays() {
        Check.says("WAYS of as many ORDERS as can be");
        HandedVoices x = Check.with(8);
        for (int k = 0; k < 6; k++) {
            x.names(k, 0, 6, 7, 0);
        }
        Check.due(x.best(0, -1), 64);
        for (int k = 0; k < 7; k++) {
            x.names(k, 0, (k + 1) % 7, 7, 0);
        }
        Check.due(x.best(0, -1), 127);
        Check.due(x.best(0, 0), 1);
        Check.due(x.best(0, 6), 0);
        Check.hall(x, "ring b;bar b<7");
        Check.due(x.best(0, -1), 1);
        for (int k = 0; k < 7; k++) {
            Check.due(x.best(0, k), 1);
        }
        Check.dueVoices(x, 7, 8, 1);
        Check.hall(x, "ring l");
        x.names(7, 0, 0, 1, 0);
        Check.due(x.best(0, -1), 0);
        Check.due(x.best(0, 7), Check.ABSENT);
    }

    private static void beingRight() {
        sureOfTen();
        tenToThePower();
        nobodyWithVoices();
        alone();
        surest();
    }

    private static void sureOfTen() {
        Check.says("RIGHT: each that SPEAKS with VOICES thinks YES with its SURE of ten, by itself");
        HandedVoices x = Check.with(1);
        Check.dueRight(x, 1, 2);
        x.think(0, 0, true, 0);
        Check.dueRight(x, 0, 1);
        x.think(0, 0, false, 10);
        Check.dueRight(x, 1, 1);
        x.think(0, 0, false, 9);
        Check.dueRight(x, 9, 10);
        x.member();
        // just half is not more: both must be right
        Check.dueRight(x, 9, 20);
        x.give(1, 0, 0);
        Check.dueRight(x, 9, 10);
    }

    private static void tenToThePower() {
        Check.says("a fraction of 10 to the power of how many they are");
        HandedVoices x = Check.with(8);
        Check.hall(x, "need 0 1");
        for (int k = 0; k < 8; k++) {
            x.think(k, 0, true, 1);
        }
        // all but nine tenths eight times
        Check.dueRight(x, 100_000_000 - 43_046_721, 100_000_000);
        x.give(0, 0, 1);
        Check.dueRight(x, 10_000_000 - 4_782_969, 10_000_000);
        Check.hall(x, "need 7 8");
        Check.dueRight(x, 1, 10_000_000);
        x.hand(0, 0, 0);
        Check.dueRight(x, 1, 100_000_000);
    }

    private static void nobodyWithVoices() {
        Check.says("RIGHT where none SPEAKS with VOICES");
        HandedVoices x = new HandedVoices();
        Check.dueRight(x, 0, 1);
        x.member();
        x.member();
        x.give(0, 0, 1);
        x.give(1, 0, 0);
        Check.dueRight(x, 0, 1);
        x.hand(0, 0, 1);
        x.think(0, 0, true, 10);
        Check.hall(x, "cap 0;need 0 1");
        Check.dueRight(x, 0, 1);
    }

    private static void alone() {
        Check.says("ALONE: likewise, if all MEMBERS had SELF");
        HandedVoices x = Check.with(2);
        x.think(0, 0, true, 8);
        x.give(0, 0, 1);
        x.give(1, 0, 0);
        Check.dueFraction(x.right(0, 1, 0), x.right(0, 1, 1), 2, 5);
        Check.dueFraction(x.right(0, 0, 0), x.right(0, 0, 1), 0, 1);
        Check.hall(x, "cap 0");
        Check.dueFraction(x.right(0, 1, 0), x.right(0, 1, 1), 0, 1);
        HandedVoices none = new HandedVoices();
        Check.dueFraction(none.right(0, 1, 0), none.right(0, 1, 1), 0, 1);
    }

    private static void surest() {
        Check.says("SUREST: the most SURE MEMBER (of several the least)");
        HandedVoices x = new HandedVoices();
        Check.due(x.surest(0), Check.ABSENT);
        for (int k = 0; k < 8; k++) {
            x.member();
        }
        Check.due(x.surest(0), 0);
        x.think(7, 0, false, 10);
        Check.due(x.surest(0), 7);
        x.think(6, 0, false, 10);
        Check.due(x.surest(0), 6);
        for (int k = 0; k < 8; k++) {
            x.think(k, 0, true, 0);
        }
        Check.due(x.surest(0), 0);
        Check.due(x.surest(1), 0);
    }

    private static void wishing() {
        greater();
        firstOfAll();
        notItselfNotBarred();
        breach();
        rest();
        twelveTimes();
    }

    private static void greater() {
        Check.says("RATHER: the first with which RIGHT is greater than as it is");
        HandedVoices x = Check.with(3);
        // half, whoever gives to whom
        Check.due(x.rather(0), Check.ABSENT);
        x.think(2, 0, true, 6);
        // any two of them: 55 of a hundred; with 2 for two of the three: 60
        Check.due(x.rather(0), 3);
        x.give(0, 0, 2);
        Check.due(x.rather(0), Check.ABSENT);
    }

    private static void firstOfAll() {
        Check.says("RATHER: the first MEMBER, and for it of 0 SELF, 1 and more: GIVE to MEMBER that less 1");
        HandedVoices x = Check.with(2);
        // one of two that gives makes a half of a quarter
        Check.due(x.rather(0), 2);
        x.give(0, 0, 1);
        x.give(1, 0, 0);
        Check.due(x.rather(0), 0);
        Check.hall(x, "bar a=0");
        Check.due(x.rather(0), Check.ABSENT);
        HandedVoices z = Check.with(2);
        Check.hall(z, "need 0 1");
        z.think(0, 0, true, 2);
        z.think(1, 0, true, 10);
        z.give(1, 0, 0);
        // 0 for itself changes nothing, and its voice to 1 would lose both; 1 for itself is always right
        Check.due(z.rather(0), 10);
        HandedVoices y = Check.with(8);
        Check.hall(y, "bar a<7|b<6");
        y.think(6, 0, true, 10);
        // 7 gives to 6, which then has two of eight
        Check.due(y.rather(0), 77);
        y.think(6, 0, true, 5);
        y.think(0, 0, true, 0);
        Check.hall(y, "bar a<7|b<7");
        Check.due(y.rather(0), Check.ABSENT);
    }

    private static void notItselfNotBarred() {
        Check.says("GIVE to MEMBER that less 1 (not itself, not BARRED)");
        HandedVoices x = Check.with(2);
        Check.hall(x, "bar b=1");
        Check.due(x.rather(0), 11);
        Check.hall(x, "bar a=0|a=1");
        Check.due(x.rather(0), Check.ABSENT);
        HandedVoices y = Check.with(1);
        y.think(0, 0, true, 0);
        Check.due(y.rather(0), Check.ABSENT);
    }

    private static void breach() {
        Check.says("BREACH of a MATTER: .. (-5: none)");
        HandedVoices x = new HandedVoices();
        Check.due(x.breach(0), Check.ABSENT);
        x.member();
        Check.due(x.breach(0), Check.ABSENT);
        x.member();
        x.member();
        x.member();
        Check.due(x.breach(0), Check.ABSENT);
        Check.hall(x, "cap 1;ring b;bar a=0&b=2");
        Check.due(x.breach(0), Check.ABSENT);
        x.names(2, 0, 0, 1, 5);
        x.names(3, 0, 2, 0, 0);
        Check.due(x.breach(0), Check.ABSENT);
    }

    private static void rest() {
        Check.says("REST: there is none");
        HandedVoices x = new HandedVoices();
        Check.due(x.rather(0), Check.ABSENT);
        Check.due(x.settle(0), 0);
        x.member();
        Check.due(x.rather(0), Check.ABSENT);
        Check.due(x.settle(0), 0);
        x.member();
        Check.due(x.settle(0), 1);
        Check.due(x.rather(0), Check.ABSENT);
        Check.due(x.settle(0), 0);
        Check.due(x.of(0, 0, 2), 1);
        Check.due(x.of(1, 0, 0), 1);
    }

    private static void twelveTimes() {
        Check.says("TURN BY TURN: RATHER is done, till there is none, 12 times at most");
        HandedVoices x = Check.with(8);
        Check.hall(x, "need 1 3");
        int[] sure = {8, 7, 4, 3, 4, 9, 4, 9};
        for (int i = 0; i < 8; i++) {
            x.think(i, 1, true, sure[i]);
        }
        x.names(0, 1, 3, 6, 0);
        x.names(2, 1, 6, 4, 0);
        x.give(7, 1, 6);
        HandedVoices y = Check.with(8);
        Check.hall(y, "need 1 3");
        for (int i = 0; i < 8; i++) {
            y.think(i, 1, true, sure[i]);
        }
        y.names(0, 1, 3, 6, 0);
        y.names(2, 1, 6, 4, 0);
        y.give(7, 1, 6);
        for (int turn = 0; turn < 12; turn++) {
            int wish = y.rather(1);
            Check.due(wish >= 0 ? 1 : 0, 1);
            if (wish % 10 == 0) {
                y.hand(wish / 10, 1, 1);
            } else {
                y.give(wish / 10, 1, wish % 10 - 1);
            }
        }
        Check.due(x.settle(1), 12);
        Check.due(x.rather(1) >= 0 ? 1 : 0, 1);
        for (int i = 0; i < 8; i++) {
            Check.due(x.of(i, 1, 0), y.of(i, 1, 0));
            Check.due(x.of(i, 1, 2), y.of(i, 1, 2));
        }
    }

    private static void mending() {
        heap();
        noHeapIsMore();
        membersAtMost();
        greatestRight();
        mendOfSeveral();
    }

    private static void heap() {
        Check.says("HEAP: the greatest VOICES of a MEMBER (no MEMBERS: 0 by 1)");
        HandedVoices x = new HandedVoices();
        Check.dueFraction(x.heap(0, 0), x.heap(0, 1), 0, 1);
        x.member();
        Check.dueFraction(x.heap(0, 0), x.heap(0, 1), 1, 1);
        x.member();
        x.give(0, 0, 1);
        x.give(1, 0, 0);
        Check.dueFraction(x.heap(0, 0), x.heap(0, 1), 0, 1);
        HandedVoices y = Check.with(8);
        for (int k = 0; k < 7; k++) {
            y.give(k, 0, 7);
        }
        Check.dueFraction(y.heap(0, 0), y.heap(0, 1), 8, 1);
        Check.due(y.mend(0, 8, 0), 0);
        Check.due(y.mend(0, 7, 0), Check.ABSENT);
    }

    private static void noHeapIsMore() {
        Check.says("MEND: so that no HEAP is more than h");
        HandedVoices x = Check.with(3);
        x.give(0, 0, 1);
        Check.due(x.mend(0, 2, 8), 0);
        Check.due(x.mend(0, 1, 8), 1);
        Check.due(x.mend(0, 0, 8), Check.ABSENT);
        x.names(0, 0, 1, 2, 9);
        // 19 tenths
        Check.due(x.mend(0, 2, 0), 0);
        Check.due(x.mend(0, 1, 0), Check.ABSENT);
        Check.due(x.mend(0, 1, 1), 1);
        Check.hall(x, "cap 0");
        Check.due(x.mend(0, 0, 0), 0);
    }

    private static void membersAtMost() {
        Check.says("MEND: the set of n MEMBERS at most (-5: none)");
        HandedVoices x = Check.with(8);
        for (int k = 0; k < 7; k++) {
            x.give(k, 0, 7);
        }
        Check.due(x.mend(0, 1, 6), Check.ABSENT);
        Check.due(x.mend(0, 1, 7), 127);
        Check.due(x.mend(0, 1, 8), 127);
        Check.due(x.mend(0, 7, 1), 1);
        Check.due(x.mend(0, 7, 0), Check.ABSENT);
        Check.due(new HandedVoices().mend(0, 0, 0), 0);
    }

    private static void greatestRight() {
        Check.says("MEND: with the greatest RIGHT");
        HandedVoices x = Check.with(4);
        x.give(0, 0, 3);
        x.give(1, 0, 3);
        x.give(2, 0, 3);
        x.think(3, 0, true, 4);
        x.think(1, 0, true, 10);
        // as it is 4 of ten; with one for itself 3 has three of four; with two the two and 3 must make three
        Check.due(x.mend(0, 8, 0), 0);
        Check.due(x.mend(0, 8, 1), 0);
        // with 1 and 0 for themselves: 3 has two, and is right with one of them: 4 of ten, as 1 is sure; so with 2
        Check.due(x.mend(0, 8, 2), 0);
        // with three: all have one, and 1 with two others of 5, 5 and 4 of ten makes 45 of a hundred
        Check.due(x.mend(0, 8, 3), 7);
    }

    private static void mendOfSeveral() {
        Check.says("MEND: of several the fewest, then the least as bits");
        HandedVoices x = Check.with(3);
        x.give(0, 0, 2);
        x.give(1, 0, 2);
        Check.due(x.mend(0, 3, 8), 0);
        Check.due(x.mend(0, 2, 8), 1);
        Check.due(x.mend(0, 1, 8), 3);
        x.think(0, 0, true, 0);
        // 2 has two of three, whoever of 0 and 1 speaks
        Check.due(x.mend(0, 2, 1), 1);
        HandedVoices y = Check.with(5);
        y.give(0, 0, 4);
        y.give(1, 0, 4);
        y.give(2, 0, 4);
        y.give(3, 0, 2);
        // all five hang on 4; without 2 it has three, and so without 0 and 1; half of all is right, however it is
        Check.due(y.mend(0, 3, 8), 4);
        Check.due(y.mend(0, 3, 1), 4);
        y.think(4, 0, true, 1);
        // with 0 and 2 for themselves (4 and 2 have two, 0 one) two of 1, 5 and 5 of ten make 3, and so with 1 and 2
        Check.due(y.mend(0, 3, 2), 5);
    }

    private static void lateAndFewest() {
        lastMinute();
        whoeverTakesItBack();
        decidedOtherwise();
        fewestWonOver();
        noneToWin();
    }

    /** Two of two think yes, as 0 gives to 1, and one of two, when it takes that back. */
    private static HandedVoices takenBackAt(int minute) {
        HandedVoices x = Check.with(2);
        x.think(1, 0, true, 5);
        x.give(0, 0, 1);
        x.back(0, 0, minute);
        return x;
    }

    private static void lastMinute() {
        Check.says("LATE: the last MINUTE (NOW .. 99)");
        Check.due(takenBackAt(100).late(0), Check.ABSENT);
        Check.due(takenBackAt(99).late(0), 99);
        Check.due(takenBackAt(1).late(0), 99);
        Check.due(takenBackAt(0).late(0), Check.ABSENT);
        HandedVoices x = takenBackAt(99);
        Check.pass(x, 98);
        Check.due(x.late(0), 99);
        x.pass(1);
        Check.due(x.late(0), Check.ABSENT);
        Check.due(new HandedVoices().late(0), Check.ABSENT);
    }

    private static void whoeverTakesItBack() {
        Check.says("LATE, whoever takes its HAND back");
        for (int k = 1; k < 8; k++) {
            HandedVoices x = Check.with(8);
            Check.hall(x, "need 1 8");
            x.think(0, 0, true, 5);
            x.give(k, 0, 0);
            x.back(k, 0, 50);
            Check.due("as " + k + " does", x.late(0), 99);
        }
        HandedVoices y = Check.with(5);
        y.think(0, 0, true, 5);
        y.think(2, 0, true, 5);
        y.give(1, 0, 0);
        y.give(4, 0, 0);
        y.give(2, 0, 3);
        // three of five; from 20 on two, as 1 says no; from 40 on three again, as 2 says yes for itself
        y.back(1, 0, 20);
        y.back(2, 0, 40);
        Check.due(y.late(0), 39);
    }

    private static void decidedOtherwise() {
        Check.says("LATE: it would be DECIDED otherwise than NOW (-5: none)");
        HandedVoices x = Check.with(3);
        x.think(1, 0, true, 5);
        x.give(0, 0, 2);
        x.give(2, 0, 1);
        // yes of three; from 40 on 2 says no for two; from 90 on 0 gives no more, and thinks yes
        x.back(2, 0, 40);
        x.back(0, 0, 90);
        x.think(0, 0, true, 5);
        Check.due(x.decided(0), 1);
        Check.due(x.late(0), 89);
        Check.pass(x, 40);
        Check.due(x.decided(0), 0);
        Check.due(x.late(0), 99);
        Check.pass(x, 49);
        Check.due(x.late(0), 99);
        x.pass(1);
        Check.due(x.decided(0), 1);
        Check.due(x.late(0), Check.ABSENT);
    }

    private static void fewestWonOver() {
        Check.says("FEWEST: must think YES and have SELF (of several the least as bits; 0: it is)");
        HandedVoices x = Check.with(5);
        Check.due(x.fewest(0), 7);
        x.think(1, 0, true, 5);
        Check.due(x.fewest(0), 5);
        x.think(3, 0, true, 5);
        Check.due(x.fewest(0), 1);
        x.think(4, 0, true, 5);
        Check.due(x.fewest(0), 0);
        x.give(4, 0, 0);
        x.give(3, 0, 0);
        x.think(4, 0, false, 5);
        // 0 has three of five; 4 or 2 would not do
        Check.due(x.fewest(0), 1);
        x.give(0, 0, 2);
        // 2 has four; without 0 it has one, and 0 has three
        Check.due(x.fewest(0), 1);
        x.think(2, 0, true, 5);
        Check.due(x.fewest(0), 0);
    }

    private static void noneToWin() {
        Check.says("FEWEST: -5: none");
        HandedVoices x = new HandedVoices();
        Check.due(x.fewest(0), Check.ABSENT);
        x.member();
        Check.due(x.fewest(0), 1);
        Check.hall(x, "need 1 1");
        Check.due(x.fewest(0), Check.ABSENT);
        x.think(0, 0, true, 5);
        Check.due(x.fewest(0), Check.ABSENT);
        Check.hall(x, "cap 0;need 0 1");
        Check.due(x.fewest(0), Check.ABSENT);
        HandedVoices y = Check.with(8);
        Check.hall(y, "need 7 8");
        Check.due(y.fewest(0), 255);
        for (int k = 0; k < 7; k++) {
            y.think(k, 0, true, 5);
        }
        Check.due(y.fewest(0), 128);
    }

    // ==== 5

    private static void tapes() {
        sixTapes();
        lowestBits();
        booleans();
    }

    private static void sixTapes() {
        Check.says("TAPES 0 .. 5 hold nothing (at first), or a row");
        HandedVoices x = new HandedVoices();
        for (int tape = 0; tape < 6; tape++) {
            Check.due(x.item(tape, 0, 1), Check.NOTHING);
            Check.due(x.read(tape, 0), Check.NO);
            Check.due(x.tape(tape, 3, 60), 1);
            Check.due(x.item(tape, 0, 10 + tape), 1);
            Check.due(x.item(tape, 59, 20 + tape), 1);
        }
        for (int tape = 0; tape < 6; tape++) {
            Check.due(x.read(tape, 0), 10 + tape);
            Check.due(x.read(tape, 1), 0);
            Check.due(x.read(tape, 59), 20 + tape);
            Check.due(x.read(tape, 60), Check.NO);
        }
        Check.due(x.item(-1, 0, 1), Check.NONE);
        Check.due(x.item(6, 0, 1), Check.NONE);
        Check.due(x.tape(2, -1, 0), 1);
        Check.due(x.read(2, 0), Check.NO);
        Check.due(x.read(3, 0), 13);
    }

    private static void dueItem(HandedVoices x, int sort, long v, long kept) {
        x.item(sort, 0, v);
        Check.due("" + v, x.read(sort, 0), kept);
    }

    private static void lowestBits() {
        Check.says("0 bytes, 1 shorts, 2 ints, 3 longs: its lowest bits, as many as an item has");
        HandedVoices x = new HandedVoices();
        for (int sort = 0; sort < 5; sort++) {
            x.tape(sort, sort, 1);
        }
        for (int sort = 0, bits = 8; sort < 4; sort++, bits *= 2) {
            long most = -1L >>> 65 - bits;
            long least = -most - 1;
            dueItem(x, sort, most, most);
            dueItem(x, sort, least, least);
            dueItem(x, sort, most + 1, least);
            dueItem(x, sort, least - 1, most);
            dueItem(x, sort, -1, -1);
            dueItem(x, sort, 0, 0);
        }
        dueItem(x, 0, 256, 0);
        dueItem(x, 1, 65536, 0);
        dueItem(x, 2, 1L << 32, 0);
        dueItem(x, 3, 1L << 32, 1L << 32);
    }

    private static void booleans() {
        Check.says("4 booleans (items 0, 1): whether v is not 0");
        HandedVoices x = new HandedVoices();
        x.tape(4, 4, 1);
        dueItem(x, 4, 0, 0);
        dueItem(x, 4, 1, 1);
        dueItem(x, 4, 2, 1);
        dueItem(x, 4, -1, 1);
        dueItem(x, 4, 0, 0);
        dueItem(x, 4, 1L << 32, 1);
        dueItem(x, 4, Long.MIN_VALUE, 1);
    }

    /** Three members with 0, 7 and 8 fifths, and a row of their voices on tape 0 from a place on. */
    private static HandedVoices tabled(int from, int size) {
        HandedVoices x = Check.with(3);
        x.names(0, 0, 1, 2, 4);
        x.tape(0, 3, size);
        long[] row = {0, 1, 7, 5, 8, 5};
        for (int k = 0; k < row.length; k++) {
            x.item(0, from + k, row[k]);
        }
        return x;
    }

    private static void tables() {
        justTheseVoices();
        lowestInTables();
        beyondTheRow();
        belowTheRow();
        nothingThere();
        nobodyToTell();
    }

    private static void justTheseVoices() {
        Check.says("how many MEMBERS, by numbers, have just these VOICES ahead of the first that has not");
        Check.due(tabled(0, 6).table(0, 0, 0), 3);
        Check.due(tabled(54, 60).table(0, 54, 0), 3);
        for (int k = 0; k < 6; k++) {
            HandedVoices x = tabled(3, 60);
            x.item(0, 3 + k, 99);
            Check.due("wrong at " + k, x.table(0, 3, 0), k / 2);
        }
        // what is behind the first that has not counts no more
        HandedVoices y = tabled(0, 4);
        y.item(0, 0, 1);
        Check.due(y.table(0, 0, 0), 0);
    }

    private static void lowestInTables() {
        Check.says("above and below the line, in lowest terms");
        HandedVoices x = tabled(0, 6);
        x.item(0, 2, 14);
        x.item(0, 3, 10);
        Check.due(x.table(0, 0, 0), 1);
        x.item(0, 1, 5);
        Check.due(x.table(0, 0, 0), 0);
    }

    private static void beyondTheRow() {
        Check.says("one that is beyond the row has not, and 100 are counted then besides");
        int[] told = {100, 100, 101, 101, 102, 102, 3, 3};
        for (int size = 0; size < 8; size++) {
            Check.due("of " + size, tabled(0, size).table(0, 0, 0), told[size]);
        }
        Check.due(tabled(55, 60).table(0, 55, 0), 102);
        // half beyond is beyond, even if the half that is there differs already
        HandedVoices x = tabled(0, 5);
        x.item(0, 4, 99);
        Check.due(x.table(0, 0, 0), 102);
        Check.due(tabled(0, 60).table(0, 60, 0), 100);
        Check.due(tabled(0, 60).table(0, 59, 0), 100);
        Check.due(tabled(0, 60).table(0, Check.HUGE, 0), 100);
        Check.due(tabled(0, 60).table(0, Check.HUGE - 1, 0), 100);
    }

    private static void belowTheRow() {
        Check.says("or at a place below 0");
        Check.due(tabled(0, 60).table(0, -1, 0), 100);
        Check.due(tabled(0, 60).table(0, -2, 0), 100);
        Check.due(tabled(0, 60).table(0, Check.LEAST, 0), 100);
    }

    private static void nothingThere() {
        Check.says("or where the TAPE holds nothing");
        HandedVoices x = Check.with(3);
        Check.due(x.table(5, 0, 0), 100);
        Check.due(x.table(5, -1, 0), 100);
        x.tape(5, 3, 60);
        Check.due(x.table(5, 0, 0), 0);
        x.tape(5, -1, 0);
        Check.due(x.table(5, 0, 0), 100);
    }

    private static void nobodyToTell() {
        Check.says("A TABLE where there are no MEMBERS");
        HandedVoices x = new HandedVoices();
        Check.due(x.table(0, 0, 0), 0);
        Check.due(x.table(0, -1, 0), 0);
        x.tape(0, 3, 0);
        Check.due(x.table(0, 7, 0), 0);
        x.tape(0, 4, 6);
        Check.due(x.table(0, 0, 0), Check.CAST);
    }
}
