import java.util.ArrayList;
import java.util.List;
import java.util.function.Supplier;

/**
 * Every call that is refused: its answer, at the bounds of each number and far
 * beyond them, the first answer that its words name, and that nothing is
 * changed by it. And that nothing is changed by a call that asks.
 */
public final class RefusalTest {
    /** What an object is good for. */
    private static final int CALLS = 512;

    private interface Call {
        long on(HandedVoices x);
    }

    public static void main(String[] args) {
        members();
        hands();
        names();
        minutes();
        halls();
        voices();
        ways();
        matters();
        heaps();
        tables();
        actsAndKinds();
        tapes();
        items();
        shifts();
        asking();
        Check.finish();
    }

    /** Something of everything: four members, hands of all kinds, a hall, a text begun, tapes, a trace. */
    private static HandedVoices furnished() {
        HandedVoices x = Check.with(4);
        x.think(0, 0, true, 9);
        x.think(1, 0, false, 10);
        x.think(2, 2, true, 0);
        x.think(3, 1, true, 7);
        x.names(0, 0, 1, 2, 0);
        x.names(1, 0, 2, 3, 3);
        x.give(2, 0, 3);
        x.hand(3, 0, 0);
        x.hand(0, 1, 5);
        x.give(1, 1, 0);
        x.names(2, 1, 3, 0, 0);
        x.give(0, 2, 1);
        x.give(1, 2, 0);
        x.names(3, 2, 2, 0, 9);
        Check.hall(x, "bar a=3&b=0;cap 3;need 2 5;ring b");
        x.back(2, 0, 50);
        x.back(2, 1, 7);
        x.pass(7);
        x.tape(0, 3, 4);
        x.item(0, 3, -9);
        x.tape(1, 0, 3);
        x.item(1, 0, 200);
        x.tape(2, 1, 2);
        x.tape(3, 2, 5);
        x.item(3, 2, 77);
        x.tape(4, 4, 3);
        x.item(4, 1, 1);
        x.act(1, 0, 2, 5);
        Check.feed(x, "cap ");
        return x;
    }

    /** No more room: all members, the last minute, a text of 100 bytes. */
    private static HandedVoices crowded() {
        HandedVoices x = Check.with(8);
        for (int k = 0; k < 7; k++) {
            x.names(k, 0, (k + 1) % 8, 7, k);
        }
        x.give(1, 1, 0);
        Check.feed(x, "cap 1" + ";cap 1".repeat(5) + "0".repeat(65));
        x.tape(5, 0, 60);
        Check.pass(x, 99);
        return x;
    }

    /** All that can be asked, and last what follows from the text and the next member. */
    private static List<Long> told(HandedVoices x) {
        List<Long> told = new ArrayList<>();
        for (int what = 0; what < 5; what++) {
            told.add((long) x.count(what));
        }
        for (int i = 0; i < 11; i++) {
            told.add((long) x.trace(i));
        }
        for (int i = 0; i < Math.min(8, x.count(0)); i++) {
            for (int m = 0; m < 3; m++) {
                for (int what = 0; what < 7; what++) {
                    told.add((long) x.of(i, m, what));
                }
            }
        }
        for (int m = 0; m < 3; m++) {
            told.addAll(toldOf(x, m));
        }
        for (int tape = 0; tape < 6; tape++) {
            for (int i = 0; i < 6; i++) {
                told.add(x.read(tape, i));
            }
        }
        Check.feed(x, "1");
        told.add((long) x.count(2));
        told.add((long) x.hall());
        told.add(x.heap(0, 0));
        told.add((long) x.member());
        return told;
    }

    private static List<Long> toldOf(HandedVoices x, int m) {
        List<Long> told = new ArrayList<>();
        for (int i = 0; i < Math.min(4, x.count(0)); i++) {
            for (int j = 0; j < 4; j++) {
                told.add((long) x.share(i, j, m));
                if (i != j) {
                    told.add((long) x.barred(i, j, m));
                }
            }
            told.add(x.voices(i, m, 0));
            told.add(x.voices(i, m, 1));
        }
        told.add((long) x.lost(m));
        told.add((long) x.turning(m));
        told.add((long) x.few(m));
        told.add((long) x.best(m, -1));
        told.add(x.right(m, 0, 0));
        told.add(x.right(m, 1, 0));
        told.add((long) x.surest(m));
        told.add((long) x.rather(m));
        told.add((long) x.late(m));
        told.add((long) x.fewest(m));
        return told;
    }

    private static void refused(String call, long answer, Call refusal) {
        unchanged(call, answer, refusal, RefusalTest::furnished);
    }

    private static void refusedOf(String call, long answer, Call refusal, Supplier<HandedVoices> object) {
        unchanged(call, answer, refusal, object);
    }

    private static void unchanged(String call, long answer, Call refusal, Supplier<HandedVoices> object) {
        HandedVoices x = object.get();
        Check.due(call, refusal.on(x), answer);
        List<Long> after = told(x);
        List<Long> before = told(object.get());
        Check.due(call + ": how much is told", after.size(), before.size());
        // both objects have been used for all that is told, and for fewer calls than they are good for
        Check.due(call + ": few enough calls", after.size() < CALLS - 80 ? 1 : 0, 1);
        for (int k = 0; k < Math.min(after.size(), before.size()); k++) {
            if (!after.get(k).equals(before.get(k))) {
                Check.due(call + " has changed what is told as number " + k, after.get(k), before.get(k));
            }
        }
    }

    /** The call with no such member (of four), and with no such matter. */
    private interface OfTwo {
        long on(HandedVoices x, int member, int matter);
    }

    private static void noneOf(String call, long answer, OfTwo refusal) {
        for (int bad : Check.outside(4)) {
            refused(call + " of member " + bad, answer, x -> refusal.on(x, bad, 0));
        }
        for (int bad : Check.outside(3)) {
            refused(call + " of matter " + bad, answer, x -> refusal.on(x, 1, bad));
        }
    }

    private interface OfNumber {
        long on(HandedVoices x, int number);
    }

    private static void eachOf(String call, long answer, int[] numbers, OfNumber refusal) {
        for (int number : numbers) {
            refused(call + " " + number, answer, x -> refusal.on(x, number));
        }
    }

    private static void members() {
        Check.says("member(): FULL");
        refusedOf("member", Check.FULL, x -> x.member(), RefusalTest::crowded);
        Check.says("think(): NONE; BAD: sure");
        noneOf("think", Check.NONE, (x, i, m) -> x.think(i, m, true, 3));
        eachOf("think: sure", Check.BAD, Check.outside(11), (x, k) -> x.think(0, 0, false, k));
        refused("think: no member, sure", Check.NONE, x -> x.think(4, 0, true, 11));
        refused("think: no matter, sure", Check.NONE, x -> x.think(0, 3, true, -1));
    }

    private static void hands() {
        Check.says("hand(): NONE: member, matter; BAD: kind");
        noneOf("hand", Check.NONE, (x, i, m) -> x.hand(i, m, 5));
        eachOf("hand: kind", Check.BAD, new int[] {-1, 2, 3, 4, 6, Check.HUGE, Check.LEAST}, (x, k) -> x.hand(0, 0, k));
        refused("hand: no member, kind", Check.NONE, x -> x.hand(-1, 0, 2));
        refused("hand: no matter, kind", Check.NONE, x -> x.hand(0, 3, 6));
        Check.says("give(): NONE: member, matter, name; BAD: itself");
        noneOf("give", Check.NONE, (x, i, m) -> x.give(i, m, 3));
        eachOf("give: name", Check.NONE, Check.outside(4), (x, k) -> x.give(0, 0, k));
        eachOf("give: itself", Check.BAD, new int[] {0, 1, 2, 3}, (x, k) -> x.give(k, 0, k));
        refused("give: no member, itself", Check.NONE, x -> x.give(4, 0, 4));
        refused("give: no matter, itself", Check.NONE, x -> x.give(2, 3, 2));
    }

    private static void names() {
        Check.says("names(): NONE; BAD: itself, one NAME, x");
        noneOf("names", Check.NONE, (x, i, m) -> x.names(i, m, 2, 3, 5));
        eachOf("names: first", Check.NONE, Check.outside(4), (x, k) -> x.names(0, 0, k, 3, 5));
        eachOf("names: second", Check.NONE, Check.outside(4), (x, k) -> x.names(0, 0, 3, k, 5));
        refused("names: itself first", Check.BAD, x -> x.names(0, 0, 0, 3, 5));
        refused("names: itself second", Check.BAD, x -> x.names(0, 0, 3, 0, 0));
        refused("names: one name", Check.BAD, x -> x.names(0, 0, 3, 3, 0));
        refused("names: itself twice", Check.BAD, x -> x.names(0, 0, 0, 0, 1));
        eachOf("names: x", Check.BAD, Check.outside(10), (x, k) -> x.names(0, 0, 3, 2, k));
        refused("names: no member, x", Check.NONE, x -> x.names(4, 0, 1, 2, 10));
        refused("names: no matter, one name", Check.NONE, x -> x.names(0, -1, 1, 1, 3));
        refused("names: no first, itself second", Check.NONE, x -> x.names(0, 0, 4, 0, 3));
        refused("names: itself first, no second", Check.NONE, x -> x.names(0, 0, 0, 4, 3));
        refused("names: one name that is none", Check.NONE, x -> x.names(0, 0, 4, 4, 3));
    }

    private static void minutes() {
        Check.says("back(): NONE; BAD");
        noneOf("back", Check.NONE, (x, i, m) -> x.back(i, m, 3));
        eachOf("back: minute", Check.BAD, Check.outside(101), (x, k) -> x.back(0, 0, k));
        refused("back: no member, minute", Check.NONE, x -> x.back(4, 0, 101));
        refused("back: no matter, minute", Check.NONE, x -> x.back(0, 3, -1));
        Check.says("pass(): BAD: also beyond 99");
        eachOf("pass", Check.BAD, new int[] {0, 21, -1, -7, Check.HUGE, Check.LEAST}, (x, n) -> x.pass(n));
        refusedOf("pass beyond", Check.BAD, x -> x.pass(1), RefusalTest::crowded);
        refusedOf("pass far beyond", Check.BAD, x -> x.pass(20), RefusalTest::crowded);
        Check.says("of(): NONE");
        noneOf("of", Check.NONE, (x, i, m) -> x.of(i, m, 0));
        eachOf("of: what", Check.NONE, Check.outside(7), (x, k) -> x.of(0, 0, k));
    }

    private static void halls() {
        Check.says("feed(): BAD; FULL");
        eachOf("feed", Check.BAD, Check.outside(5), (x, n) -> x.feed(0x31323334, n));
        for (int n = 1; n <= 4; n++) {
            int bytes = n;
            refusedOf("feed " + n, Check.FULL, x -> x.feed(0x31323334, bytes), RefusalTest::crowded);
        }
        for (int bad : Check.outside(5)) {
            refusedOf("feed in a full text " + bad, Check.BAD, x -> x.feed(0, bad), RefusalTest::crowded);
        }
        Check.says("barred(): NONE; BAD: one MEMBER");
        noneOf("barred", Check.NONE, (x, i, m) -> x.barred(i, 2, m));
        eachOf("barred: to", Check.NONE, Check.outside(4), (x, k) -> x.barred(2, k, 0));
        eachOf("barred: one", Check.BAD, new int[] {0, 1, 2, 3}, (x, k) -> x.barred(k, k, 2));
        refused("barred: one that is none", Check.NONE, x -> x.barred(4, 4, 0));
        refused("barred: one, and no matter", Check.NONE, x -> x.barred(1, 1, 3));
        Check.says("share(): NONE");
        noneOf("share", Check.NONE, (x, i, m) -> x.share(i, 2, m));
        eachOf("share: to", Check.NONE, Check.outside(4), (x, k) -> x.share(2, k, 0));
        refused("share: one that is none", Check.NONE, x -> x.share(4, 4, 0));
    }

    private static void voices() {
        Check.says("voices(): NO");
        noneOf("voices", Check.NO, (x, i, m) -> x.voices(i, m, 0));
        noneOf("voices below the line", Check.NO, (x, i, m) -> x.voices(i, m, 1));
        eachOf("voices: part", Check.NO, Check.outside(2), (x, k) -> x.voices(0, 0, k));
        Check.says("power(): NONE");
        noneOf("power", Check.NONE, (x, i, m) -> x.power(i, m));
    }

    private static void ways() {
        Check.says("best(): NONE: matter, i (others, too)");
        eachOf("best: matter", Check.NONE, Check.outside(3), (x, k) -> x.best(k, -1));
        eachOf("best: i", Check.NONE, new int[] {-2, 4, 7, 8, 31, 32, Check.HUGE, Check.LEAST}, (x, k) -> x.best(0, k));
        // of matter 0 only 0 has an order; 2 has taken back its own of matter 1
        eachOf("best: other", Check.NONE, new int[] {1, 2, 3}, (x, k) -> x.best(0, k));
        refused("best: taken back", Check.NONE, x -> x.best(1, 2));
        Check.says("right(): NO");
        eachOf("right: matter", Check.NO, Check.outside(3), (x, k) -> x.right(k, 0, 0));
        eachOf("right: what", Check.NO, Check.outside(2), (x, k) -> x.right(0, k, 0));
        eachOf("right: part", Check.NO, Check.outside(2), (x, k) -> x.right(0, 1, k));
    }

    /** The calls that have no number but a matter's. */
    private static void matters() {
        String[] names = {"lost", "decided", "turning", "few", "surest", "breach", "rather", "settle", "late", "fewest"};
        OfNumber[] calls = {HandedVoices::lost, HandedVoices::decided, HandedVoices::turning, HandedVoices::few,
            HandedVoices::surest, HandedVoices::breach, HandedVoices::rather, HandedVoices::settle,
            HandedVoices::late, HandedVoices::fewest};
        for (int k = 0; k < names.length; k++) {
            Check.says(names[k] + "(): NONE");
            eachOf(names[k], Check.NONE, Check.outside(3), calls[k]);
            OfNumber call = calls[k];
            Check.due("nobody's", call.on(new HandedVoices(), 3), Check.NONE);
        }
    }

    private static void heaps() {
        Check.says("heap(): NO");
        eachOf("heap: matter", Check.NO, Check.outside(3), (x, k) -> x.heap(k, 0));
        eachOf("heap: part", Check.NO, Check.outside(2), (x, k) -> x.heap(0, k));
        Check.says("mend(): NONE; BAD: h (0 .. 8), n (0 .. 8)");
        eachOf("mend: matter", Check.NONE, Check.outside(3), (x, k) -> x.mend(k, 3, 3));
        eachOf("mend: h", Check.BAD, Check.outside(9), (x, k) -> x.mend(0, k, 3));
        eachOf("mend: n", Check.BAD, Check.outside(9), (x, k) -> x.mend(0, 3, k));
        refused("mend: no matter, h", Check.NONE, x -> x.mend(3, 9, 0));
        refused("mend: no matter, n", Check.NONE, x -> x.mend(-1, 0, 9));
    }

    private static void tables() {
        Check.says("table(): NONE: tape, matter; CAST: it is no row of longs");
        eachOf("table: tape", Check.NONE, Check.outside(6), (x, k) -> x.table(k, 0, 0));
        eachOf("table: matter", Check.NONE, Check.outside(3), (x, k) -> x.table(0, 0, k));
        eachOf("table: sort", Check.CAST, new int[] {1, 2, 3, 4}, (x, k) -> x.table(k, 0, 0));
        refused("table: sort, no matter", Check.NONE, x -> x.table(1, 0, 3));
        refused("table: sort, no place", Check.CAST, x -> x.table(1, -1, 0));
        refused("table: nothing there is no row of another sort", 100, x -> x.table(5, 0, 0));
    }

    private static void actsAndKinds() {
        Check.says("act(): 0, and no TRACE then: no such HAND, act");
        int[][] wrongs = {{-1, 0, 0}, {4, 0, 0}, {Check.HUGE, 0, 0}, {0, -1, 0}, {0, 3, 0}, {0, Check.LEAST, 0},
            {0, 0, -1}, {0, 0, 3}, {0, 0, Check.HUGE}, {0, 0, Check.LEAST}};
        for (int[] call : wrongs) {
            HandedVoices x = furnished();
            Check.due(x.trace(0), 50);
            Check.due(x.act(call[0], call[1], call[2], 7), 0);
            Check.due(x.trace(0), Check.NONE);
            Check.due(x.count(4), 0);
            // nothing else has changed: the act of before makes it as it was
            x.act(1, 0, 2, 5);
            Check.due("as it was", told(x).equals(told(furnished())) ? 1 : 0, 1);
        }
        Check.says("trace(): NONE");
        eachOf("trace", Check.NONE, Check.outside(furnished().count(4)), (x, k) -> x.trace(k));
        Check.says("taken(): BAD: k; NOTHING: no such HAND; CAST");
        eachOf("taken: k", Check.BAD, Check.outside(6), (x, k) -> x.taken(0, 0, k));
        noneOf("taken", Check.NOTHING, (x, i, m) -> x.taken(i, m, 0));
        refused("taken: k, no member", Check.BAD, x -> x.taken(4, 0, 6));
        refused("taken: k, no matter", Check.BAD, x -> x.taken(0, 3, -1));
        refused("taken: no member, another kind", Check.NOTHING, x -> x.taken(4, 0, 5));
        refused("taken: another kind", Check.CAST, x -> x.taken(0, 0, 4));
        Check.says("count(): BAD");
        eachOf("count", Check.BAD, Check.outside(5), (x, k) -> x.count(k));
    }

    private static void tapes() {
        Check.says("tape(): NONE: tape; BAD: sort, n above 60; SIZE");
        eachOf("tape", Check.NONE, Check.outside(6), (x, k) -> x.tape(k, 0, 1));
        eachOf("tape: nothing to be held", Check.NONE, Check.outside(6), (x, k) -> x.tape(k, -1, 1));
        eachOf("tape: sort", Check.BAD, new int[] {-2, 5, Check.HUGE, Check.LEAST}, (x, k) -> x.tape(0, k, 1));
        eachOf("tape: n above 60", Check.BAD, new int[] {61, Check.HUGE}, (x, k) -> x.tape(0, 3, k));
        eachOf("tape: below 0", Check.SIZE, new int[] {-1, Check.LEAST}, (x, k) -> x.tape(0, 3, k));
        refused("tape: none, sort", Check.NONE, x -> x.tape(6, 5, 1));
        refused("tape: none, n", Check.NONE, x -> x.tape(6, 0, 61));
        refused("tape: none, below 0", Check.NONE, x -> x.tape(6, 0, -1));
        refused("tape: sort, below 0", Check.BAD, x -> x.tape(0, 5, -1));
        refused("tape: sort, n", Check.BAD, x -> x.tape(0, -2, 61));
    }

    private static void items() {
        Check.says("item(): NONE; NOTHING; PLACE");
        eachOf("item: tape", Check.NONE, Check.outside(6), (x, k) -> x.item(k, 0, 1));
        refused("item: nothing there", Check.NOTHING, x -> x.item(5, 0, 1));
        refused("item: nothing there, no place", Check.NOTHING, x -> x.item(5, -1, 1));
        int[] sizes = {4, 3, 2, 5, 3};
        for (int tape = 0; tape < sizes.length; tape++) {
            int at = tape;
            eachOf("item: place on " + at, Check.PLACE, Check.outside(sizes[at]), (x, k) -> x.item(at, k, 1));
            eachOf("read: place on " + at, Check.NO, Check.outside(sizes[at]), (x, k) -> x.read(at, k));
        }
        Check.says("read(): NO: no such TAPE, nothing there, no such place");
        eachOf("read: tape", Check.NO, Check.outside(6), (x, k) -> x.read(k, 0));
        refused("read: nothing there", Check.NO, x -> x.read(5, 0));
    }

    private static void shifts() {
        Check.says("shift(): NONE: tapes; NOTHING; CAST: of unlike sorts; PLACE");
        eachOf("shift: tape", Check.NONE, Check.outside(6), (x, k) -> x.shift(k, 0, 0, 0, 1));
        eachOf("shift: other", Check.NONE, Check.outside(6), (x, k) -> x.shift(0, 0, k, 0, 1));
        refused("shift: nothing, to none", Check.NONE, x -> x.shift(5, 0, 6, 0, 1));
        refused("shift: none, to nothing", Check.NONE, x -> x.shift(6, 0, 5, 0, 1));
        refused("shift: nothing", Check.NOTHING, x -> x.shift(5, 0, 0, 0, 1));
        refused("shift: to nothing", Check.NOTHING, x -> x.shift(0, 0, 5, 0, 1));
        refused("shift: nothing to itself, no place", Check.NOTHING, x -> x.shift(5, 0, 5, 0, -1));
        for (int other = 1; other < 5; other++) {
            int to = other;
            refused("shift: unlike " + to, Check.CAST, x -> x.shift(0, 0, to, 0, 1));
            refused("shift: unlike, from " + to, Check.CAST, x -> x.shift(to, 0, 0, 0, 0));
        }
        refused("shift: unlike, no place", Check.CAST, x -> x.shift(0, -1, 1, 9, -1));
        int[][] places = {{0, 0, -1}, {-1, 0, 1}, {0, -1, 1}, {-1, 0, 0}, {0, -1, 0}, {0, 0, 5}, {1, 0, 4}, {0, 1, 4},
            {4, 0, 1}, {0, 4, 1}, {5, 0, 0}, {0, 5, 0}, {Check.HUGE, 0, 1}, {0, Check.HUGE, 1}, {0, 0, Check.HUGE},
            {Check.HUGE, 0, Check.HUGE}, {1, 1, Check.HUGE}, {Check.LEAST, 0, 1}, {0, Check.LEAST, 1},
            {0, 0, Check.LEAST}, {Check.LEAST, Check.LEAST, Check.LEAST}, {Check.HUGE, Check.HUGE, Check.HUGE}};
        for (int[] p : places) {
            refused("shift: place " + p[0] + " " + p[1] + " " + p[2], Check.PLACE, x -> x.shift(0, p[0], 0, p[1], p[2]));
        }
        Check.says("shift(): beyond either's end");
        Supplier<HandedVoices> rows = () -> {
            HandedVoices x = furnished();
            x.tape(5, 3, 2);
            return x;
        };
        refusedOf("shift beyond the other", Check.PLACE, x -> x.shift(0, 0, 5, 0, 3), rows);
        refusedOf("shift beyond the one", Check.PLACE, x -> x.shift(5, 0, 0, 0, 3), rows);
        refusedOf("shift, other from beyond", Check.PLACE, x -> x.shift(0, 0, 5, 3, 0), rows);
        refusedOf("shift, the one from beyond", Check.PLACE, x -> x.shift(5, 3, 0, 0, 0), rows);
    }

    private static void asking() {
        Check.says("what is asked changes nothing");
        refused("of", 3, x -> x.of(0, 0, 0));
        refused("barred", 1, x -> x.barred(3, 0, 0));
        refused("share", 10, x -> x.share(3, 3, 0));
        refused("lost", 3, x -> x.lost(2));
        refused("decided", 0, x -> x.decided(0));
        refused("best", 2, x -> x.best(0, -1));
        refused("breach", Check.ABSENT, x -> x.breach(0));
        refused("rather", 0, x -> x.rather(2));
        refused("taken", 3, x -> x.taken(0, 0, 2));
        refused("trace", 50, x -> x.trace(0));
        refused("count", 7, x -> x.count(3));
        refused("read", -9, x -> x.read(0, 3));
        Check.due("all of it", told(askedAll()).equals(told(furnished())) ? 1 : 0, 1);
    }

    private static HandedVoices askedAll() {
        HandedVoices x = furnished();
        for (int m = 0; m < 3; m++) {
            x.voices(0, m, 0);
            x.turning(m);
            x.power(1, m);
            x.few(m);
            x.right(m, 0, 0);
            x.right(m, 1, 1);
            x.surest(m);
            x.breach(m);
            x.rather(m);
            x.heap(m, 0);
            x.mend(m, 1, 8);
            x.mend(m, 8, 8);
            x.late(m);
            x.fewest(m);
            x.table(0, 0, m);
            x.best(m, -1);
            x.lost(m);
        }
        return x;
    }
}
