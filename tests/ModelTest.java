import java.util.ArrayList;
import java.util.List;

/**
 * Runs of calls drawn from fixed seeds, each answered by the class and by the
 * plain model. One argument more than the file's path sets the number of runs.
 */
public final class ModelTest {
    private static final int RUNS = 400, CALLS = 100;

    private long seed;
    private HandedVoices x;
    private PlainModel y;
    private List<String> calls;
    private int wrong;

    public static void main(String[] args) {
        ModelTest test = new ModelTest();
        int runs = args.length > 1 ? Integer.parseInt(args[1]) : RUNS;
        int first = args.length > 2 ? Integer.parseInt(args[2]) : 0;
        for (int run = first; run < first + runs && test.wrong < 5; run++) {
            test.run(run);
        }
        for (int k = 0; k < 60_000 && test.wrong < 5; k++) {
            test.text(k);
        }
        System.out.println(test.wrong == 0 ? "class and model agree" : "class and model differ");
        if (test.wrong != 0) {
            System.exit(1);
        }
    }

    private int draw(int n) {
        seed = seed * 6364136223846793005L + 1442695040888963407L;
        return (int) Math.floorMod(seed >>> 33, (long) n);
    }

    private boolean seldom(int n) {
        return draw(n) == 0;
    }

    /** A number below n, seldom one that is no such number. */
    private int number(int n) {
        if (!seldom(25)) {
            return draw(n);
        }
        int[] odd = {-1, n, n + 1, -2, Integer.MAX_VALUE, Integer.MIN_VALUE};
        return odd[draw(odd.length)];
    }

    private void run(int number) {
        seed = number * 7919L + 17;
        for (int k = 0; k < 10; k++) {
            draw(2);
        }
        x = new HandedVoices();
        y = new PlainModel();
        calls = new ArrayList<>();
        int matter = draw(3);
        int members = seldom(8) ? draw(9) : 2 + draw(7);
        for (int k = 0; k < members; k++) {
            call("member", 0, 0, 0, 0, 0);
        }
        int calm = draw(3);
        if (!seldom(3)) {
            feed(hallText(true));
            call("hall", 0, 0, 0, 0, 0);
        }
        for (int k = 0; k < members; k++) {
            change(k, matter, calm);
        }
        int before = wrong;
        for (int k = 0; k < CALLS && wrong == before; k++) {
            step(Math.max(1, members), seldom(15) ? number(3) : matter, calm);
        }
    }

    private void step(int members, int matter, int calm) {
        int kind = draw(100);
        if (kind < 25) {
            change(number(members), matter, calm);
        } else if (kind < 30) {
            feed(hallText(!seldom(4)));
            call("hall", 0, 0, 0, 0, 0);
        } else if (kind < 50) {
            tapes(matter);
        } else if (kind < 62) {
            acts(members, matter);
        } else {
            ask(members, matter);
        }
    }

    private void change(int member, int matter, int calm) {
        int n = Math.max(1, y.count(0));
        switch (draw(calm == 0 ? 9 : 12)) {
            case 0 -> call("hand", member, matter, number(6), 0, 0);
            case 1 -> call("hand", member, matter, seldom(2) ? 5 : 1, 0, 0);
            case 2, 9 -> call("give", member, matter, number(n), 0, 0);
            case 3, 4, 10 -> call("names", member, matter, number(n), number(n), 0);
            case 5, 11 -> call("names", member, matter, number(n), number(n), number(10));
            case 6, 7 -> call("think", member, matter, draw(2), number(11), 0);
            default -> {
                if (seldom(3)) {
                    call("pass", number(21), 0, 0, 0, 0);
                } else if (seldom(12)) {
                    call("member", 0, 0, 0, 0, 0);
                } else {
                    call("back", member, matter, number(101), 0, 0);
                }
            }
        }
    }

    private void ask(int members, int matter) {
        int n = Math.max(1, Math.min(8, members));
        switch (draw(24)) {
            case 0, 1 -> call("voices", number(n), matter, number(2), 0, 0);
            case 2 -> call("lost", matter, 0, 0, 0, 0);
            case 3 -> call("decided", matter, 0, 0, 0, 0);
            case 4 -> call("turning", matter, 0, 0, 0, 0);
            case 5 -> call("power", number(n), matter, 0, 0, 0);
            case 6 -> call("few", matter, 0, 0, 0, 0);
            case 7 -> call("best", matter, -1, 0, 0, 0);
            case 8 -> call("best", matter, number(n), 0, 0, 0);
            case 9 -> call("right", matter, number(2), number(2), 0, 0);
            case 10 -> call("surest", matter, 0, 0, 0, 0);
            case 11, 12 -> call("breach", matter, 0, 0, 0, 0);
            case 13 -> {
                if (seldom(2)) {
                    call("rather", matter, 0, 0, 0, 0);
                }
            }
            case 14 -> {
                if (seldom(6)) {
                    call("settle", matter, 0, 0, 0, 0);
                }
            }
            case 15 -> call("heap", matter, number(2), 0, 0, 0);
            case 16 -> {
                if (seldom(2)) {
                    call("mend", matter, number(9), number(9), 0, 0);
                }
            }
            case 17 -> call("late", matter, 0, 0, 0, 0);
            case 18 -> call("fewest", matter, 0, 0, 0, 0);
            case 19, 20 -> call("share", number(n), number(n), matter, 0, 0);
            case 21 -> call("barred", number(n), number(n), matter, 0, 0);
            case 22 -> call("of", number(n), matter, number(7), 0, 0);
            default -> call("count", number(5), 0, 0, 0, 0);
        }
    }

    private void acts(int members, int matter) {
        int x = seldom(4) ? (int) seed : draw(20) - 10;
        switch (draw(4)) {
            case 0, 1 -> call("act", number(members), matter, number(3), x, 0);
            case 2 -> call("trace", number(11), 0, 0, 0, 0);
            default -> call("taken", number(members), matter, number(6), 0, 0);
        }
    }

    private void tapes(int matter) {
        switch (draw(7)) {
            case 0 -> call("tape", number(6), number(6) - 1, number(61), 0, 0);
            case 1 -> call("item", number(6), number(20), draw(3), 0, 0);
            case 2 -> call("read", number(6), number(20), 0, 0, 0);
            case 3 -> call("shift", number(6), number(10), number(6), number(10), number(10));
            case 4 -> tableOf(matter);
            case 5 -> call("item", number(6), number(20), (int) seed, 1, 0);
            default -> call("table", number(6), number(20) - 4, matter, 0, 0);
        }
    }

    /** Lays down the voices as they are, some of them wrong, and has the table told. */
    private void tableOf(int matter) {
        int tape = draw(6);
        int from = draw(5);
        call("tape", tape, 3, from + draw(17), 0, 0);
        for (int k = 0; k < y.count(0) && matter >= 0 && matter < 3; k++) {
            for (int part = 0; part < 2; part++) {
                int v = (int) y.voices(k, matter, part);
                call("item", tape, from + 2 * k + part, seldom(20) ? draw(4) : v, 2, 0);
            }
        }
        call("table", tape, from, matter, 0, 0);
    }

    private void feed(String text) {
        for (int k = 0; k < text.length(); ) {
            int n = Math.min(text.length() - k, draw(5));
            int bytes = n == 4 ? 0 : draw(1 << 8 - n) << 8 * n;
            for (int b = 0; b < n; b++) {
                bytes |= (text.charAt(k + b) & 255) << 8 * (n - 1 - b);
            }
            call("feed", bytes, n, 0, 0, 0);
            k += n;
        }
    }

    /** A text of a hall, or one nearly like it, told to the two readers alone. */
    private void text(int number) {
        seed = number * 104729L + 5;
        for (int k = 0; k < 5; k++) {
            draw(2);
        }
        String text = hallText(seldom(3));
        x = new HandedVoices();
        y = new PlainModel();
        calls = new ArrayList<>();
        feed(text);
        int before = wrong;
        call("hall", 0, 0, 0, 0, 0);
        if (wrong != before) {
            System.out.println("   text: " + text);
        }
    }

    private String hallText(boolean right) {
        StringBuilder s = new StringBuilder();
        int n = 1 + (seldom(3) ? draw(7) : draw(3));
        for (int k = 0; k < n; k++) {
            s.append(k == 0 ? "" : ";");
            switch (draw(5)) {
                case 0, 1 -> s.append("bar ").append(either(0, right));
                case 2 -> s.append("cap ").append(seldom(3) ? figures() : "" + draw(4));
                case 3 -> s.append("need ").append(seldom(3) ? figures() : "" + draw(3)).append(' ')
                    .append(seldom(3) ? figures() : "" + (1 + draw(4)));
                default -> s.append("ring ").append(seldom(3) ? 'l' : 'b');
            }
        }
        for (int k = right ? 0 : 1 + draw(2); k > 0 && s.length() > 0; k--) {
            int at = draw(s.length());
            char c = "abmsq<=>0123456789()!&|; capneedringlb\u0000\u00ff".charAt(draw(40));
            switch (draw(4)) {
                case 0 -> s.setCharAt(at, c);
                case 1 -> s.insert(at, c);
                case 2 -> s.deleteCharAt(at);
                default -> s.setLength(at);
            }
        }
        s.setLength(Math.min(s.length(), 100));
        return s.toString();
    }

    private String figures() {
        StringBuilder s = new StringBuilder();
        for (int k = seldom(12) ? 4 : 1 + draw(3); k > 0; k--) {
            s.append((char) ('0' + (seldom(2) ? 0 : draw(10))));
        }
        return s.toString();
    }

    private String either(int depth, boolean right) {
        StringBuilder s = new StringBuilder(both(depth, right));
        while (seldom(4)) {
            s.append('|').append(both(depth, right));
        }
        return s.toString();
    }

    private String both(int depth, boolean right) {
        StringBuilder s = new StringBuilder(single(depth, right));
        while (seldom(4)) {
            s.append('&').append(single(depth, right));
        }
        return s.toString();
    }

    private String single(int depth, boolean right) {
        if (seldom(3) && depth < (right ? 4 : 6)) {
            return seldom(2) ? "!" + single(depth + 1, right) : "(" + either(depth + 1, right) + ")";
        }
        char letter = "abmsq".charAt(draw(5));
        return "" + letter + "<=>".charAt(draw(3)) + (seldom(9) ? figures() : "" + draw(letter > 'm' ? 11 : 8));
    }

    private void call(String name, int a, int b, int c, int d, int e) {
        long got = answer(name, a, b, c, d, e, true);
        long want = answer(name, a, b, c, d, e, false);
        calls.add(name + "(" + a + ", " + b + ", " + c + ", " + d + ", " + e + ") = " + want);
        if (got != want) {
            wrong++;
            calls.forEach(System.out::println);
            System.out.println("   the class answered " + got);
        }
    }

    private static long value(int c, int d) {
        return d == 0 ? c : d == 1 ? c * 1_000_003L : c;
    }

    private long answer(String name, int a, int b, int c, int d, int e, boolean real) {
        switch (name) {
            case "member": return real ? x.member() : y.member();
            case "think": return real ? x.think(a, b, c == 1, d) : y.think(a, b, c == 1, d);
            case "hand": return real ? x.hand(a, b, c) : y.hand(a, b, c);
            case "give": return real ? x.give(a, b, c) : y.give(a, b, c);
            case "names": return real ? x.names(a, b, c, d, e) : y.names(a, b, c, d, e);
            case "back": return real ? x.back(a, b, c) : y.back(a, b, c);
            case "pass": return real ? x.pass(a) : y.pass(a);
            case "of": return real ? x.of(a, b, c) : y.of(a, b, c);
            case "feed": return real ? x.feed(a, b) : y.feed(a, b);
            case "hall": return real ? x.hall() : y.hall();
            case "barred": return real ? x.barred(a, b, c) : y.barred(a, b, c);
            case "share": return real ? x.share(a, b, c) : y.share(a, b, c);
            case "voices": return real ? x.voices(a, b, c) : y.voices(a, b, c);
            case "lost": return real ? x.lost(a) : y.lost(a);
            case "decided": return real ? x.decided(a) : y.decided(a);
            case "turning": return real ? x.turning(a) : y.turning(a);
            case "power": return real ? x.power(a, b) : y.power(a, b);
            case "few": return real ? x.few(a) : y.few(a);
            case "best": return real ? x.best(a, b) : y.best(a, b);
            case "right": return real ? x.right(a, b, c) : y.right(a, b, c);
            case "surest": return real ? x.surest(a) : y.surest(a);
            case "breach": return real ? x.breach(a) : y.breach(a);
            case "rather": return real ? x.rather(a) : y.rather(a);
            case "settle": return real ? x.settle(a) : y.settle(a);
            case "heap": return real ? x.heap(a, b) : y.heap(a, b);
            case "mend": return real ? x.mend(a, b, c) : y.mend(a, b, c);
            case "late": return real ? x.late(a) : y.late(a);
            case "fewest": return real ? x.fewest(a) : y.fewest(a);
            case "table": return real ? x.table(a, b, c) : y.table(a, b, c);
            case "act": return real ? x.act(a, b, c, d) : y.act(a, b, c, d);
            case "trace": return real ? x.trace(a) : y.trace(a);
            case "taken": return real ? x.taken(a, b, c) : y.taken(a, b, c);
            case "count": return real ? x.count(a) : y.count(a);
            case "tape": return real ? x.tape(a, b, c) : y.tape(a, b, c);
            case "item": return real ? x.item(a, b, value(c, d)) : y.item(a, b, value(c, d));
            case "read": return real ? x.read(a, b) : y.read(a, b);
            case "shift": return real ? x.shift(a, b, c, d, e) : y.shift(a, b, c, d, e);
            default: throw new IllegalArgumentException(name);
        }
    }
}
