import java.math.BigInteger;
import java.util.ArrayList;
import java.util.Arrays;
import java.util.List;

/**
 * The document once more, as plainly as may be and without a thought for time
 * or room: fractions without bounds, hands copied for every "if", halls read a
 * byte at a time. ModelTest holds the class against it.
 */
public final class PlainModel {
    static final int NONE = -1, BAD = -2, FULL = -4, ABSENT = -5;
    static final int NOTHING = -11, CAST = -12, PLACE = -13, SIZE = -14;
    static final long NO = Long.MIN_VALUE;

    static final class Ratio implements Comparable<Ratio> {
        static final Ratio ZERO = new Ratio(BigInteger.ZERO, BigInteger.ONE);
        final BigInteger above;
        final BigInteger below;

        Ratio(BigInteger above, BigInteger below) {
            BigInteger g = above.gcd(below);
            if (below.signum() < 0) {
                g = g.negate();
            }
            this.above = above.divide(g);
            this.below = below.divide(g);
        }

        static Ratio of(long a, long b) {
            return new Ratio(BigInteger.valueOf(a), BigInteger.valueOf(b));
        }

        Ratio plus(Ratio o) {
            return new Ratio(above.multiply(o.below).add(o.above.multiply(below)), below.multiply(o.below));
        }

        Ratio minus(Ratio o) {
            return plus(new Ratio(o.above.negate(), o.below));
        }

        Ratio times(Ratio o) {
            return new Ratio(above.multiply(o.above), below.multiply(o.below));
        }

        Ratio over(Ratio o) {
            return new Ratio(above.multiply(o.below), below.multiply(o.above));
        }

        @Override
        public int compareTo(Ratio o) {
            return above.multiply(o.below).compareTo(o.above.multiply(below));
        }

        long part(int part) {
            return (part == 0 ? above : below).longValueExact();
        }
    }

    record Hand(int kind, int until, int first, int second, int x) {
        static Hand self() {
            return new Hand(1, 100, ABSENT, ABSENT, 0);
        }

        static Hand to(int name) {
            return new Hand(2, 100, name, ABSENT, 0);
        }
    }

    private final Hand[][] hands = new Hand[3][8];
    private final boolean[][] yes = new boolean[3][8];
    private final int[][] sure = new int[3][8];
    private int members;
    private int now;
    private String text = "";
    private int halls;
    private List<String> bars = new ArrayList<>();
    private int cap = 999;
    private int needN = 1;
    private int needD = 2;
    private char ring = 'l';
    private final List<Integer> trace = new ArrayList<>();
    private final int[] sorts = {-1, -1, -1, -1, -1, -1};
    private final long[][] tapes = new long[6][0];

    public PlainModel() {
        for (int m = 0; m < 3; m++) {
            Arrays.fill(sure[m], 5);
            Arrays.fill(hands[m], Hand.self());
        }
    }

    private boolean wrong(int member, int matter) {
        return member < 0 || member >= members || matter < 0 || matter > 2;
    }

    private boolean wrong(int matter) {
        return matter < 0 || matter > 2;
    }

    public int member() {
        return members == 8 ? FULL : members++;
    }

    public int think(int member, int matter, boolean so, int howSure) {
        if (wrong(member, matter)) {
            return NONE;
        }
        if (howSure < 0 || howSure > 10) {
            return BAD;
        }
        int before = (yes[matter][member] ? 100 : 0) + sure[matter][member];
        yes[matter][member] = so;
        sure[matter][member] = howSure;
        return before;
    }

    private int set(int member, int matter, Hand hand) {
        int before = hands[matter][member].kind;
        hands[matter][member] = hand;
        return before;
    }

    public int hand(int member, int matter, int kind) {
        if (wrong(member, matter)) {
            return NONE;
        }
        if (kind < 0 || kind > 5 || kind >= 2 && kind <= 4) {
            return BAD;
        }
        return set(member, matter, new Hand(kind, 100, ABSENT, ABSENT, 0));
    }

    public int give(int member, int matter, int name) {
        if (wrong(member, matter) || wrong(name, matter)) {
            return NONE;
        }
        return name == member ? BAD : set(member, matter, Hand.to(name));
    }

    public int names(int member, int matter, int first, int second, int x) {
        if (wrong(member, matter) || wrong(first, matter) || wrong(second, matter)) {
            return NONE;
        }
        if (first == member || second == member || first == second || x < 0 || x > 9) {
            return BAD;
        }
        return set(member, matter, new Hand(x == 0 ? 3 : 4, 100, first, second, x));
    }

    public int back(int member, int matter, int minute) {
        if (wrong(member, matter)) {
            return NONE;
        }
        if (minute < 0 || minute > 100) {
            return BAD;
        }
        Hand h = hands[matter][member];
        hands[matter][member] = new Hand(h.kind, minute, h.first, h.second, h.x);
        return h.until;
    }

    public int pass(int n) {
        if (n < 1 || n > 20 || now + n > 99) {
            return BAD;
        }
        return now += n;
    }

    public int of(int member, int matter, int what) {
        if (wrong(member, matter)) {
            return NONE;
        }
        Hand h = hands[matter][member];
        int[] answers = {h.kind, h.until, h.first, h.second,
            h.kind == 4 ? h.x : h.kind == 2 || h.kind == 3 ? 10 : 0,
            yes[matter][member] ? 1 : 0, sure[matter][member]};
        return what < 0 || what > 6 ? NONE : answers[what];
    }

    public int feed(int bytes, int n) {
        if (n < 0 || n > 4) {
            return BAD;
        }
        if (text.length() + n > 100) {
            return FULL;
        }
        String come = "";
        for (int k = 0; k < n; k++) {
            come = (char) (bytes >> 8 * k & 255) + come;
        }
        text += come;
        return text.length();
    }

    // ---- the hall, a byte at a time

    private static final String[] WORDS = {"bar ", "cap ", "need ", "ring "};

    /** What may come next, byte by byte: the place of the first that may not, or -1 for a whole hall. */
    static int fault(String text) {
        int clauses = 1;
        String clause = "";
        for (int k = 0; k < text.length(); k++) {
            char c = text.charAt(k);
            if (c == ';' && clauses < 6 && whole(clause)) {
                clauses++;
                clause = "";
                continue;
            }
            clause += c;
            if (c == ';' || !begins(clause)) {
                return k;
            }
        }
        return whole(clause) ? -1 : text.length();
    }

    private static boolean begins(String clause) {
        for (String word : WORDS) {
            if (word.startsWith(clause)) {
                return true;
            }
        }
        if (clause.startsWith("bar ")) {
            return state(clause.substring(4)) != null;
        }
        if (clause.startsWith("cap ")) {
            return clause.substring(4).matches("[0-9]{0,3}");
        }
        if (clause.startsWith("ring ")) {
            return clause.substring(5).matches("[lb]?");
        }
        return clause.startsWith("need ")
            && clause.substring(5).matches("[0-9]{0,3}|[0-9]{1,3} ([0-9]{0,2}|[0-9]{3})")
            && !clause.matches("need [0-9]{1,3} 000");
    }

    private static boolean whole(String clause) {
        if (clause.startsWith("bar ")) {
            String s = state(clause.substring(4));
            return s != null && (s.equals("N") || s.equals("A"));
        }
        return clause.matches("cap [0-9]{1,3}|need [0-9]{1,3} [0-9]{1,3}|ring [lb]")
            && !clause.matches("need [0-9]+ 0+");
    }

    /** Open ( and ! and where in the test it stands: F a start, L a letter, S a sign, N figures, A behind a ). */
    private static String state(String e) {
        String open = "";
        char at = 'F';
        int figures = 0;
        for (int k = 0; k < e.length(); k++) {
            char c = e.charAt(k);
            boolean ended = at == 'A' || at == 'N';
            if (at == 'F' && (c == '(' || c == '!') && open.length() < 4) {
                open += c;
            } else if (at == 'F' && "abmsq".indexOf(c) >= 0) {
                at = 'L';
            } else if (at == 'L' && "<=>".indexOf(c) >= 0) {
                at = 'S';
            } else if ((at == 'S' || at == 'N' && figures < 3) && c >= '0' && c <= '9') {
                figures = at == 'S' ? 1 : figures + 1;
                at = 'N';
            } else if (ended && (c == '&' || c == '|' || c == ')')) {
                while (open.endsWith("!")) {
                    open = open.substring(0, open.length() - 1);
                }
                if (c == ')') {
                    if (open.isEmpty()) {
                        return null;
                    }
                    open = open.substring(0, open.length() - 1);
                    at = 'A';
                } else {
                    at = 'F';
                }
            } else {
                return null;
            }
        }
        return open.indexOf('(') >= 0 ? "(" : "" + at;
    }

    public int hall() {
        int fault = fault(text);
        String read = text;
        text = "";
        if (fault >= 0) {
            return -10 - fault;
        }
        bars = new ArrayList<>();
        cap = 999;
        needN = 1;
        needD = 2;
        ring = 'l';
        for (String clause : read.split(";")) {
            String[] parts = clause.split(" ");
            switch (parts[0]) {
                case "bar" -> bars.add(parts[1]);
                case "cap" -> cap = Integer.parseInt(parts[1]);
                case "need" -> {
                    needN = Integer.parseInt(parts[1]);
                    needD = Integer.parseInt(parts[2]);
                }
                default -> ring = parts[1].charAt(0);
            }
        }
        return ++halls;
    }

    /** Splits at a sign outside of all brackets. */
    private static List<String> split(String e, char sign) {
        List<String> parts = new ArrayList<>();
        int depth = 0;
        int from = 0;
        for (int k = 0; k < e.length(); k++) {
            char c = e.charAt(k);
            depth += c == '(' ? 1 : c == ')' ? -1 : 0;
            if (c == sign && depth == 0) {
                parts.add(e.substring(from, k));
                from = k + 1;
            }
        }
        parts.add(e.substring(from));
        return parts;
    }

    private boolean holds(String e, int a, int b, int m) {
        List<String> parts = split(e, '|');
        if (parts.size() > 1) {
            return parts.stream().anyMatch(p -> holds(p, a, b, m));
        }
        parts = split(e, '&');
        if (parts.size() > 1) {
            return parts.stream().allMatch(p -> holds(p, a, b, m));
        }
        if (e.startsWith("!")) {
            return !holds(e.substring(1), a, b, m);
        }
        if (e.startsWith("(")) {
            return holds(e.substring(1, e.length() - 1), a, b, m);
        }
        int left = switch (e.charAt(0)) {
            case 'a' -> a;
            case 'b' -> b;
            case 'm' -> m;
            case 's' -> sure[m][b];
            default -> sure[m][a];
        };
        int number = Integer.parseInt(e.substring(2));
        return e.charAt(1) == '<' ? left < number : e.charAt(1) == '=' ? left == number : left > number;
    }

    private boolean bar(int a, int b, int m) {
        return bars.stream().anyMatch(e -> holds(e, a, b, m));
    }

    public int barred(int from, int to, int matter) {
        if (wrong(from, matter) || wrong(to, matter)) {
            return NONE;
        }
        return from == to ? BAD : bar(from, to, matter) ? 1 : 0;
    }

    // ---- where voices go

    private static Hand effective(Hand h, int minute) {
        return h.kind <= 1 || minute >= h.until ? Hand.self() : h;
    }

    /** Tenths from each to each; way: the members whose order goes to the second name, null for ring l. */
    private int[][] shares(Hand[] hs, int m, int minute, Integer way) {
        int[][] t = new int[members][members];
        for (int i = 0; i < members; i++) {
            Hand h = effective(hs[i], minute);
            switch (h.kind) {
                case 1 -> t[i][i] = 10;
                case 2 -> t[i][bar(i, h.first, m) ? i : h.first] = 10;
                case 3 -> {
                    int to = !bar(i, h.first, m) ? h.first : !bar(i, h.second, m) ? h.second : i;
                    if (way != null) {
                        to = (way >> i & 1) == 1 ? h.second : h.first;
                    }
                    t[i][to] = 10;
                }
                case 4 -> {
                    t[i][bar(i, h.first, m) ? i : h.first] += h.x;
                    t[i][bar(i, h.second, m) ? i : h.second] += 10 - h.x;
                }
                default -> {
                    int to = i;
                    for (int j = 0; j < members; j++) {
                        if (j != i && !bar(i, j, m) && (to == i || sure[m][j] > sure[m][to])) {
                            to = j;
                        }
                    }
                    t[i][to] = 10;
                }
            }
        }
        return t;
    }

    private int lostOf(int[][] t) {
        boolean[][] leads = new boolean[members][members];
        for (int i = 0; i < members; i++) {
            for (int j = 0; j < members; j++) {
                leads[i][j] = i == j || t[i][j] > 0;
            }
        }
        for (int k = 0; k < members; k++) {
            for (int i = 0; i < members; i++) {
                for (int j = 0; j < members; j++) {
                    leads[i][j] |= leads[i][k] && leads[k][j];
                }
            }
        }
        int bits = 0;
        for (int i = 0; i < members; i++) {
            boolean out = false;
            for (int j = 0; j < members; j++) {
                out |= leads[i][j] && t[j][j] > 0;
            }
            bits |= out ? 0 : 1 << i;
        }
        return bits;
    }

    private int ordersOf(Hand[] hs, int minute) {
        int bits = 0;
        for (int i = 0; i < members; i++) {
            bits |= effective(hs[i], minute).kind == 3 ? 1 << i : 0;
        }
        return bits;
    }

    private List<Integer> waysOf(Hand[] hs, int m, int minute) {
        List<Integer> ways = new ArrayList<>();
        int orders = ordersOf(hs, minute);
        for (int way = 0; way < 1 << members; way++) {
            boolean fits = (way & ~orders) == 0;
            for (int i = 0; i < members && fits; i++) {
                if ((orders >> i & 1) == 1) {
                    fits = !bar(i, (way >> i & 1) == 1 ? hs[i].second : hs[i].first, m);
                }
            }
            if (fits && lostOf(shares(hs, m, minute, way)) == 0) {
                ways.add(way);
            }
        }
        return ways;
    }

    private static Integer bestOf(List<Integer> ways) {
        Integer best = null;
        for (int way : ways) {
            if (best == null || Integer.bitCount(way) < Integer.bitCount(best)) {
                best = way;
            }
        }
        return best;
    }

    private int[][] spread(Hand[] hs, int m, int minute) {
        boolean asked = ring == 'b' && ordersOf(hs, minute) != 0;
        return shares(hs, m, minute, asked ? bestOf(waysOf(hs, m, minute)) : null);
    }

    public int share(int from, int to, int matter) {
        if (wrong(from, matter) || wrong(to, matter)) {
            return NONE;
        }
        return spread(hands[matter], matter, now)[from][to];
    }

    // ---- voices

    private Ratio[] voicesOf(int[][] t) {
        int lost = lostOf(t);
        Ratio[][] rows = new Ratio[members][members + 1];
        for (int r = 0; r < members; r++) {
            for (int c = 0; c < members; c++) {
                boolean flows = r != c && (lost >> r & 1) == 0 && (lost >> c & 1) == 0;
                rows[r][c] = r == c ? Ratio.of(1, 1) : flows ? Ratio.of(-t[c][r], 10) : Ratio.ZERO;
            }
            rows[r][members] = Ratio.of(1, 1);
        }
        for (int p = 0; p < members; p++) {
            int q = p;
            while (rows[q][p].above.signum() == 0) {
                q++;
            }
            Ratio[] swap = rows[p];
            rows[p] = rows[q];
            rows[q] = swap;
            for (int r = 0; r < members; r++) {
                if (r != p) {
                    Ratio times = rows[r][p].over(rows[p][p]);
                    for (int c = 0; c <= members; c++) {
                        rows[r][c] = rows[r][c].minus(times.times(rows[p][c]));
                    }
                }
            }
        }
        Ratio[] voices = new Ratio[members];
        for (int i = 0; i < members; i++) {
            Ratio v = rows[i][members].over(rows[i][i]).times(Ratio.of(t[i][i], 10));
            Ratio most = Ratio.of(cap, 1);
            voices[i] = (lost >> i & 1) == 1 ? Ratio.ZERO : v.compareTo(most) > 0 ? most : v;
        }
        return voices;
    }

    private Ratio[] voicesOf(Hand[] hs, int m, int minute) {
        return voicesOf(spread(hs, m, minute));
    }

    private Ratio[] voicesNow(int m) {
        return voicesOf(hands[m], m, now);
    }

    private boolean decides(Ratio[] voices, int yesBits) {
        Ratio all = Ratio.ZERO;
        Ratio some = Ratio.ZERO;
        for (int i = 0; i < voices.length; i++) {
            all = all.plus(voices[i]);
            some = (yesBits >> i & 1) == 1 ? some.plus(voices[i]) : some;
        }
        return some.times(Ratio.of(needD, 1)).compareTo(all.times(Ratio.of(needN, 1))) > 0;
    }

    private int yesOf(int m) {
        int bits = 0;
        for (int i = 0; i < members; i++) {
            bits |= yes[m][i] ? 1 << i : 0;
        }
        return bits;
    }

    public long voices(int member, int matter, int part) {
        return wrong(member, matter) || part < 0 || part > 1 ? NO : voicesNow(matter)[member].part(part);
    }

    public int lost(int matter) {
        return wrong(matter) ? NONE : lostOf(spread(hands[matter], matter, now));
    }

    public int decided(int matter) {
        return wrong(matter) ? NONE : decides(voicesNow(matter), yesOf(matter)) ? 1 : 0;
    }

    public int turning(int matter) {
        if (wrong(matter)) {
            return NONE;
        }
        Ratio[] v = voicesNow(matter);
        int bits = 0;
        for (int i = 0; i < members; i++) {
            bits |= decides(v, yesOf(matter)) != decides(v, yesOf(matter) ^ 1 << i) ? 1 << i : 0;
        }
        return bits;
    }

    public int power(int member, int matter) {
        if (wrong(member, matter)) {
            return NONE;
        }
        Ratio[] v = voicesNow(matter);
        int turned = 0;
        for (int set = 0; set < 1 << members; set++) {
            boolean way = (set >> member & 1) == 0;
            for (int i = 0; i < members; i++) {
                way &= (set >> i & 1) == 0 || v[i].above.signum() > 0;
            }
            turned += way && decides(v, set) != decides(v, set | 1 << member) ? 1 : 0;
        }
        return turned;
    }

    /** All sets of some members, those of the fewest first, and of several the least. */
    private static List<Integer> sets(int members) {
        List<Integer> sets = new ArrayList<>();
        for (int n = 0; n <= members; n++) {
            for (int set = 0; set < 1 << members; set++) {
                if (Integer.bitCount(set) == n) {
                    sets.add(set);
                }
            }
        }
        return sets;
    }

    public int few(int matter) {
        if (wrong(matter)) {
            return NONE;
        }
        Ratio[] v = voicesNow(matter);
        return sets(members).stream().filter(s -> decides(v, s)).findFirst().orElse(ABSENT);
    }

    // ---- ways, being right

    public int best(int matter, int i) {
        if (wrong(matter)) {
            return NONE;
        }
        List<Integer> ways = waysOf(hands[matter], matter, now);
        if (i == -1) {
            return ways.size();
        }
        if (wrong(i, matter) || (ordersOf(hands[matter], now) >> i & 1) == 0) {
            return NONE;
        }
        Integer best = bestOf(ways);
        return best == null ? ABSENT : best >> i & 1;
    }

    private Ratio rightOf(Hand[] hs, int m) {
        return rightOf(voicesOf(hs, m, now), m);
    }

    private Ratio rightOf(Ratio[] v, int m) {
        Ratio right = Ratio.ZERO;
        for (int set = 0; set < 1 << members; set++) {
            Ratio chance = Ratio.of(1, 1);
            for (int i = 0; i < members; i++) {
                boolean so = (set >> i & 1) == 1;
                if (v[i].above.signum() > 0) {
                    chance = chance.times(Ratio.of(so ? sure[m][i] : 10 - sure[m][i], 10));
                } else if (so) {
                    chance = Ratio.ZERO;
                }
            }
            if (chance.above.signum() > 0 && decides(v, set)) {
                right = right.plus(chance);
            }
        }
        return right;
    }

    private Hand[] with(Hand[] hs, int i, Hand h) {
        Hand[] copy = hs.clone();
        copy[i] = h;
        return copy;
    }

    private Hand[] selves(Hand[] hs, int set) {
        Hand[] copy = hs.clone();
        for (int i = 0; i < members; i++) {
            copy[i] = (set >> i & 1) == 1 ? Hand.self() : copy[i];
        }
        return copy;
    }

    public long right(int matter, int what, int part) {
        if (wrong(matter) || what < 0 || what > 1 || part < 0 || part > 1) {
            return NO;
        }
        return rightOf(what == 0 ? hands[matter] : selves(hands[matter], 255), matter).part(part);
    }

    public int surest(int matter) {
        if (wrong(matter)) {
            return NONE;
        }
        for (int s = 10; s >= 0; s--) {
            for (int i = 0; i < members; i++) {
                if (sure[matter][i] == s) {
                    return i;
                }
            }
        }
        return ABSENT;
    }

    public int breach(int matter) {
        if (wrong(matter)) {
            return NONE;
        }
        int[][] t = spread(hands[matter], matter, now);
        Ratio[] v = voicesOf(t);
        for (int a = 0; a < members; a++) {
            for (int b = 0; b < members; b++) {
                if (a != b && t[a][a] == 10 && t[b][b] == 10 && !bar(a, b, matter)
                    && voicesOf(with(hands[matter], a, Hand.to(b)), matter, now)[b].compareTo(v[b]) < 0) {
                    return 10 * a + b;
                }
            }
        }
        return ABSENT;
    }

    public int rather(int matter) {
        if (wrong(matter)) {
            return NONE;
        }
        Ratio right = rightOf(hands[matter], matter);
        for (int i = 0; i < members; i++) {
            for (int k = 0; k <= members; k++) {
                if (k > 0 && (k - 1 == i || bar(i, k - 1, matter))) {
                    continue;
                }
                Hand h = k == 0 ? Hand.self() : Hand.to(k - 1);
                if (rightOf(with(hands[matter], i, h), matter).compareTo(right) > 0) {
                    return 10 * i + k;
                }
            }
        }
        return ABSENT;
    }

    public int settle(int matter) {
        if (wrong(matter)) {
            return NONE;
        }
        int times = 0;
        for (int wish = rather(matter); wish >= 0 && times < 12; wish = rather(matter)) {
            hands[matter][wish / 10] = wish % 10 == 0 ? Hand.self() : Hand.to(wish % 10 - 1);
            times++;
        }
        return times;
    }

    // ---- heaps, turning

    private static Ratio heapOf(Ratio[] v) {
        return Arrays.stream(v).reduce(Ratio.ZERO, (a, b) -> a.compareTo(b) >= 0 ? a : b);
    }

    public long heap(int matter, int part) {
        return wrong(matter) || part < 0 || part > 1 ? NO : heapOf(voicesNow(matter)).part(part);
    }

    public int mend(int matter, int h, int n) {
        if (wrong(matter)) {
            return NONE;
        }
        if (h < 0 || h > 8 || n < 0 || n > 8) {
            return BAD;
        }
        int found = ABSENT;
        Ratio greatest = null;
        for (int set : sets(members)) {
            Ratio[] v = voicesOf(selves(hands[matter], set), matter, now);
            if (Integer.bitCount(set) > n || heapOf(v).compareTo(Ratio.of(h, 1)) > 0) {
                continue;
            }
            Ratio right = rightOf(v, matter);
            if (greatest == null || right.compareTo(greatest) > 0) {
                found = set;
                greatest = right;
            }
        }
        return found;
    }

    public int late(int matter) {
        if (wrong(matter)) {
            return NONE;
        }
        boolean so = decides(voicesNow(matter), yesOf(matter));
        for (int t = 99; t >= now; t--) {
            if (decides(voicesOf(hands[matter], matter, t), yesOf(matter)) != so) {
                return t;
            }
        }
        return ABSENT;
    }

    public int fewest(int matter) {
        if (wrong(matter)) {
            return NONE;
        }
        for (int set : sets(members)) {
            if ((set & yesOf(matter)) == 0
                && decides(voicesOf(selves(hands[matter], set), matter, now), yesOf(matter) | set)) {
                return set;
            }
        }
        return ABSENT;
    }

    // ---- tables, acts, tapes

    public int table(int tape, int i, int matter) {
        if (tape < 0 || tape > 5 || wrong(matter)) {
            return NONE;
        }
        if (sorts[tape] != -1 && sorts[tape] != 3) {
            return CAST;
        }
        Ratio[] v = voicesNow(matter);
        for (int k = 0; k < members; k++) {
            long at = i + 2L * k;
            if (at < 0 || at + 1 >= tapes[tape].length) {
                return 100 + k;
            }
            if (tapes[tape][(int) at] != v[k].part(0) || tapes[tape][(int) at + 1] != v[k].part(1)) {
                return k;
            }
        }
        return members;
    }

    private static class HandBody {
        final int i;
        final int m;
        final List<Integer> ran;

        HandBody(int i, int m, List<Integer> ran) {
            this.i = i;
            this.m = m;
            this.ran = ran;
        }

        int gives(int x) {
            ran.add(10);
            return x + i;
        }

        int holds(int x) {
            ran.add(11);
            return gives(x) - m;
        }

        int tells(int x) {
            ran.add(12);
            return holds(x) * 2;
        }
    }

    private static final class SelfBody extends HandBody {
        SelfBody(int i, int m, List<Integer> ran) {
            super(i, m, ran);
        }

        @Override
        int tells(int x) {
            ran.add(20);
            return super.tells(x) ^ 7;
        }
    }

    private static class GiveBody extends HandBody {
        GiveBody(int i, int m, List<Integer> ran) {
            super(i, m, ran);
        }

        @Override
        int gives(int x) {
            ran.add(30);
            return super.gives(x * 2);
        }

        @Override
        int holds(int x) {
            ran.add(31);
            return -super.holds(x);
        }
    }

    private static final class OrderBody extends GiveBody {
        OrderBody(int i, int m, List<Integer> ran) {
            super(i, m, ran);
        }

        @Override
        int holds(int x) {
            ran.add(40);
            return super.holds(x) + gives(1);
        }
    }

    private static final class PartsBody extends GiveBody {
        PartsBody(int i, int m, List<Integer> ran) {
            super(i, m, ran);
        }

        @Override
        int tells(int x) {
            ran.add(50);
            return super.tells(x - i);
        }

        @Override
        int gives(int x) {
            ran.add(51);
            return super.gives(x) ^ m;
        }
    }

    private static final class BlindBody extends GiveBody {
        BlindBody(int i, int m, List<Integer> ran) {
            super(i, m, ran);
        }

        @Override
        int tells(int x) {
            ran.add(60);
            return holds(x) - super.tells(x);
        }
    }

    private HandBody body(int i, int m) {
        return switch (hands[m][i].kind) {
            case 0 -> new HandBody(i, m, trace);
            case 1 -> new SelfBody(i, m, trace);
            case 2 -> new GiveBody(i, m, trace);
            case 3 -> new OrderBody(i, m, trace);
            case 4 -> new PartsBody(i, m, trace);
            default -> new BlindBody(i, m, trace);
        };
    }

    public int act(int member, int matter, int act, int x) {
        trace.clear();
        if (wrong(member, matter) || act < 0 || act > 2) {
            return 0;
        }
        HandBody b = body(member, matter);
        return act == 0 ? b.gives(x) : act == 1 ? b.holds(x) : b.tells(x);
    }

    public int trace(int i) {
        return i < 0 || i >= Math.min(20, trace.size()) ? NONE : trace.get(i);
    }

    public int taken(int member, int matter, int k) {
        if (k < 0 || k > 5) {
            return BAD;
        }
        if (wrong(member, matter)) {
            return NOTHING;
        }
        HandBody b = body(member, matter);
        boolean fits = switch (k) {
            case 0 -> true;
            case 1 -> b instanceof SelfBody;
            case 2 -> b instanceof GiveBody;
            case 3 -> b instanceof OrderBody;
            case 4 -> b instanceof PartsBody;
            default -> b instanceof BlindBody;
        };
        return fits ? hands[matter][member].kind : CAST;
    }

    public int count(int what) {
        int[] counts = {members, halls, text.length(), now, trace.size()};
        return what < 0 || what > 4 ? BAD : counts[what];
    }

    public int tape(int tape, int sort, int n) {
        if (tape < 0 || tape > 5) {
            return NONE;
        }
        if (sort < -1 || sort > 4 || sort >= 0 && n > 60) {
            return BAD;
        }
        if (sort >= 0 && n < 0) {
            return SIZE;
        }
        sorts[tape] = sort;
        tapes[tape] = new long[sort < 0 ? 0 : n];
        return 1;
    }

    public int item(int tape, int i, long v) {
        if (tape < 0 || tape > 5) {
            return NONE;
        }
        if (sorts[tape] < 0) {
            return NOTHING;
        }
        if (i < 0 || i >= tapes[tape].length) {
            return PLACE;
        }
        long[] narrowed = {(byte) v, (short) v, (int) v, v, v == 0 ? 0 : 1};
        tapes[tape][i] = narrowed[sorts[tape]];
        return 1;
    }

    public long read(int tape, int i) {
        return tape < 0 || tape > 5 || i < 0 || i >= tapes[tape].length ? NO : tapes[tape][i];
    }

    public int shift(int tape, int i, int other, int j, int n) {
        if (tape < 0 || tape > 5 || other < 0 || other > 5) {
            return NONE;
        }
        if (sorts[tape] < 0 || sorts[other] < 0) {
            return NOTHING;
        }
        if (sorts[tape] != sorts[other]) {
            return CAST;
        }
        if (n < 0 || i < 0 || j < 0 || (long) i + n > tapes[tape].length || (long) j + n > tapes[other].length) {
            return PLACE;
        }
        long[] from = tapes[tape].clone();
        for (int k = 0; k < n; k++) {
            tapes[other][j + k] = from[i + k];
        }
        return n;
    }
}
