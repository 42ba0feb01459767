import java.util.Arrays;

/**
 * Votes handed on: members who speak for themselves in a matter or hand their
 * voice on, and what that does to what is decided. See README.md.
 */
public final class HandedVoices {
    public static final int NONE = -1, BAD = -2, STATE = -3, FULL = -4;
    public static final long NO = Long.MIN_VALUE;

    private static final int NOTHING = -11, CAST = -12, PLACE = -13, SIZE = -14;
    /** Answered where there is none of what is asked for. */
    private static final int ABSENT = -5;
    /** A FAULT is told as this less its place. */
    private static final int FAULTS = -10;

    /** In the place of a member, where none gives and none takes. */
    private static final int NOBODY = -1;
    /** In the place of a member, where the ways are to be counted. */
    private static final int ALL_WAYS = -1;

    private static final int SEATS = 8, MATTERS = 3, CELLS = SEATS * MATTERS;
    private static final int TEN = 10;
    private static final int LAST_MINUTE = 99, NEVER = 100, LONGEST_PASS = 20;
    private static final int TURNS_AT_MOST = 12;
    private static final int BEYOND = 100;

    private static final int HAND = 0, SELF = 1, GIVE = 2, ORDER = 3, PARTS = 4, BLIND = 5;

    private final Hands hands;
    private final HallText text;
    private final Law law;
    private final Spread spread;
    private final Tally tally;
    private final Wishes wishes;
    private final Acts acts;
    private final Tapes tapes;

    public HandedVoices() {
        hands = new Hands();
        text = new HallText();
        law = new Law(hands);
        spread = new Spread(hands, law);
        tally = new Tally(hands, law, spread);
        wishes = new Wishes(hands, law, spread, tally);
        acts = new Acts();
        tapes = new Tapes();
    }

    // ---- members, hands

    public int member() {
        if (hands.members >= SEATS) {
            return FULL;
        }
        int number = hands.members;
        hands.members = number + 1;
        return number;
    }

    public int think(int member, int matter, boolean so, int sure) {
        if (!hands.sits(member) || !isMatter(matter)) {
            return NONE;
        }
        if (sure < 0 || sure > TEN) {
            return BAD;
        }
        int before = hands.opinion(member, matter) * 100 + hands.sure[cell(member, matter)];
        hands.form(member, matter, so, sure);
        law.learn(matter);
        return before;
    }

    public int hand(int member, int matter, int kind) {
        if (!hands.sits(member) || !isMatter(matter)) {
            return NONE;
        }
        if (kind != HAND && kind != SELF && kind != BLIND) {
            return BAD;
        }
        return hands.renew(cell(member, matter), kind, ABSENT, ABSENT, 0);
    }

    public int give(int member, int matter, int name) {
        if (!hands.sits(member) || !isMatter(matter) || !hands.sits(name)) {
            return NONE;
        }
        if (member == name) {
            return BAD;
        }
        return hands.renew(cell(member, matter), GIVE, name, ABSENT, TEN);
    }

    public int names(int member, int matter, int first, int second, int x) {
        if (!hands.sits(member) || !isMatter(matter) || !hands.sits(first) || !hands.sits(second)) {
            return NONE;
        }
        if (member == first || member == second || first == second || x < 0 || x >= TEN) {
            return BAD;
        }
        int cell = cell(member, matter);
        if (x == 0) {
            return hands.renew(cell, ORDER, first, second, TEN);
        }
        return hands.renew(cell, PARTS, first, second, x);
    }

    public int back(int member, int matter, int minute) {
        if (!hands.sits(member) || !isMatter(matter)) {
            return NONE;
        }
        if (minute < 0 || minute > NEVER) {
            return BAD;
        }
        int cell = cell(member, matter);
        int before = hands.until[cell];
        hands.until[cell] = minute;
        return before;
    }

    public int pass(int n) {
        if (n < 1 || n > LONGEST_PASS || hands.now + n > LAST_MINUTE) {
            return BAD;
        }
        hands.now += n;
        return hands.now;
    }

    public int of(int member, int matter, int what) {
        if (!hands.sits(member) || !isMatter(matter)) {
            return NONE;
        }
        int cell = cell(member, matter);
        switch (what) {
            case 0:
                return hands.kind[cell];
            case 1:
                return hands.until[cell];
            case 2:
                return hands.first[cell];
            case 3:
                return hands.second[cell];
            case 4:
                return hands.tenths[cell];
            case 5:
                return hands.opinion(member, matter);
            case 6:
                return hands.sure[cell];
            default:
                return NONE;
        }
    }

    // ---- the hall

    public int feed(int bytes, int n) {
        if (n < 0 || n > 4) {
            return BAD;
        }
        if (text.size + n > HallText.LONGEST) {
            return FULL;
        }
        for (int k = n - 1; k >= 0; k--) {
            text.append(bytes >>> 8 * k & 255);
        }
        return text.size;
    }

    public int hall() {
        int fault = text.fault();
        text.size = 0;
        if (fault != HallText.SOUND) {
            return FAULTS - fault;
        }
        text.draft = law.adopt(text.draft);
        return law.halls;
    }

    public int barred(int from, int to, int matter) {
        if (!hands.sits(from) || !hands.sits(to) || !isMatter(matter)) {
            return NONE;
        }
        if (from == to) {
            return BAD;
        }
        return law.bars(from, to, matter) ? 1 : 0;
    }

    public int share(int from, int to, int matter) {
        if (!hands.sits(from) || !hands.sits(to) || !isMatter(matter)) {
            return NONE;
        }
        spread.lay(matter, hands.now, 0, NOBODY, NOBODY);
        return spread.tenths[from * SEATS + to];
    }

    // ---- voices

    public long voices(int member, int matter, int part) {
        if (!hands.sits(member) || !isMatter(matter) || !isPart(part)) {
            return NO;
        }
        tally.reckonNow(matter);
        return lowest(tally.weights[member], tally.whole, part);
    }

    public int lost(int matter) {
        if (!isMatter(matter)) {
            return NONE;
        }
        spread.lay(matter, hands.now, 0, NOBODY, NOBODY);
        return spread.everyone & ~spread.reaching();
    }

    public int decided(int matter) {
        if (!isMatter(matter)) {
            return NONE;
        }
        tally.reckonNow(matter);
        return tally.decides(tally.sumOf(hands.yes[matter])) ? 1 : 0;
    }

    public int turning(int matter) {
        if (!isMatter(matter)) {
            return NONE;
        }
        tally.reckonNow(matter);
        int yes = hands.yes[matter];
        boolean so = tally.decides(tally.sumOf(yes));
        int turners = 0;
        for (int i = 0; i < hands.members; i++) {
            if (tally.decides(tally.sumOf(yes ^ 1 << i)) != so) {
                turners |= 1 << i;
            }
        }
        return turners;
    }

    public int power(int member, int matter) {
        if (!hands.sits(member) || !isMatter(matter)) {
            return NONE;
        }
        tally.reckonNow(matter);
        int others = tally.withVoices() & ~(1 << member);
        int turned = 0;
        for (int yes = 0; yes <= others; yes++) {
            if ((yes & ~others) != 0) {
                continue;
            }
            long sum = tally.sumOf(yes);
            if (tally.decides(sum + tally.weights[member]) != tally.decides(sum)) {
                turned++;
            }
        }
        return turned;
    }

    public int few(int matter) {
        if (!isMatter(matter)) {
            return NONE;
        }
        tally.reckonNow(matter);
        int found = ABSENT;
        int size = SEATS + 1;
        for (int set = 0; set <= spread.everyone; set++) {
            int n = Integer.bitCount(set);
            if (n < size && tally.decides(tally.sumOf(set))) {
                found = set;
                size = n;
            }
        }
        return found;
    }

    // ---- ways, being right

    public int best(int matter, int i) {
        if (!isMatter(matter) || i != ALL_WAYS && !hands.sits(i)) {
            return NONE;
        }
        spread.layFirm(matter, hands.now, 0, NOBODY, NOBODY);
        if (i != ALL_WAYS && (spread.orders >> i & 1) == 0) {
            return NONE;
        }
        spread.seekWays(true);
        if (i == ALL_WAYS) {
            return spread.ways;
        }
        return spread.bestWay < 0 ? ABSENT : spread.bestWay >> i & 1;
    }

    public long right(int matter, int what, int part) {
        if (!isMatter(matter) || what < 0 || what > 1 || !isPart(part)) {
            return NO;
        }
        int selves = what == 1 ? (1 << SEATS) - 1 : 0;
        return lowest(tally.chanceIf(matter, selves, NOBODY, NOBODY), Tally.CERTAIN, part);
    }

    public int surest(int matter) {
        if (!isMatter(matter)) {
            return NONE;
        }
        return hands.surestOf(matter, (1 << hands.members) - 1);
    }

    public int breach(int matter) {
        return isMatter(matter) ? wishes.firstBreach(matter) : NONE;
    }

    public int rather(int matter) {
        return isMatter(matter) ? wishes.firstWish(matter) : NONE;
    }

    public int settle(int matter) {
        if (!isMatter(matter)) {
            return NONE;
        }
        for (int turn = 0; turn < TURNS_AT_MOST; turn++) {
            int wish = wishes.firstWish(matter);
            if (wish < 0) {
                return turn;
            }
            int cell = cell(wish / TEN, matter);
            int choice = wish % TEN;
            if (choice == 0) {
                hands.renew(cell, SELF, ABSENT, ABSENT, 0);
            } else {
                hands.renew(cell, GIVE, choice - 1, ABSENT, TEN);
            }
        }
        return TURNS_AT_MOST;
    }

    // ---- heaps, turning

    public long heap(int matter, int part) {
        if (!isMatter(matter) || !isPart(part)) {
            return NO;
        }
        tally.reckonNow(matter);
        return lowest(tally.highest(), tally.whole, part);
    }

    public int mend(int matter, int h, int n) {
        if (!isMatter(matter)) {
            return NONE;
        }
        if (h < 0 || h > SEATS || n < 0 || n > SEATS) {
            return BAD;
        }
        return wishes.bestMending(matter, h, n);
    }

    public int late(int matter) {
        return isMatter(matter) ? wishes.lastOtherwise(matter) : NONE;
    }

    public int fewest(int matter) {
        return isMatter(matter) ? wishes.fewestToWin(matter) : NONE;
    }

    // ---- tables, acts, tapes

    public int table(int tape, int i, int matter) {
        if (!tapes.exists(tape) || !isMatter(matter)) {
            return NONE;
        }
        if (tapes.sorts[tape] != Tapes.EMPTY && tapes.sorts[tape] != Tapes.LONGS) {
            return CAST;
        }
        tally.reckonNow(matter);
        for (int k = 0; k < hands.members; k++) {
            // i may be so great that the place of a later member is no int
            long above = (long) i + 2 * k;
            if (above < 0 || above + 1 >= tapes.sizes[tape]) {
                return BEYOND + k;
            }
            int at = (int) above;
            if (tapes.get(tape, at) != lowest(tally.weights[k], tally.whole, 0)
                    || tapes.get(tape, at + 1) != lowest(tally.weights[k], tally.whole, 1)) {
                return k;
            }
        }
        return hands.members;
    }

    public int act(int member, int matter, int act, int x) {
        acts.clear();
        if (!hands.sits(member) || !isMatter(matter) || act < 0 || act > 2) {
            return 0;
        }
        return acts.run(hands.kind[cell(member, matter)], member, matter, act, x);
    }

    public int trace(int i) {
        return i < 0 || i >= acts.kept() ? NONE : acts.numbers[i];
    }

    public int taken(int member, int matter, int k) {
        if (k < HAND || k > BLIND) {
            return BAD;
        }
        if (!hands.sits(member) || !isMatter(matter)) {
            return NOTHING;
        }
        int kind = hands.kind[cell(member, matter)];
        boolean fits = k == HAND || k == kind || k == GIVE && kind > GIVE;
        return fits ? kind : CAST;
    }

    public int count(int what) {
        switch (what) {
            case 0:
                return hands.members;
            case 1:
                return law.halls;
            case 2:
                return text.size;
            case 3:
                return hands.now;
            case 4:
                return acts.bodies;
            default:
                return BAD;
        }
    }

    public int tape(int tape, int sort, int n) {
        if (!tapes.exists(tape)) {
            return NONE;
        }
        if (sort == Tapes.EMPTY) {
            tapes.reset(tape, sort, 0);
            return 1;
        }
        if (sort < Tapes.EMPTY || sort > Tapes.BOOLEANS || n > Tapes.LONGEST) {
            return BAD;
        }
        if (n < 0) {
            return SIZE;
        }
        tapes.reset(tape, sort, n);
        return 1;
    }

    public int item(int tape, int i, long v) {
        if (!tapes.exists(tape)) {
            return NONE;
        }
        if (tapes.sorts[tape] == Tapes.EMPTY) {
            return NOTHING;
        }
        if (i < 0 || i >= tapes.sizes[tape]) {
            return PLACE;
        }
        tapes.put(tape, i, v);
        return 1;
    }

    public long read(int tape, int i) {
        if (!tapes.exists(tape) || i < 0 || i >= tapes.sizes[tape]) {
            return NO;
        }
        return tapes.get(tape, i);
    }

    public int shift(int tape, int i, int other, int j, int n) {
        if (!tapes.exists(tape) || !tapes.exists(other)) {
            return NONE;
        }
        if (tapes.sorts[tape] == Tapes.EMPTY || tapes.sorts[other] == Tapes.EMPTY) {
            return NOTHING;
        }
        if (tapes.sorts[tape] != tapes.sorts[other]) {
            return CAST;
        }
        if (!tapes.holds(tape, i, n) || !tapes.holds(other, j, n)) {
            return PLACE;
        }
        tapes.copy(tape, i, other, j, n);
        return n;
    }

    // ---- helpers of the face

    private static boolean isMatter(int matter) {
        return matter >= 0 && matter < MATTERS;
    }

    private static boolean isPart(int part) {
        return part == 0 || part == 1;
    }

    private static int cell(int member, int matter) {
        return matter * SEATS + member;
    }

    /** Part 0 (above) or 1 (below the line) of a fraction in lowest terms. */
    private static long lowest(long above, long below, int part) {
        long divisor = commonDivisor(above, below);
        if (divisor == 0) {
            return part;
        }
        return (part == 0 ? above : below) / divisor;
    }

    private static long commonDivisor(long a, long b) {
        // Euclid's steps on longs are fewer than twice their bits.
        for (int step = 0; step < 128 && b != 0; step++) {
            long rest = a % b;
            a = b;
            b = rest;
        }
        return a;
    }

    /** The members, what they think, and the newest hand of each in each matter. */
    private static final class Hands {
        private final int[] yes = new int[MATTERS];
        private final int[] sure = new int[CELLS];
        private final int[] kind = new int[CELLS];
        private final int[] until = new int[CELLS];
        private final int[] first = new int[CELLS];
        private final int[] second = new int[CELLS];
        private final int[] tenths = new int[CELLS];
        private int members;
        private int now;

        private Hands() {
            Arrays.fill(sure, 5);
            Arrays.fill(kind, SELF);
            Arrays.fill(until, NEVER);
            Arrays.fill(first, ABSENT);
            Arrays.fill(second, ABSENT);
        }

        private boolean sits(int member) {
            return member >= 0 && member < members;
        }

        private int opinion(int member, int matter) {
            return yes[matter] >> member & 1;
        }

        private void form(int member, int matter, boolean so, int howSure) {
            int bit = 1 << member;
            yes[matter] = so ? yes[matter] | bit : yes[matter] & ~bit;
            sure[cell(member, matter)] = howSure;
        }

        /** A new hand is never one that was taken back before. */
        private int renew(int cell, int newKind, int one, int two, int x) {
            int before = kind[cell];
            kind[cell] = newKind;
            until[cell] = NEVER;
            first[cell] = one;
            second[cell] = two;
            tenths[cell] = x;
            return before;
        }

        /** Whether a hand does no more than speak for its member at that minute. */
        private boolean isSelf(int cell, int minute) {
            return kind[cell] <= SELF || minute >= until[cell];
        }

        /** The surest of a set of members, the least of several. */
        private int surestOf(int matter, int set) {
            int found = ABSENT;
            int most = -1;
            for (int i = 0; i < members; i++) {
                int howSure = sure[cell(i, matter)];
                if ((set >> i & 1) != 0 && howSure > most) {
                    found = i;
                    most = howSure;
                }
            }
            return found;
        }

        private int takenBackAt(int matter, int minute) {
            int set = 0;
            for (int i = 0; i < members; i++) {
                if (minute >= until[cell(i, matter)]) {
                    set |= 1 << i;
                }
            }
            return set;
        }
    }

    /** What a hall lays down: its bars as steps behind their operands, and the rest. */
    private static final class Rules {
        private static final int NOT = -1, AND = -2, OR = -3;
        private static final int LETTERS = 5, SIGNS = 3, NUMBERS = 1000;

        /** Every step stands for a byte of its own in the text, so they never run out. */
        private final int[] steps = new int[HallText.LONGEST];
        private int length;
        private int cap;
        private int above;
        private int below;
        private boolean ringBest;

        private Rules() {
            clear();
        }

        private void clear() {
            length = 0;
            cap = 999;
            above = 1;
            below = 2;
            ringBest = false;
        }

        private void add(int step) {
            if (length < steps.length) {
                steps[length] = step;
                length++;
            }
        }

        private static int test(int letter, int sign, int number) {
            return (letter * SIGNS + sign) * NUMBERS + number;
        }

        /**
         * The open operands are the bits of one number: a bar leaves one, and in
         * no nesting are there more than ten besides.
         */
        private boolean forbid(int[] facts) {
            int open = 0;
            for (int k = 0; k < length; k++) {
                int step = steps[k];
                if (step >= 0) {
                    open = open << 1 | (isTrue(step, facts) ? 1 : 0);
                } else if (step == NOT) {
                    open ^= 1;
                } else {
                    int top = open & 1;
                    open >>>= 1;
                    open = step == OR ? open | top : open & (top | ~1);
                }
            }
            return open != 0;
        }

        private static boolean isTrue(int step, int[] facts) {
            int number = step % NUMBERS;
            int sign = step / NUMBERS % SIGNS;
            int letter = step / NUMBERS / SIGNS;
            if (letter >= facts.length) {
                return false;
            }
            switch (sign) {
                case 0:
                    return facts[letter] < number;
                case 1:
                    return facts[letter] == number;
                default:
                    return facts[letter] > number;
            }
        }
    }

    /** THE TEXT, and how it is read as a hall. */
    private static final class HallText {
        private static final int LONGEST = 100, CLAUSES = 6, NESTING = 4;
        private static final int SOUND = -1, UNKNOWN = -1, END = -1;
        private static final int FIGURES = 3;
        private static final String LETTERS = "abmsq", SIGNS = "<=>";

        private final int[] bytes = new int[LONGEST];
        private int size;
        private int place;
        private int number;
        private int figures;
        private Rules draft = new Rules();

        private void append(int value) {
            if (size < bytes.length) {
                bytes[size] = value;
                size++;
            }
        }

        /** Reads THE TEXT into the draft: the place of the fault, or SOUND. */
        private int fault() {
            place = 0;
            draft.clear();
            for (int n = 1; n <= CLAUSES; n++) {
                if (!clause()) {
                    return place;
                }
                if (place == size) {
                    return SOUND;
                }
                if (n == CLAUSES || seen() != ';') {
                    return place;
                }
                place++;
            }
            return place;
        }

        private int seen() {
            return place < size ? bytes[place] : END;
        }

        private boolean clause() {
            switch (seen()) {
                case 'b':
                    return word("bar ") && either(0);
                case 'c':
                    if (!word("cap ") || !figuresOf()) {
                        return false;
                    }
                    draft.cap = number;
                    return true;
                case 'n':
                    return word("need ") && need();
                case 'r':
                    return word("ring ") && ring();
                default:
                    return false;
            }
        }

        private boolean word(String word) {
            for (int k = 0; k < word.length(); k++) {
                if (seen() != word.charAt(k)) {
                    return false;
                }
                place++;
            }
            return true;
        }

        private boolean need() {
            if (!figuresOf()) {
                return false;
            }
            draft.above = number;
            if (!word(" ") || !figuresOf()) {
                return false;
            }
            if (number == 0) {
                // with a figure left the next byte could still have made it more than 0
                if (figures == FIGURES) {
                    place--;
                }
                return false;
            }
            draft.below = number;
            return true;
        }

        private boolean ring() {
            int sort = seen();
            if (sort != 'l' && sort != 'b') {
                return false;
            }
            draft.ringBest = sort == 'b';
            place++;
            return true;
        }

        private boolean figuresOf() {
            number = 0;
            figures = 0;
            for (int k = 0; k < FIGURES; k++) {
                int figure = seen();
                if (figure < '0' || figure > '9') {
                    break;
                }
                number = number * 10 + figure - '0';
                figures++;
                place++;
            }
            return figures > 0;
        }

        /** F&F.. in a row with | between. The depth is that of the ( and ! around it. */
        private boolean either(int depth) {
            for (int terms = 0; terms < LONGEST; terms++) {
                if (!single(depth)) {
                    return false;
                }
                for (int k = 0; k < LONGEST && seen() == '&'; k++) {
                    place++;
                    if (!single(depth)) {
                        return false;
                    }
                    draft.add(Rules.AND);
                }
                if (terms > 0) {
                    draft.add(Rules.OR);
                }
                if (seen() != '|') {
                    return true;
                }
                place++;
            }
            return false;
        }

        private boolean single(int depth) {
            int byteSeen = seen();
            if (byteSeen != '!' && byteSeen != '(') {
                return test();
            }
            if (depth >= NESTING) {
                return false;
            }
            place++;
            if (byteSeen == '!') {
                if (!single(depth + 1)) {
                    return false;
                }
                draft.add(Rules.NOT);
                return true;
            }
            if (!either(depth + 1) || seen() != ')') {
                return false;
            }
            place++;
            return true;
        }

        private boolean test() {
            int letter = signOf(LETTERS);
            if (letter < 0) {
                return false;
            }
            int sign = signOf(SIGNS);
            if (sign < 0 || !figuresOf()) {
                return false;
            }
            draft.add(Rules.test(letter, sign, number));
            return true;
        }

        private int signOf(String signs) {
            int sign = seen();
            for (int k = 0; k < signs.length(); k++) {
                if (signs.charAt(k) == sign) {
                    place++;
                    return k;
                }
            }
            return UNKNOWN;
        }
    }

    /** The hall that rules, and whom it bars from whom. */
    private static final class Law {
        private final Hands hands;
        private final int[] masks = new int[CELLS];
        private final int[] facts = new int[Rules.LETTERS];
        private Rules ruling = new Rules();
        private int halls;

        private Law(Hands hands) {
            this.hands = hands;
        }

        /** The new rules rule; the old ones come back to be written over. */
        private Rules adopt(Rules rules) {
            Rules old = ruling;
            ruling = rules;
            halls++;
            for (int matter = 0; matter < MATTERS; matter++) {
                learn(matter);
            }
            return old;
        }

        /** Bars change with halls and thoughts alone, and many hands are tried between two of them. */
        private void learn(int matter) {
            for (int from = 0; from < SEATS; from++) {
                masks[cell(from, matter)] = ruling.length == 0 ? 0 : maskOf(from, matter);
            }
        }

        private boolean bars(int from, int to, int matter) {
            return (masks[cell(from, matter)] >> to & 1) != 0;
        }

        /** The facts stand in the order of the letters of tests. */
        private int maskOf(int from, int matter) {
            int mask = 0;
            facts[0] = from;
            facts[2] = matter;
            facts[4] = hands.sure[cell(from, matter)];
            for (int to = 0; to < SEATS; to++) {
                facts[1] = to;
                facts[3] = hands.sure[cell(to, matter)];
                if (ruling.forbid(facts)) {
                    mask |= 1 << to;
                }
            }
            return mask;
        }
    }

    /**
     * Where the voices go in one matter at one minute, if some members had SELF
     * (bits) and one gave its voice to another (or NOBODY did).
     */
    private static final class Spread {
        private final Hands hands;
        private final Law law;
        /** Tenths from a member (row) to another; on the diagonal those that stay. */
        private final int[] tenths = new int[SEATS * SEATS];
        private final int[] onward = new int[SEATS];
        private int speaking;
        private int orders;
        private int everyone;
        private int topic;
        private int base;
        private int ways;
        private int bestWay;

        private Spread(Hands hands, Law law) {
            this.hands = hands;
            this.law = law;
        }

        private void lay(int matter, int minute, int selves, int giver, int taker) {
            layFirm(matter, minute, selves, giver, taker);
            layOrders();
        }

        /** All but the orders, since where those hand may hang on all the others. */
        private void layFirm(int matter, int minute, int selves, int giver, int taker) {
            base = matter * SEATS;
            topic = matter;
            everyone = (1 << hands.members) - 1;
            speaking = 0;
            orders = 0;
            Arrays.fill(tenths, 0);
            Arrays.fill(onward, 0);
            for (int i = 0; i < hands.members; i++) {
                int cell = base + i;
                if (i == giver) {
                    send(i, taker, TEN);
                } else if ((selves >> i & 1) != 0 || hands.isSelf(cell, minute)) {
                    stay(i, TEN);
                } else if (hands.kind[cell] == ORDER) {
                    orders |= 1 << i;
                } else {
                    layHand(i, cell);
                }
            }
        }

        private void layHand(int i, int cell) {
            if (hands.kind[cell] == BLIND) {
                int others = everyone & ~(1 << i) & ~law.masks[cell];
                send(i, hands.surestOf(topic, others), TEN);
                return;
            }
            send(i, hands.first[cell], hands.tenths[cell]);
            if (hands.kind[cell] == PARTS) {
                send(i, hands.second[cell], TEN - hands.tenths[cell]);
            }
        }

        private void layOrders() {
            int way = ABSENT;
            if (orders != 0 && law.ruling.ringBest) {
                seekWays(false);
                way = bestWay;
            }
            for (int i = 0; i < hands.members; i++) {
                if ((orders >> i & 1) != 0) {
                    onward[i] = 0;
                    send(i, nameOf(i, way), TEN);
                }
            }
        }

        private int nameOf(int i, int way) {
            int cell = base + i;
            int seconds = way >= 0 ? way >> i : law.masks[cell] >> hands.first[cell];
            return (seconds & 1) != 0 ? hands.second[cell] : hands.first[cell];
        }

        private void send(int i, int name, int part) {
            if (name < 0 || name >= SEATS || (law.masks[base + i] >> name & 1) != 0) {
                stay(i, part);
            } else {
                tenths[i * SEATS + name] += part;
                onward[i] |= 1 << name;
            }
        }

        private void stay(int i, int part) {
            tenths[i * SEATS + i] += part;
            speaking |= 1 << i;
        }

        /** Those from which a way leads to one that speaks. */
        private int reaching() {
            int set = speaking;
            for (int round = 0; round < SEATS; round++) {
                int before = set;
                for (int i = 0; i < hands.members; i++) {
                    if ((onward[i] & set) != 0) {
                        set |= 1 << i;
                    }
                }
                if (set == before) {
                    break;
                }
            }
            return set;
        }

        /** Finds the best way, as bits of second names; counts the ways if every one is asked for. */
        private void seekWays(boolean every) {
            int firsts = openNames(hands.first);
            int seconds = openNames(hands.second);
            int fewest = SEATS + 1;
            ways = 0;
            bestWay = ABSENT;
            for (int way = 0; way <= orders; way++) {
                int n = Integer.bitCount(way);
                boolean open = (way & ~seconds) == 0 && (orders & ~way & ~firsts) == 0;
                if (!open || !every && n >= fewest || !reachAll(way)) {
                    continue;
                }
                ways++;
                if (n < fewest) {
                    fewest = n;
                    bestWay = way;
                }
            }
        }

        /** Those with an order of whose names this one isn't barred. */
        private int openNames(int[] nameds) {
            int open = 0;
            for (int i = 0; i < hands.members; i++) {
                int cell = base + i;
                if ((orders >> i & 1) != 0 && (law.masks[cell] >> nameds[cell] & 1) == 0) {
                    open |= 1 << i;
                }
            }
            return open;
        }

        private boolean reachAll(int way) {
            for (int i = 0; i < hands.members; i++) {
                if ((orders >> i & 1) != 0) {
                    onward[i] = 1 << nameOf(i, way);
                }
            }
            return reaching() == everyone;
        }
    }

    /** The voices that a spread comes to, and what they decide. */
    private static final class Tally {
        /** Chances are told in parts of this: ten to the power of all seats. */
        private static final long CERTAIN = 100_000_000L;

        private final Hands hands;
        private final Law law;
        private final Spread spread;
        private final int[] heard = new int[SEATS];
        private final long[][] rows = new long[SEATS][SEATS + 1];
        /** Voices of each member as parts of the whole. */
        private final long[] weights = new long[SEATS];
        private long whole = 1;
        private long sum;
        private final long[] odds = new long[1 << SEATS];
        private final long[] sums = new long[1 << SEATS];

        private Tally(Hands hands, Law law, Spread spread) {
            this.hands = hands;
            this.law = law;
            this.spread = spread;
        }

        private void reckonNow(int matter) {
            reckon(matter, hands.now, 0, NOBODY, NOBODY);
        }

        private void reckon(int matter, int minute, int selves, int giver, int taker) {
            spread.lay(matter, minute, selves, giver, taker);
            weigh();
        }

        private void weigh() {
            Arrays.fill(weights, 0L);
            sum = 0;
            int n = listHeard(spread.reaching());
            fillRows(n);
            whole = unroll(n);
            long most = law.ruling.cap * whole;
            for (int r = 0; r < n; r++) {
                int i = heard[r];
                weights[i] = Math.min(rows[r][n] * spread.tenths[i * SEATS + i], most);
                sum += weights[i];
            }
        }

        private int listHeard(int set) {
            int n = 0;
            for (int i = 0; i < hands.members; i++) {
                if ((set >> i & 1) != 0) {
                    heard[n] = i;
                    n++;
                }
            }
            return n;
        }

        /**
         * The unknowns are tenths of what goes through each that is heard. A row
         * says that a member's ten of them, less those handed to it, are the one
         * voice of its own.
         */
        private void fillRows(int n) {
            for (int r = 0; r < n; r++) {
                for (int c = 0; c < n; c++) {
                    rows[r][c] = r == c ? TEN : -spread.tenths[heard[c] * SEATS + heard[r]];
                }
                rows[r][n] = 1;
            }
        }

        /**
         * Solves the rows without fractions: every division leaves no rest, as
         * all that comes up is a determinant within the rows, and none is
         * above 200 to the power of 4 (a column's squares come to 200 at most),
         * so that no product is too long. The rows need not change places: as
         * from all that are heard a way leads out, the pivots are above 0.
         */
        private long unroll(int n) {
            long under = 1;
            for (int p = 0; p < n; p++) {
                long pivot = rows[p][p];
                if (pivot <= 0) {
                    return 1;
                }
                for (int r = 0; r < n; r++) {
                    if (r != p) {
                        clear(rows[r], rows[p], p, n, under);
                    }
                }
                under = pivot;
            }
            return under;
        }

        private static void clear(long[] row, long[] from, int p, int n, long under) {
            long times = row[p];
            long pivot = from[p];
            if (under == 0) {
                return;
            }
            for (int c = p + 1; c <= n; c++) {
                row[c] = (pivot * row[c] - times * from[c]) / under;
            }
        }

        private long sumOf(int set) {
            long total = 0;
            for (int i = 0; i < hands.members; i++) {
                if ((set >> i & 1) != 0) {
                    total += weights[i];
                }
            }
            return total;
        }

        private boolean decides(long yes) {
            return law.ruling.below * yes > law.ruling.above * sum;
        }

        private int withVoices() {
            int set = 0;
            for (int i = 0; i < hands.members; i++) {
                if (weights[i] > 0) {
                    set |= 1 << i;
                }
            }
            return set;
        }

        private long highest() {
            long most = 0;
            for (int i = 0; i < hands.members; i++) {
                most = Math.max(most, weights[i]);
            }
            return most;
        }

        /** Does by itself what reckon does, as the calls below it go as deep as they may. */
        private long chanceIf(int matter, int selves, int giver, int taker) {
            spread.lay(matter, hands.now, selves, giver, taker);
            weigh();
            return chance(matter);
        }

        /** How likely the voices as they are reckoned decide YES. */
        private long chance(int matter) {
            int voters = withVoices();
            odds[0] = 1;
            sums[0] = 0;
            for (int k = Integer.bitCount(voters); k < SEATS; k++) {
                odds[0] *= TEN;
            }
            int size = 1;
            for (int i = 0; i < hands.members; i++) {
                if ((voters >> i & 1) != 0) {
                    fork(size, weights[i], hands.sure[cell(i, matter)]);
                    size *= 2;
                }
            }
            long total = 0;
            for (int k = 0; k < size; k++) {
                if (decides(sums[k])) {
                    total += odds[k];
                }
            }
            return total;
        }

        /** One more voter makes of every way to think two. */
        private void fork(int size, long weight, int sure) {
            for (int k = 0; k < size && size + k < odds.length; k++) {
                odds[size + k] = odds[k] * sure;
                sums[size + k] = sums[k] + weight;
                odds[k] *= TEN - sure;
            }
        }
    }

    /** What would be with other hands than there are. */
    private static final class Wishes {
        private final Hands hands;
        private final Law law;
        private final Spread spread;
        private final Tally tally;
        private final long[] weightsNow = new long[SEATS];

        private Wishes(Hands hands, Law law, Spread spread, Tally tally) {
            this.hands = hands;
            this.law = law;
            this.spread = spread;
            this.tally = tally;
        }

        private int firstBreach(int matter) {
            tally.reckon(matter, hands.now, 0, NOBODY, NOBODY);
            long wholeNow = tally.whole;
            int alone = 0;
            for (int i = 0; i < hands.members; i++) {
                weightsNow[i] = tally.weights[i];
                if (spread.tenths[i * SEATS + i] == TEN) {
                    alone |= 1 << i;
                }
            }
            for (int a = 0; a < hands.members; a++) {
                int takers = (alone >> a & 1) == 0 ? 0 : alone & ~(1 << a);
                for (int b = 0; b < hands.members; b++) {
                    if ((takers >> b & 1) == 0 || law.bars(a, b, matter)) {
                        continue;
                    }
                    tally.reckon(matter, hands.now, 0, a, b);
                    if (tally.weights[b] * wholeNow < weightsNow[b] * tally.whole) {
                        return TEN * a + b;
                    }
                }
            }
            return ABSENT;
        }

        private int firstWish(int matter) {
            long asItIs = tally.chanceIf(matter, 0, NOBODY, NOBODY);
            for (int i = 0; i < hands.members; i++) {
                if (tally.chanceIf(matter, 1 << i, NOBODY, NOBODY) > asItIs) {
                    return TEN * i;
                }
                for (int j = 0; j < hands.members; j++) {
                    if (j != i && !law.bars(i, j, matter) && tally.chanceIf(matter, 0, i, j) > asItIs) {
                        return TEN * i + j + 1;
                    }
                }
            }
            return ABSENT;
        }

        private int bestMending(int matter, int h, int n) {
            int found = ABSENT;
            int size = 0;
            long greatest = -1;
            // One that speaks for itself anyhow only makes a set larger, and the fewest are asked for.
            int movable = movers(matter);
            for (int set = 0; set <= movable; set++) {
                int members = Integer.bitCount(set);
                if ((set & ~movable) != 0 || members > n) {
                    continue;
                }
                tally.reckon(matter, hands.now, set, NOBODY, NOBODY);
                if (tally.highest() > h * tally.whole) {
                    continue;
                }
                long chance = tally.chance(matter);
                if (chance > greatest || chance == greatest && members < size) {
                    found = set;
                    size = members;
                    greatest = chance;
                }
            }
            return found;
        }

        private int movers(int matter) {
            int set = 0;
            for (int i = 0; i < hands.members; i++) {
                if (!hands.isSelf(cell(i, matter), hands.now)) {
                    set |= 1 << i;
                }
            }
            return set;
        }

        private int lastOtherwise(int matter) {
            boolean so = decidedAt(matter, hands.now);
            int reckoned = hands.takenBackAt(matter, hands.now);
            for (int minute = LAST_MINUTE; minute > hands.now; minute--) {
                int back = hands.takenBackAt(matter, minute);
                // Nothing but the hands taken back sets one minute apart from another.
                if (back == reckoned) {
                    continue;
                }
                reckoned = back;
                if (decidedAt(matter, minute) != so) {
                    return minute;
                }
            }
            return ABSENT;
        }

        /** Does by itself what reckon does, as the calls below it go as deep as they may. */
        private boolean decidedAt(int matter, int minute) {
            spread.lay(matter, minute, 0, NOBODY, NOBODY);
            tally.weigh();
            return tally.decides(tally.sumOf(hands.yes[matter]));
        }

        private int fewestToWin(int matter) {
            int found = ABSENT;
            int size = SEATS + 1;
            int yes = hands.yes[matter];
            int against = (1 << hands.members) - 1 & ~yes;
            for (int set = 0; set <= against; set++) {
                int members = Integer.bitCount(set);
                if ((set & ~against) != 0 || members >= size) {
                    continue;
                }
                tally.reckon(matter, hands.now, set, NOBODY, NOBODY);
                if (tally.decides(tally.sumOf(yes | set))) {
                    found = set;
                    size = members;
                }
            }
            return found;
        }
    }

    /** The bodies of the kinds of hands, and the trace that they leave. */
    private static final class Acts {
        private static final int KEPT = 20;

        private final int[] numbers = new int[KEPT];
        private int bodies;
        private int kind;
        private int seat;
        private int topic;

        private void clear() {
            bodies = 0;
        }

        private int kept() {
            return Math.min(bodies, KEPT);
        }

        private int run(int handKind, int member, int matter, int deed, int x) {
            kind = handKind;
            seat = member;
            topic = matter;
            switch (deed) {
                case 0:
                    return gives(x);
                case 1:
                    return holds(x);
                default:
                    return tells(x);
            }
        }

        private void begin(int number) {
            if (bodies < KEPT) {
                numbers[bodies] = number;
            }
            bodies++;
        }

        // No body does anything ahead of its super call but to change x. So the
        // bodies of a kind and of those above it begin one after the other, and
        // what each makes of the answer follows in the other order.

        private int gives(int x) {
            int doubled = x;
            if (kind == PARTS) {
                begin(51);
            }
            if (kind >= GIVE) {
                begin(30);
                doubled = x * 2;
            }
            begin(10);
            int given = doubled + seat;
            return kind == PARTS ? given ^ topic : given;
        }

        private int holds(int x) {
            if (kind == ORDER) {
                begin(40);
            }
            if (kind >= GIVE) {
                begin(31);
            }
            begin(11);
            int held = gives(x) - topic;
            if (kind >= GIVE) {
                held = -held;
            }
            return kind == ORDER ? held + gives(1) : held;
        }

        private int tells(int x) {
            switch (kind) {
                case BLIND:
                    begin(60);
                    int held = holds(x);
                    return held - tellsAsHand(x);
                case PARTS:
                    begin(50);
                    return tellsAsHand(x - seat);
                case SELF:
                    begin(20);
                    return tellsAsHand(x) ^ 7;
                default:
                    return tellsAsHand(x);
            }
        }

        private int tellsAsHand(int x) {
            begin(12);
            return holds(x) * 2;
        }
    }

    /** The tapes, one behind the other in one row. */
    private static final class Tapes {
        private static final int MANY = 6, LONGEST = 60;
        private static final int EMPTY = -1, BYTES = 0, SHORTS = 1, INTS = 2, LONGS = 3, BOOLEANS = 4;

        private final int[] sorts = new int[MANY];
        private final int[] sizes = new int[MANY];
        private final long[] items = new long[MANY * LONGEST];

        private Tapes() {
            Arrays.fill(sorts, EMPTY);
        }

        private boolean exists(int tape) {
            return tape >= 0 && tape < MANY;
        }

        private void reset(int tape, int sort, int n) {
            sorts[tape] = sort;
            sizes[tape] = n;
            for (int i = 0; i < n && i < LONGEST; i++) {
                items[tape * LONGEST + i] = 0;
            }
        }

        private long get(int tape, int i) {
            return items[tape * LONGEST + i];
        }

        private void put(int tape, int i, long v) {
            items[tape * LONGEST + i] = narrow(sorts[tape], v);
        }

        private static long narrow(int sort, long v) {
            switch (sort) {
                case BYTES:
                    return (byte) v;
                case SHORTS:
                    return (short) v;
                case INTS:
                    return (int) v;
                case BOOLEANS:
                    return v != 0 ? 1 : 0;
                default:
                    return v;
            }
        }

        /** Whether n items from i on lie within a tape; their sum may be no int. */
        private boolean holds(int tape, int i, int n) {
            return i >= 0 && n >= 0 && (long) i + n <= sizes[tape];
        }

        private void copy(int tape, int i, int other, int j, int n) {
            System.arraycopy(items, tape * LONGEST + i, items, other * LONGEST + j, n);
        }
    }
}
