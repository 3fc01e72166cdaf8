import java.util.Arrays;

/** A frame of iron in which type is locked up; ../shared/DOC.md says what each call answers. */
public final class TypeLock {
    public static final int NONE = -1;

    private static final int NOTHING = -2;
    private static final int LAPPED = -3;
    private static final int USED_UP = -4;

    private static final int MOST_BYTES = 2000;
    private static final int MOST_POINTS = 60;
    private static final int MOST_THINGS = 40;
    private static final int MOST_KINDS = 14;
    private static final int MOST_WEDGES = 6;
    private static final int MOST_RULES = 6;
    private static final int MOST_SLOTS = 3;
    private static final int MOST_FOLDS = 4;
    private static final int MOST_CARDS = 99;
    private static final int LONGEST_LINE = 240;
    private static final int DAYS = 100;

    private static final int SIDES = 4;
    private static final int NORTH = 0;
    private static final int EAST = 1;
    private static final int SOUTH = 2;
    private static final int WEST = 3;

    private final byte[] tape = new byte[MOST_BYTES];
    private int taped;
    private final Reader reader = new Reader();
    private Text text = new Text();
    // A text is read into this one, so that a FAULT leaves the other as it was.
    private Text spare = new Text();
    private int texts;
    private int faultPlace = NONE;

    private final Bed bed = new Bed();
    private final Bed[] slots = {new Bed(), new Bed(), new Bed()};
    // What is worked out is kept until these move on: the first with all that lies, the second with the WEDGES too.
    private int layings;
    private int changes;

    private final Pushes pushes = new Pushes();
    private final Orders orders = new Orders();
    private final Laws laws = new Laws();
    private final LineFiller lines = new LineFiller();
    private final GapFiller gaps = new GapFiller();
    private final Logs logs = new Logs();

    public TypeLock() {
    }

    // ---- I. The tape and its text

    public int feed(int a, int b, int c, int d, int e) {
        if (taped > MOST_BYTES - 20) {
            return NONE;
        }
        tapeFour(a);
        tapeFour(b);
        tapeFour(c);
        tapeFour(d);
        tapeFour(e);
        return taped;
    }

    private void tapeFour(int bytes) {
        for (int shift = 24; shift >= 0; shift -= 8) {
            if (taped < tape.length) {
                tape[taped] = (byte) (bytes >> shift);
                taped++;
            }
        }
    }

    public int back(int n) {
        if (n < 0 || n > taped) {
            return NONE;
        }
        taped -= n;
        return taped;
    }

    public int read() {
        reader.parse(tape, taped, spare);
        taped = 0;
        faultPlace = reader.faultPlace;
        if (reader.fault == 0) {
            changeText();
        }
        return reader.fault;
    }

    private void changeText() {
        Text last = text;
        text = spare;
        spare = last;
        texts++;
        bed.things = 0;
        bed.tight = 0;
        layingChanged();
    }

    private void layingChanged() {
        layings++;
        changes++;
    }

    public int place() {
        return faultPlace;
    }

    public int kind(int kind, int what) {
        if (!text.hasKind(kind)) {
            return NONE;
        }
        switch (what) {
            case 0:
                return text.sortOf[kind];
            case 1:
                return text.wideOf[kind];
            case 2:
                return text.highOf[kind];
            case 3:
                return text.manyOf[kind];
            default:
                return NONE;
        }
    }

    // ---- II. What lies, and what holds it

    public int lay(int kind, int x, int y, boolean turned) {
        if (!text.hasKind(kind) || !isPoint(x) || !isPoint(y) || bed.things >= MOST_THINGS) {
            return NONE;
        }
        int wide = turned ? text.highOf[kind] : text.wideOf[kind];
        int high = turned ? text.wideOf[kind] : text.highOf[kind];
        if (x + wide > text.wide || y + high > text.high) {
            return NOTHING;
        }
        if (bed.isCovered(x, y, wide, high)) {
            return LAPPED;
        }
        if (bed.leftOf(text, kind) <= 0) {
            return USED_UP;
        }
        bed.add(kind, text.sortOf[kind], x, y, wide, high, turned);
        layingChanged();
        return bed.things - 1;
    }

    private static boolean isPoint(int x) {
        return x >= 0 && x < MOST_POINTS;
    }

    public int take(int thing) {
        if (!bed.has(thing)) {
            return NONE;
        }
        bed.remove(thing);
        layingChanged();
        return bed.things;
    }

    public int thing(int thing, int what) {
        if (!bed.has(thing)) {
            return NONE;
        }
        switch (what) {
            case 0:
                return bed.kind[thing];
            case 1:
                return bed.x[thing];
            case 2:
                return bed.y[thing];
            case 3:
                return bed.wide[thing];
            case 4:
                return bed.high[thing];
            case 5:
                return bed.turned[thing] ? 1 : 0;
            default:
                return NONE;
        }
    }

    public int at(int x, int y) {
        if (x < 0 || x >= text.wide || y < 0 || y >= text.high) {
            return NONE;
        }
        return bed.lyingOn(x, y);
    }

    public int empty() {
        return text.wide * text.high - bed.area();
    }

    public int touch(int thing, int other) {
        if (!bed.has(thing) || !bed.has(other) || thing == other) {
            return NONE;
        }
        return bed.contact(thing, other);
    }

    public boolean tight(int wedge, boolean on) {
        if (wedge < 0 || wedge >= text.wedges) {
            return false;
        }
        int bit = 1 << wedge;
        bed.tight = on ? bed.tight | bit : bed.tight & ~bit;
        changes++;
        return true;
    }

    public int pushed(int thing, int side) {
        if (!bed.has(thing) || !isSide(side)) {
            return NONE;
        }
        look();
        return bitOf(pushes.pushedFrom(side, bed.everything(), bed.tight), thing);
    }

    public int borne(int thing, int side) {
        if (!bed.has(thing) || !isSide(side)) {
            return NONE;
        }
        look();
        return bitOf(pushes.borneAt(side, bed.everything()), thing);
    }

    private static boolean isSide(int side) {
        return side >= 0 && side < SIDES;
    }

    private static int bitOf(long set, int bit) {
        return (int) (set >>> bit & 1L);
    }

    private void look() {
        pushes.look(text, bed, layings, changes);
    }

    public int held(int thing) {
        if (!bed.has(thing)) {
            return NONE;
        }
        look();
        pushes.heldOf(bed.everything(), bed.tight);
        return 2 * bitOf(pushes.heldAlong, thing) + bitOf(pushes.heldAcross, thing);
    }

    public int holding() {
        look();
        return Long.bitCount(pushes.heldOf(bed.everything(), bed.tight));
    }

    public int drops(int thing) {
        if (!bed.has(thing)) {
            return NONE;
        }
        look();
        pushes.lift();
        return pushes.droppedIn[thing];
    }

    public int round(int round) {
        if (round < 0) {
            return NONE;
        }
        look();
        pushes.lift();
        return round <= MOST_THINGS ? pushes.roundSize[round] : 0;
    }

    public int keeps(int thing) {
        if (!bed.has(thing)) {
            return NONE;
        }
        look();
        return pushes.keptBy(thing);
    }

    public int key() {
        if (bed.things == 0) {
            return NOTHING;
        }
        look();
        int best = 0;
        for (int i = 1; i < bed.things; i++) {
            if (pushes.keptBy(i) > pushes.keptBy(best)) {
                best = i;
            }
        }
        return best;
    }

    public int seeming(int i) {
        look();
        long loose = bed.everything() & ~pushes.heldOf(bed.everything(), bed.tight);
        int left = i;
        for (int j = 0; j < bed.things && left >= 0; j++) {
            if (bitOf(loose, j) == 1 && pushes.keptBy(j) > 0) {
                if (left == 0) {
                    return j;
                }
                left--;
            }
        }
        return NONE;
    }

    // ---- III. Joints, orders, giving

    public int joint(boolean along, int line) {
        if (line < 1 || line >= (along ? text.wide : text.high)) {
            return NONE;
        }
        return longestRun(bed.sidesOn(along, line));
    }

    private static int longestRun(long points) {
        long rest = points;
        int run = 0;
        while (rest != 0 && run < MOST_POINTS) {
            rest &= rest << 1;
            run++;
        }
        return run;
    }

    public int longest() {
        int best = 0;
        int answer = 0;
        for (int y = 1; y < text.high; y++) {
            int run = longestRun(bed.sidesOn(false, y));
            if (run > best) {
                best = run;
                answer = 100 * run + y;
            }
        }
        for (int x = 1; x < text.wide; x++) {
            int run = longestRun(bed.sidesOn(true, x));
            if (run > best) {
                best = run;
                answer = 100 * run + x + 10000;
            }
        }
        return answer;
    }

    public int order(int i) {
        if (i < 0 || i >= text.wedges) {
            return NONE;
        }
        look();
        orders.find(pushes, text.wedges, layings);
        return orders.wedge[i];
    }

    public int ordered(int i) {
        if (i < 0 || i >= text.wedges) {
            return NONE;
        }
        look();
        orders.find(pushes, text.wedges, layings);
        return orders.heldBehind[i];
    }

    public int gives(int thing) {
        if (!bed.has(thing)) {
            return NONE;
        }
        weighLaws();
        return laws.giving[thing];
    }

    public int shift(int thing, int side) {
        if (!bed.has(thing) || !isSide(side)) {
            return NONE;
        }
        weighLaws();
        return laws.shifts[side][thing];
    }

    public int bow(int thing, int side) {
        if (!bed.has(thing) || !isSide(side)) {
            return NONE;
        }
        weighLaws();
        return laws.bowOf(thing, side);
    }

    private void weighLaws() {
        look();
        laws.weigh(text, bed, pushes, changes);
    }

    public int judge() {
        weighLaws();
        long held = pushes.heldOf(bed.everything(), bed.tight);
        for (int i = 0; i < bed.things; i++) {
            laws.describe(i, bitOf(held, i));
            for (int rule = 0; rule < text.rules; rule++) {
                if (laws.applies(rule)) {
                    return 10 * i + rule;
                }
            }
        }
        return NOTHING;
    }

    public int breaks(int rule) {
        if (rule < 0 || rule >= text.rules) {
            return NONE;
        }
        weighLaws();
        long held = pushes.heldOf(bed.everything(), bed.tight);
        int many = 0;
        for (int i = 0; i < bed.things; i++) {
            laws.describe(i, bitOf(held, i));
            if (laws.applies(rule)) {
                many++;
            }
        }
        return many;
    }

    // ---- IV. Lines, gaps, buying

    public int line(int n, int c, int what) {
        if (!isLine(n, c) || !(what == 0 || what == 1 || isShare(what))) {
            return NONE;
        }
        lines.prepare(text, bed, layings);
        if (!lines.solve(n, c)) {
            return NOTHING;
        }
        if (what < 10) {
            return what == 0 ? lines.fewest : lines.cards;
        }
        lines.shareOut(n - lines.cards, (what - 10) / 2);
        return what % 2 == 0 ? lines.asTold : lines.turned;
    }

    private static boolean isLine(int n, int c) {
        return n >= 1 && n <= LONGEST_LINE && c >= 0 && c <= MOST_CARDS;
    }

    /** Whether what asks for a KIND of PIECES, as told or turned. */
    private boolean isShare(int what) {
        return what >= 10 && text.isPiece((what - 10) / 2);
    }

    public int nearest(int n, int c) {
        if (!isLine(n, c)) {
            return NONE;
        }
        lines.prepare(text, bed, layings);
        return lines.greatestTo(n, c);
    }

    public int gap(int w, int h, int what) {
        if (w < 1 || w > MOST_POINTS || h < 1 || h > MOST_POINTS || !(what == 0 || isShare(what))) {
            return NONE;
        }
        gaps.prepare(text, bed, layings, w);
        if (!gaps.canFill(h)) {
            return NOTHING;
        }
        if (what == 0) {
            return gaps.piecesFor(h);
        }
        gaps.shareOut(h, (what - 10) / 2);
        return what % 2 == 0 ? gaps.asTold : gaps.turned;
    }

    public int log(int day, int kind, int many, boolean bought) {
        if (day < 0 || day >= DAYS || kind < 0 || kind >= MOST_KINDS || many < 0 || many > 99) {
            return NONE;
        }
        return logs.add(bought ? Logs.BOUGHT : Logs.NEEDED, day, kind, many);
    }

    public int annul(int log) {
        if (!logs.canVoid(log)) {
            return NONE;
        }
        return logs.add(Logs.VOID, 0, log, 0);
    }

    public int lack(int day, int kind, int n) {
        if (day < 0 || day >= DAYS || !text.hasKind(kind) || n < 0 || n > logs.size) {
            return NONE;
        }
        logs.know(n);
        logs.tally(kind);
        return logs.lackOn(day, text.manyOf[kind]);
    }

    public int worst(int n) {
        if (n < 0 || n > logs.size) {
            return NONE;
        }
        logs.know(n);
        int most = 0;
        int worst = NOTHING;
        for (int kind = 0; kind < text.kinds; kind++) {
            logs.tally(kind);
            int sum = 0;
            for (int day = 0; day < DAYS; day++) {
                sum += logs.lackOn(day, text.manyOf[kind]);
            }
            if (sum > most) {
                most = sum;
                worst = kind;
            }
        }
        return worst;
    }

    // ---- V. Pages, Tuesday's frame, slots

    public int page(int f, int page, int what) {
        if (f < 0 || f > MOST_FOLDS || page < 0 || page >= 2 << f) {
            return NONE;
        }
        int spot = spotOf(f, page);
        switch (what) {
            case 0:
                return spot & 7;
            case 1:
                return spot >> 3 & 7;
            case 2:
                return spot >> 6 & 1;
            case 3:
                return spot >> 7;
            default:
                return NONE;
        }
    }

    /**
     * Where a PAGE lies on the sheet: column + 8 * row + 64 * side + 128 if it is upside down. The folds are
     * undone from the last to the first: what was moved by one lies in the lower half of the leaves, mirrored.
     */
    private static int spotOf(int f, int page) {
        int leaf = page / 2;
        int column = 0;
        int row = 0;
        int columns = 1;
        int rows = 1;
        int side = page % 2;
        int upsideDown = 0;
        for (int fold = f; fold >= 1; fold--) {
            boolean alongFold = fold % 2 == 1;
            columns = alongFold ? 2 * columns : columns;
            rows = alongFold ? rows : 2 * rows;
            int leaves = 1 << fold;
            if (leaf >= leaves / 2) {
                leaf = leaves - 1 - leaf;
                side = 1 - side;
                if (alongFold) {
                    column = columns - 1 - column;
                } else {
                    row = rows - 1 - row;
                    upsideDown = 1 - upsideDown;
                }
            }
        }
        return column + 8 * row + 64 * side + 128 * upsideDown;
    }

    public int lies(int f, int column, int row, int side) {
        if (f < 0 || f > MOST_FOLDS || column < 0 || row < 0 || side < 0 || side > 1
                || column >= 1 << (f + 1) / 2 || row >= 1 << f / 2) {
            return NONE;
        }
        for (int page = 0; page < 2 << f; page++) {
            if ((spotOf(f, page) & 127) == column + 8 * row + 64 * side) {
                return page;
            }
        }
        return NONE;
    }

    public int tuesday(int slot, int what) {
        if (!isSlot(slot) || what < 0 || what > 2 || !slots[slot].isHeld) {
            return NONE;
        }
        int stay = bed.alikeIn(slots[slot], NONE);
        if (what == 0) {
            return stay;
        }
        int moved = 0;
        for (int kind = 0; kind < MOST_KINDS; kind++) {
            moved += Math.min(bed.countOf(kind), slots[slot].countOf(kind)) - bed.alikeIn(slots[slot], kind);
        }
        return what == 1 ? moved : slots[slot].things - stay - moved;
    }

    private static boolean isSlot(int slot) {
        return slot >= 0 && slot < MOST_SLOTS;
    }

    public boolean hold(int slot) {
        if (!isSlot(slot)) {
            return false;
        }
        slots[slot].copyFrom(bed);
        slots[slot].isHeld = true;
        slots[slot].textNumber = texts;
        return true;
    }

    public boolean again(int slot) {
        if (!isSlot(slot) || !slots[slot].isHeld || slots[slot].textNumber != texts) {
            return false;
        }
        bed.copyFrom(slots[slot]);
        layingChanged();
        return true;
    }

    public int count(int what) {
        switch (what) {
            case 0:
                return text.kinds;
            case 1:
                return text.wedges;
            case 2:
                return text.rules;
            case 3:
                return bed.things;
            case 4:
                return logs.size;
            case 5:
                return taped;
            case 6:
                return Integer.bitCount(bed.tight);
            case 7:
                return heldSlots();
            case 8:
                return text.wide;
            case 9:
                return text.high;
            case 10:
                return text.enough;
            default:
                return what >= 20 && text.hasKind(what - 20) ? bed.leftOf(text, what - 20) : NONE;
        }
    }

    private int heldSlots() {
        int many = 0;
        for (int slot = 0; slot < MOST_SLOTS; slot++) {
            if (slots[slot].isHeld) {
                many++;
            }
        }
        return many;
    }

    /** The points from .. to - 1 of a side or line, a bit each. */
    private static long span(int from, int to) {
        if (from < 0 || to > MOST_POINTS || from >= to) {
            return 0;
        }
        return (1L << to) - (1L << from);
    }

    /** The TOKENS of a tape, up to the first that is none, or to the one that is too many. */
    private static final class Tokens {
        static final int MOST = 400;

        static final int END = 0;
        static final int BAD = 1;
        static final int NAME = 2;
        static final int INT = 3;
        static final int SEMICOLON = 4;
        static final int BECOMES = 5;
        static final int PLUS = 6;
        static final int MINUS = 7;
        static final int TIMES = 8;
        static final int OVER = 9;
        static final int EQUAL = 10;
        static final int UNEQUAL = 11;
        static final int BELOW = 12;
        static final int UP_TO = 13;
        static final int OPEN = 14;
        static final int CLOSE = 15;
        // The words follow in the row in which WORDS has them, the nine VARS first.
        static final int FIRST_VAR = 16;
        static final int VARS = 9;
        static final int WOOD = 23;
        static final int ROUND = 24;
        static final int FRAME = 25;
        static final int BLOCK = 26;
        static final int PIECE = 27;
        static final int WEDGE = 28;
        // The four sides, in the row of the sides' numbers.
        static final int FIRST_SIDE = 29;
        static final int ENOUGH = 33;
        static final int GIVE = 34;
        static final int RULE = 35;
        static final int IF = 36;
        static final int OR = 37;
        static final int AND = 38;
        static final int NOT = 39;

        private static final int LETTERS = 8;
        private static final int DIGITS = 4;
        private static final String WORDS =
                "x y wide high touch held push wood round frame block piece wedge north east south west enough give rule if or and not ";

        final int[] type = new int[MOST + 1];
        final int[] place = new int[MOST + 1];
        /** An INT's value; a NAME's letters as one number. */
        final long[] value = new long[MOST + 1];

        private byte[] bytes;
        private int length;

        void scan(byte[] tape, int taped) {
            bytes = tape;
            length = Math.min(taped, tape.length);
            int from = 0;
            for (int i = 0; i <= MOST; i++) {
                from = behindBlanks(from);
                place[i] = from;
                value[i] = 0;
                from = scanOne(i, from);
                if (type[i] == END || type[i] == BAD) {
                    return;
                }
            }
        }

        private int behindBlanks(int from) {
            int i = from;
            while (i < length && isBlank(bytes[i])) {
                i++;
            }
            return i;
        }

        private static boolean isBlank(int c) {
            return c == 9 || c == 10 || c == 13 || c == 32;
        }

        /** Puts the TOKEN at from into row i; answers the place behind it. */
        private int scanOne(int i, int from) {
            if (from < 0 || from >= length) {
                type[i] = END;
                return from;
            }
            if (isLetter(bytes[from])) {
                return scanWord(i, from);
            }
            if (isDigit(bytes[from])) {
                return scanInt(i, from);
            }
            boolean doubled = from + 1 < length && bytes[from + 1] == '=';
            type[i] = signOf(bytes[from], doubled);
            return type[i] >= EQUAL && type[i] <= UP_TO && type[i] != BELOW ? from + 2 : from + 1;
        }

        private static boolean isLetter(int c) {
            return c >= 'a' && c <= 'z';
        }

        private static boolean isDigit(int c) {
            return c >= '0' && c <= '9';
        }

        private int scanWord(int i, int from) {
            int to = from;
            while (to < length && isLetter(bytes[to])) {
                // Of a longer one the first letters go out at the top, but it is no NAME.
                value[i] = value[i] << 5 | bytes[to] - 'a' + 1;
                to++;
            }
            if (to - from > LETTERS) {
                type[i] = BAD;
                return to;
            }
            int word = wordOf(from, to);
            type[i] = word == NONE ? NAME : FIRST_VAR + word;
            return to;
        }

        /** Which of WORDS these bytes are. */
        private int wordOf(int from, int to) {
            int word = 0;
            int next = from;
            boolean isSame = true;
            for (int i = 0; i < WORDS.length(); i++) {
                char letter = WORDS.charAt(i);
                if (letter != ' ') {
                    isSame = isSame && next < to && next < length && bytes[next] == letter;
                    next++;
                } else if (isSame && next == to) {
                    return word;
                } else {
                    word++;
                    next = from;
                    isSame = true;
                }
            }
            return NONE;
        }

        private int scanInt(int i, int from) {
            int to = from;
            while (to < length && isDigit(bytes[to])) {
                value[i] = 10 * value[i] + bytes[to] - '0';
                to++;
            }
            type[i] = to - from > DIGITS ? BAD : INT;
            return to;
        }

        /** The sign that c begins; doubled if = stands behind it. */
        private static int signOf(int c, boolean doubled) {
            switch (c) {
                case ';':
                    return SEMICOLON;
                case '+':
                    return PLUS;
                case '-':
                    return MINUS;
                case '*':
                    return TIMES;
                case '/':
                    return OVER;
                case '(':
                    return OPEN;
                case ')':
                    return CLOSE;
                case '=':
                    return doubled ? EQUAL : BECOMES;
                case '!':
                    return doubled ? UNEQUAL : BAD;
                case '<':
                    return doubled ? UP_TO : BELOW;
                default:
                    return BAD;
            }
        }
    }

    /** What a text tells. */
    private static final class Text {
        static final int BLOCK = 0;
        static final int PIECE = 1;
        static final int WOODEN = 2;
        static final int ROUND = 3;
        /** In code, a number n stands as this and n more. */
        static final int NUMBER = 1000;

        int wide;
        int high;
        int enough;

        int kinds;
        final long[] nameOf = new long[MOST_KINDS];
        final int[] sortOf = new int[MOST_KINDS];
        final int[] wideOf = new int[MOST_KINDS];
        final int[] highOf = new int[MOST_KINDS];
        final int[] manyOf = new int[MOST_KINDS];

        int wedges;
        final int[] sideOf = new int[MOST_WEDGES];
        /** The points that a WEDGE reaches, a bit each. */
        final long[] reachOf = new long[MOST_WEDGES];

        /** GIVE and the RULES, each operator behind its two parts, as TOKENS' types. */
        final int[] code = new int[Tokens.MOST];
        int codes;
        int giveFrom;
        int giveTo;
        int rules;
        final int[] ruleFrom = new int[MOST_RULES];
        final int[] ruleTo = new int[MOST_RULES];

        Text() {
            clear();
        }

        void clear() {
            wide = MOST_POINTS;
            high = MOST_POINTS;
            enough = 50;
            kinds = 0;
            wedges = 0;
            codes = 0;
            giveFrom = 0;
            giveTo = 0;
            rules = 0;
        }

        boolean hasKind(int kind) {
            return kind >= 0 && kind < kinds;
        }

        boolean isPiece(int kind) {
            return hasKind(kind) && sortOf[kind] != BLOCK;
        }

        void addCode(int op) {
            if (codes < code.length) {
                code[codes] = op;
                codes++;
            }
        }

        /** The WEDGES of a side, a bit each. */
        int wedgesAt(int side) {
            int set = 0;
            for (int i = 0; i < wedges; i++) {
                if (sideOf[i] == side) {
                    set |= 1 << i;
                }
            }
            return set;
        }

        /** The points of a side that some of these WEDGES reach. */
        long reachAt(int side, int tight) {
            long reach = 0;
            for (int i = 0; i < wedges; i++) {
                if (sideOf[i] == side && (tight >> i & 1) == 1) {
                    reach |= reachOf[i];
                }
            }
            return reach;
        }
    }

    /** Reads a tape into a text and finds its FAULT. */
    private static final class Reader {
        private static final int SYNTAX = 1;
        private static final int ROOM = 2;
        private static final int TWICE = 3;
        private static final int WRONG = 5;
        private static final int MOST_OPEN = 6;
        private static final int MOST_INT = 9999;

        int fault;
        int faultPlace;

        private final Tokens tokens = new Tokens();
        private Text text;
        private int next;
        // TWICE and WRONG count only in a text without the others, so the first of them waits here.
        private int lateFault;
        private int latePlace;
        // The operators and ( of an E whose right part is not read yet.
        private final int[] waiting = new int[4 * MOST_OPEN + 4];
        private int waits;

        void parse(byte[] tape, int taped, Text into) {
            tokens.scan(tape, taped);
            text = into;
            text.clear();
            next = 0;
            fault = 0;
            faultPlace = NONE;
            lateFault = 0;
            for (int tells = 0; tells <= Tokens.MOST && fault == 0 && type() != Tokens.END; tells++) {
                parseTell();
            }
            if (fault == 0 && lateFault != 0) {
                fault = lateFault;
                faultPlace = latePlace;
            }
        }

        private int type() {
            return next < tokens.type.length ? tokens.type[next] : Tokens.END;
        }

        private long value() {
            return next < tokens.value.length ? tokens.value[next] : 0;
        }

        private int placeOfNext() {
            return next < tokens.place.length ? tokens.place[next] : 0;
        }

        private void fail(int number, int place) {
            if (fault == 0) {
                fault = number;
                faultPlace = place;
            }
        }

        private void blame(int number, int place) {
            if (lateFault == 0) {
                lateFault = number;
                latePlace = place;
            }
        }

        /** Goes behind the next TOKEN, if it is of this type; else that is the FAULT. */
        private boolean pass(int type) {
            if (fault != 0) {
                return false;
            }
            if (type() != type) {
                fail(SYNTAX, placeOfNext());
                return false;
            }
            if (next >= Tokens.MOST) {
                fail(ROOM, placeOfNext());
                return false;
            }
            next++;
            return true;
        }

        private void parseTell() {
            int type = type();
            if (type == Tokens.FRAME) {
                parseFrame();
            } else if (type == Tokens.BLOCK || type == Tokens.PIECE) {
                parseKind(type);
            } else if (type == Tokens.WEDGE) {
                parseWedge();
            } else if (type == Tokens.ENOUGH) {
                pass(type);
                text.enough = parseInt(1, 100);
            } else if (type == Tokens.GIVE) {
                parseGive();
            } else if (type == Tokens.RULE) {
                parseRule();
            } else {
                fail(SYNTAX, placeOfNext());
            }
            pass(Tokens.SEMICOLON);
        }

        /** An INT; WRONG if it is not within these two. */
        private int parseInt(int least, int most) {
            int value = (int) value();
            int place = placeOfNext();
            if (pass(Tokens.INT) && (value < least || value > most)) {
                blame(WRONG, place);
            }
            return value;
        }

        private void parseFrame() {
            pass(Tokens.FRAME);
            text.wide = parseInt(1, MOST_POINTS);
            text.high = parseInt(1, MOST_POINTS);
        }

        private void parseKind(int type) {
            int kind = text.kinds;
            if (kind >= MOST_KINDS) {
                fail(ROOM, placeOfNext());
                return;
            }
            pass(type);
            text.sortOf[kind] = type == Tokens.BLOCK ? Text.BLOCK : Text.PIECE;
            if (type == Tokens.PIECE && (type() == Tokens.WOOD || type() == Tokens.ROUND)) {
                text.sortOf[kind] = type() == Tokens.WOOD ? Text.WOODEN : Text.ROUND;
                pass(type());
            }
            parseName();
            text.wideOf[kind] = parseInt(1, MOST_POINTS);
            text.highOf[kind] = parseInt(1, MOST_POINTS);
            text.manyOf[kind] = type == Tokens.PIECE ? parseInt(0, 99) : 1;
            text.kinds++;
        }

        private void parseName() {
            int place = placeOfNext();
            long name = value();
            if (!pass(Tokens.NAME) || text.kinds >= MOST_KINDS) {
                return;
            }
            for (int i = 0; i < text.kinds; i++) {
                if (text.nameOf[i] == name) {
                    blame(TWICE, place);
                }
            }
            text.nameOf[text.kinds] = name;
        }

        private void parseWedge() {
            int wedge = text.wedges;
            if (wedge >= MOST_WEDGES) {
                fail(ROOM, placeOfNext());
                return;
            }
            pass(Tokens.WEDGE);
            int side = type() - Tokens.FIRST_SIDE;
            if (!isSide(side)) {
                fail(SYNTAX, placeOfNext());
                return;
            }
            pass(type());
            int from = parseInt(0, MOST_INT);
            int to = parseInt(from + 1, MOST_POINTS);
            text.sideOf[wedge] = side;
            text.reachOf[wedge] = span(from, to);
            text.wedges++;
        }

        private void parseGive() {
            pass(Tokens.GIVE);
            pass(Tokens.BECOMES);
            text.giveFrom = text.codes;
            parseExpression();
            text.giveTo = text.codes;
        }

        private void parseRule() {
            int rule = text.rules;
            if (rule >= MOST_RULES) {
                fail(ROOM, placeOfNext());
                return;
            }
            pass(Tokens.RULE);
            pass(Tokens.IF);
            text.ruleFrom[rule] = text.codes;
            parseCondition();
            text.ruleTo[rule] = text.codes;
            text.rules++;
        }

        private void parseCondition() {
            boolean behindOr = false;
            boolean behindAnd = false;
            for (int i = 0; i <= Tokens.MOST && fault == 0; i++) {
                boolean isTurnedOver = passNots();
                parseExpression();
                int sign = type();
                pass(sign >= Tokens.EQUAL && sign <= Tokens.UP_TO ? sign : Tokens.EQUAL);
                parseExpression();
                text.addCode(sign);
                if (isTurnedOver) {
                    text.addCode(Tokens.NOT);
                }
                if (behindAnd) {
                    text.addCode(Tokens.AND);
                }
                behindAnd = type() == Tokens.AND;
                if (!behindAnd && behindOr) {
                    text.addCode(Tokens.OR);
                }
                if (!behindAnd && type() != Tokens.OR) {
                    return;
                }
                behindOr = behindOr || !behindAnd;
                pass(type());
            }
        }

        /** Goes behind all nots of a LIT; answers whether they turn it over. */
        private boolean passNots() {
            boolean isTurnedOver = false;
            for (int i = 0; i <= Tokens.MOST && fault == 0 && type() == Tokens.NOT; i++) {
                pass(Tokens.NOT);
                isTurnedOver = !isTurnedOver;
            }
            return isTurnedOver;
        }

        /** An E, up to the first TOKEN that can't go on with it: what may follow, the caller knows. */
        private void parseExpression() {
            int open = 0;
            boolean unitIsDue = true;
            waits = 0;
            for (int i = 0; i <= Tokens.MOST && fault == 0; i++) {
                int type = type();
                if (unitIsDue && type == Tokens.OPEN) {
                    if (open >= MOST_OPEN) {
                        fail(ROOM, placeOfNext());
                    }
                    open++;
                    await(type);
                } else if (unitIsDue) {
                    text.addCode(type == Tokens.INT ? Text.NUMBER + (int) value() : type);
                    unitIsDue = false;
                    type = isVar(type) ? type : Tokens.INT;
                } else if (rankOf(type) > 0) {
                    release(rankOf(type));
                    await(type);
                    unitIsDue = true;
                } else {
                    release(1);
                    if (open == 0) {
                        return;
                    }
                    type = Tokens.CLOSE;
                    waits = Math.max(0, waits - 1);
                    open--;
                }
                pass(type);
            }
        }

        private static boolean isVar(int type) {
            return type >= Tokens.FIRST_VAR && type < Tokens.FIRST_VAR + Tokens.VARS;
        }

        /** How strongly an operator binds; 0 for all else. */
        private static int rankOf(int type) {
            if (type == Tokens.TIMES || type == Tokens.OVER) {
                return 2;
            }
            return type == Tokens.PLUS || type == Tokens.MINUS ? 1 : 0;
        }

        private void await(int type) {
            if (waits >= 0 && waits < waiting.length) {
                waiting[waits] = type;
                waits++;
            }
        }

        /** Puts into code what waits, back to the last ( , and binds at least so strongly. */
        private void release(int rank) {
            while (waits > 0 && waits <= waiting.length && rankOf(waiting[waits - 1]) >= rank) {
                text.addCode(waiting[waits - 1]);
                waits--;
            }
        }
    }

    /** THINGS that lie, or that a SLOT holds, and which WEDGES are tight. */
    private static final class Bed {
        int things;
        final int[] kind = new int[MOST_THINGS];
        final int[] sort = new int[MOST_THINGS];
        final int[] x = new int[MOST_THINGS];
        final int[] y = new int[MOST_THINGS];
        final int[] wide = new int[MOST_THINGS];
        final int[] high = new int[MOST_THINGS];
        final boolean[] turned = new boolean[MOST_THINGS];
        int tight;
        // These two are a SLOT's alone.
        boolean isHeld;
        int textNumber;

        boolean has(int thing) {
            return thing >= 0 && thing < things;
        }

        /** All THINGS, a bit each. */
        long everything() {
            return (1L << things) - 1;
        }

        void add(int itsKind, int itsSort, int itsX, int itsY, int itsWide, int itsHigh, boolean itsTurn) {
            if (things < MOST_THINGS) {
                kind[things] = itsKind;
                sort[things] = itsSort;
                x[things] = itsX;
                y[things] = itsY;
                wide[things] = itsWide;
                high[things] = itsHigh;
                turned[things] = itsTurn;
                things++;
            }
        }

        void remove(int thing) {
            if (!has(thing)) {
                return;
            }
            int last = things - 1;
            things = thing;
            for (int i = thing + 1; i <= last; i++) {
                add(kind[i], sort[i], x[i], y[i], wide[i], high[i], turned[i]);
            }
        }

        void copyFrom(Bed other) {
            things = 0;
            for (int i = 0; i < other.things; i++) {
                add(other.kind[i], other.sort[i], other.x[i], other.y[i], other.wide[i], other.high[i],
                        other.turned[i]);
            }
            tight = other.tight;
        }

        int countOf(int ofKind) {
            int many = 0;
            for (int i = 0; i < things; i++) {
                if (kind[i] == ofKind) {
                    many++;
                }
            }
            return many;
        }

        int leftOf(Text text, int ofKind) {
            return text.hasKind(ofKind) ? text.manyOf[ofKind] - countOf(ofKind) : 0;
        }

        boolean isCovered(int fromX, int fromY, int itsWide, int itsHigh) {
            for (int i = 0; i < things; i++) {
                if (fromX < x[i] + wide[i] && x[i] < fromX + itsWide
                        && fromY < y[i] + high[i] && y[i] < fromY + itsHigh) {
                    return true;
                }
            }
            return false;
        }

        int lyingOn(int pointX, int pointY) {
            for (int i = 0; i < things; i++) {
                if (pointX >= x[i] && pointX < x[i] + wide[i] && pointY >= y[i] && pointY < y[i] + high[i]) {
                    return i;
                }
            }
            return NOTHING;
        }

        int area() {
            int points = 0;
            for (int i = 0; i < things; i++) {
                points += wide[i] * high[i];
            }
            return points;
        }

        /** How far two THINGS stand beside one another from west to east; 0 if they only meet, below 0 if not that. */
        int sharedAcross(int one, int other) {
            return Math.min(x[one] + wide[one], x[other] + wide[other]) - Math.max(x[one], x[other]);
        }

        int sharedAlong(int one, int other) {
            return Math.min(y[one] + high[one], y[other] + high[other]) - Math.max(y[one], y[other]);
        }

        /** Along how many points two THINGS TOUCH, as they count. */
        int contact(int one, int other) {
            int across = sharedAcross(one, other);
            int along = sharedAlong(one, other);
            if (Math.min(across, along) != 0) {
                return 0;
            }
            int points = Math.max(across, along);
            boolean soft = sort[one] == Text.WOODEN || sort[other] == Text.WOODEN;
            return soft ? points / 2 : points;
        }

        boolean isOnFrame(Text text, int thing, int side) {
            switch (side) {
                case NORTH:
                    return y[thing] == 0;
                case EAST:
                    return x[thing] + wide[thing] == text.wide;
                case SOUTH:
                    return y[thing] + high[thing] == text.high;
                default:
                    return x[thing] == 0;
            }
        }

        /** How many of these points of the FRAME's side a THING touches, as they count. */
        int frameContact(Text text, int thing, int side, long points) {
            if (!isOnFrame(text, thing, side)) {
                return 0;
            }
            long own = side == NORTH || side == SOUTH
                    ? span(x[thing], x[thing] + wide[thing]) : span(y[thing], y[thing] + high[thing]);
            int many = Long.bitCount(own & points);
            return sort[thing] == Text.WOODEN ? many / 2 : many;
        }

        /**
         * The points of a line on which sides of THINGS lie, a bit each. No THING can reach over such a point:
         * it would lap on the one whose side that is.
         */
        long sidesOn(boolean along, int line) {
            long points = 0;
            for (int i = 0; i < things; i++) {
                if (along && (x[i] == line || x[i] + wide[i] == line)) {
                    points |= span(y[i], y[i] + high[i]);
                }
                if (!along && (y[i] == line || y[i] + high[i] == line)) {
                    points |= span(x[i], x[i] + wide[i]);
                }
            }
            return points;
        }

        /** How many THINGS of a KIND (NONE: of all) lie in the other one just so. */
        int alikeIn(Bed other, int ofKind) {
            int many = 0;
            for (int i = 0; i < things; i++) {
                if ((ofKind == NONE || kind[i] == ofKind) && other.hasAlike(kind[i], x[i], y[i], turned[i])) {
                    many++;
                }
            }
            return many;
        }

        private boolean hasAlike(int itsKind, int itsX, int itsY, boolean itsTurn) {
            for (int i = 0; i < things; i++) {
                if (kind[i] == itsKind && x[i] == itsX && y[i] == itsY && turned[i] == itsTurn) {
                    return true;
                }
            }
            return false;
        }
    }

    /** Pairs of THINGS that touch one behind the other, in the row of where they touch. */
    private static final class Contacts {
        // A map of rectangles that touch along a side is planar: 3 * 40 - 6 pairs at most.
        private static final int MOST = 3 * MOST_THINGS;

        int pairs;
        /** The western (northern) one of a pair. */
        final int[] before = new int[MOST];
        /** The eastern (southern) one. */
        final int[] behind = new int[MOST];
        final int[] points = new int[MOST];
        private final int[] where = new int[MOST];

        void add(int first, int second, int along, int line) {
            if (pairs >= MOST) {
                return;
            }
            int i = pairs;
            while (i > 0 && where[i - 1] > line) {
                before[i] = before[i - 1];
                behind[i] = behind[i - 1];
                points[i] = points[i - 1];
                where[i] = where[i - 1];
                i--;
            }
            before[i] = first;
            behind[i] = second;
            points[i] = along;
            where[i] = line;
            pairs++;
        }

        /** The pair that is i-th if one goes from this side to the other. */
        int pairFrom(int side, int i) {
            return side == NORTH || side == WEST ? i : pairs - 1 - i;
        }

        /** The one of a pair that is nearer to this side. */
        int nearer(int side, int pair) {
            return side == NORTH || side == WEST ? before[pair] : behind[pair];
        }

        int farther(int side, int pair) {
            return side == NORTH || side == WEST ? behind[pair] : before[pair];
        }
    }

    /** What is PUSHED, BORNE and HELD, what drops, and what is kept; sets of THINGS have a bit each. */
    private static final class Pushes {
        long heldAcross;
        long heldAlong;
        /** The ROUND in which a THING drops, or 0; how many drop in a ROUND (0: in all). */
        final int[] droppedIn = new int[MOST_THINGS];
        final int[] roundSize = new int[MOST_THINGS + 1];

        private Text text;
        private Bed bed;
        private final Contacts across = new Contacts();
        private final Contacts along = new Contacts();
        private long roundOnes;
        private final int[] support = new int[MOST_THINGS];
        private final long[][] pushedBySet = new long[SIDES][1 << MOST_WEDGES];
        // What each THING KEEPS; NONE: not worked out yet.
        private final int[] kept = new int[MOST_THINGS];
        private boolean isLifted;
        private int layingsSeen = NONE;
        private int changesSeen = NONE;

        void look(Text now, Bed lying, int layings, int changes) {
            text = now;
            bed = lying;
            if (layingsSeen != layings) {
                layingsSeen = layings;
                findContacts();
            }
            if (changesSeen != changes) {
                changesSeen = changes;
                isLifted = false;
                Arrays.fill(kept, NONE);
            }
        }

        private void findContacts() {
            across.pairs = 0;
            along.pairs = 0;
            roundOnes = 0;
            for (int i = 0; i < bed.things; i++) {
                if (bed.sort[i] == Text.ROUND) {
                    roundOnes |= 1L << i;
                }
                for (int j = 0; j < bed.things; j++) {
                    boolean isWestern = bed.x[i] + bed.wide[i] == bed.x[j];
                    boolean isNorthern = bed.y[i] + bed.high[i] == bed.y[j];
                    int points = isWestern || isNorthern ? bed.contact(i, j) : 0;
                    if (points > 0 && isWestern) {
                        across.add(i, j, points, bed.x[j]);
                    } else if (points > 0) {
                        along.add(i, j, points, bed.y[j]);
                    }
                }
            }
        }

        Contacts contactsTo(int side) {
            return side == NORTH || side == SOUTH ? along : across;
        }

        /** Along how many points a THING is touched in all, as they count. */
        int touchOf(int thing) {
            int points = 0;
            for (int side = 0; side < SIDES; side++) {
                points += bed.frameContact(text, thing, side, span(0, MOST_POINTS));
                Contacts contacts = contactsTo(side);
                for (int i = 0; i < contacts.pairs; i++) {
                    if (contacts.farther(side, i) == thing) {
                        points += contacts.points[i];
                    }
                }
            }
            return points;
        }

        long pushedFrom(int side, long lying, int tight) {
            return spread(side, lying, text.reachAt(side, tight));
        }

        long borneAt(int side, long lying) {
            return spread(side, lying, span(0, MOST_POINTS));
        }

        /**
         * Those of lying that get enough from these points of the FRAME's side, or from others that do. Who stands
         * nearer to the side is done with before it is asked for, since the pairs go in the row of their lines.
         */
        private long spread(int side, long lying, long points) {
            Contacts contacts = contactsTo(side);
            int[] extent = side == NORTH || side == SOUTH ? bed.wide : bed.high;
            for (int i = 0; i < bed.things; i++) {
                support[i] = bitOf(lying, i) == 1 ? bed.frameContact(text, i, side, points) : 0;
            }
            for (int i = 0; i < contacts.pairs; i++) {
                int pair = contacts.pairFrom(side, i);
                int from = contacts.nearer(side, pair);
                if (bitOf(lying, from) == 1 && isEnough(support[from], extent[from])) {
                    support[contacts.farther(side, pair)] += contacts.points[pair];
                }
            }
            long found = 0;
            for (int i = 0; i < bed.things; i++) {
                if (bitOf(lying, i) == 1 && isEnough(support[i], extent[i])) {
                    found |= 1L << i;
                }
            }
            return found;
        }

        private boolean isEnough(int points, int extent) {
            return 100 * points >= text.enough * extent;
        }

        /** Those of lying that are HELD if nothing else lies. */
        long heldOf(long lying, int tight) {
            heldAcross = pushedFrom(WEST, lying, tight) & borneAt(EAST, lying)
                    | pushedFrom(EAST, lying, tight) & borneAt(WEST, lying);
            heldAlong = pushedFrom(NORTH, lying, tight) & borneAt(SOUTH, lying)
                    | pushedFrom(SOUTH, lying, tight) & borneAt(NORTH, lying);
            return heldOfBoth(heldAcross, heldAlong);
        }

        private long heldOfBoth(long acrossSet, long alongSet) {
            return (acrossSet | alongSet) & ~roundOnes | acrossSet & alongSet & roundOnes;
        }

        void lift() {
            if (isLifted) {
                return;
            }
            isLifted = true;
            Arrays.fill(droppedIn, 0);
            Arrays.fill(roundSize, 0);
            long lying = bed.everything();
            for (int round = 1; round <= MOST_THINGS && lying != 0; round++) {
                long falling = lying & ~heldOf(lying, bed.tight);
                for (int i = 0; i < bed.things; i++) {
                    if (bitOf(falling, i) == 1) {
                        droppedIn[i] = round;
                    }
                }
                roundSize[round] = Long.bitCount(falling);
                roundSize[0] += roundSize[round];
                lying &= ~falling;
                if (falling == 0) {
                    return;
                }
            }
        }

        /** What a THING KEEPS. */
        int keptBy(int thing) {
            if (!bed.has(thing)) {
                return 0;
            }
            if (kept[thing] == NONE) {
                long others = bed.everything() & ~(1L << thing);
                long held = heldOf(bed.everything(), bed.tight);
                kept[thing] = Long.bitCount(held & others & ~heldOf(others, bed.tight));
            }
            return kept[thing];
        }

        /** How many are HELD for every set of tight WEDGES, by the set's bits. */
        void countHeldBySet(int[] heldBySet) {
            int sets = Math.min(1 << text.wedges, heldBySet.length);
            long all = bed.everything();
            for (int side = 0; side < SIDES; side++) {
                int elsewhere = ~text.wedgesAt(side);
                for (int set = 0; set < sets; set++) {
                    // A push from one side is the same whatever is tight at the others.
                    pushedBySet[side][set] = (set & elsewhere) == 0
                            ? pushedFrom(side, all, set) : pushedBySet[side][set & ~elsewhere];
                }
            }
            long north = borneAt(NORTH, all);
            long east = borneAt(EAST, all);
            long south = borneAt(SOUTH, all);
            long west = borneAt(WEST, all);
            for (int set = 0; set < sets; set++) {
                heldBySet[set] = Long.bitCount(heldOfBoth(
                        pushedBySet[WEST][set] & east | pushedBySet[EAST][set] & west,
                        pushedBySet[NORTH][set] & south | pushedBySet[SOUTH][set] & north));
            }
        }
    }

    /** The BEST ORDER of the WEDGES. */
    private static final class Orders {
        // More than can be HELD, so that counts put behind one another compare as one number.
        private static final int STEP = 64;

        final int[] wedge = new int[MOST_WEDGES];
        final int[] heldBehind = new int[MOST_WEDGES];

        private final int[] heldBySet = new int[1 << MOST_WEDGES];
        // For each set of WEDGES that are tight already: the best of what can follow, and by which WEDGE.
        private final long[] bestBehind = new long[1 << MOST_WEDGES];
        private final int[] bestNext = new int[1 << MOST_WEDGES];
        private int layingsSeen = NONE;

        void find(Pushes pushes, int wedges, int layings) {
            if (layingsSeen == layings) {
                return;
            }
            layingsSeen = layings;
            pushes.countHeldBySet(heldBySet);
            int all = (1 << Math.min(wedges, MOST_WEDGES)) - 1;
            bestBehind[all] = 0;
            for (int set = all - 1; set >= 0; set--) {
                chooseNext(set, wedges);
            }
            int set = 0;
            for (int i = 0; i < wedges && i < MOST_WEDGES; i++) {
                wedge[i] = bestNext[set];
                set |= 1 << bestNext[set];
                heldBehind[i] = heldBySet[set];
            }
        }

        private void chooseNext(int set, int wedges) {
            long weight = 1;
            for (int i = Integer.bitCount(set) + 1; i < wedges; i++) {
                weight *= STEP;
            }
            bestBehind[set] = NONE;
            for (int i = 0; i < wedges && i < MOST_WEDGES; i++) {
                int with = set | 1 << i;
                if (with != set) {
                    long value = weight * heldBySet[with] + bestBehind[with];
                    if (value > bestBehind[set]) {
                        bestBehind[set] = value;
                        bestNext[set] = i;
                    }
                }
            }
        }
    }

    /** GIVE and the RULES at work: what THINGS give, shift and bow, and which RULE holds for one. */
    private static final class Laws {
        private static final int TOUCH = 4;
        private static final int HELD = 5;
        private static final int MOST_GIVE = 9;

        final int[] giving = new int[MOST_THINGS];
        /** By side and THING. */
        final int[][] shifts = new int[SIDES][MOST_THINGS];

        private Text text;
        private Bed bed;
        private Pushes pushes;
        private final int[] vars = new int[Tokens.VARS];
        // Two values wait in each of seven E within one another, and ahead of them the left E, an ALL and a COND.
        private final int[] stack = new int[32];
        private int top;
        private boolean dividedByZero;
        private int changesSeen = NONE;

        void weigh(Text now, Bed lying, Pushes its, int changes) {
            if (changesSeen == changes) {
                return;
            }
            changesSeen = changes;
            text = now;
            bed = lying;
            pushes = its;
            for (int i = 0; i < bed.things; i++) {
                measure(i);
                int worth = evaluate(text.giveFrom, text.giveTo);
                giving[i] = dividedByZero ? 0 : Math.max(0, Math.min(MOST_GIVE, worth));
            }
            for (int side = 0; side < SIDES; side++) {
                addUpShifts(side);
            }
        }

        private void addUpShifts(int side) {
            int[] shift = shifts[side];
            Arrays.fill(shift, 0);
            Contacts contacts = pushes.contactsTo(side);
            for (int i = 0; i < contacts.pairs; i++) {
                int pair = contacts.pairFrom(side, i);
                int from = contacts.nearer(side, pair);
                int to = contacts.farther(side, pair);
                shift[to] = Math.max(shift[to], shift[from] + giving[from]);
            }
        }

        int bowOf(int thing, int side) {
            int opposite = (side + 2) % SIDES;
            Contacts contacts = pushes.contactsTo(side);
            int least = 0;
            int most = 0;
            boolean isFirst = true;
            for (int i = 0; i < contacts.pairs; i++) {
                if (contacts.farther(opposite, i) == thing) {
                    int shift = shifts[side][contacts.nearer(opposite, i)];
                    least = isFirst ? shift : Math.min(least, shift);
                    most = isFirst ? shift : Math.max(most, shift);
                    isFirst = false;
                }
            }
            return most - least;
        }

        /** Sets the VARS of a THING for GIVE: touch and held are 0. */
        private void measure(int thing) {
            vars[0] = bed.x[thing];
            vars[1] = bed.y[thing];
            vars[2] = bed.wide[thing];
            vars[3] = bed.high[thing];
            vars[TOUCH] = 0;
            vars[HELD] = 0;
            vars[6] = Integer.bitCount(bed.tight);
            vars[7] = bed.sort[thing] == Text.WOODEN ? 1 : 0;
            vars[8] = bed.sort[thing] == Text.ROUND ? 1 : 0;
        }

        /** Sets the VARS of a THING for the RULES. */
        void describe(int thing, int held) {
            measure(thing);
            vars[TOUCH] = pushes.touchOf(thing);
            vars[HELD] = held;
        }

        /** Whether a RULE holds for the THING that was described. */
        boolean applies(int rule) {
            return evaluate(text.ruleFrom[rule], text.ruleTo[rule]) == 1;
        }

        private int evaluate(int from, int to) {
            top = 0;
            dividedByZero = false;
            for (int i = from; i < to && i < text.code.length; i++) {
                run(text.code[i]);
            }
            return pop();
        }

        private void run(int op) {
            if (op >= Text.NUMBER) {
                push(op - Text.NUMBER);
            } else if (op >= Tokens.FIRST_VAR && op < Tokens.FIRST_VAR + Tokens.VARS) {
                push(vars[op - Tokens.FIRST_VAR]);
            } else if (op == Tokens.NOT) {
                push(1 - pop());
            } else {
                int right = pop();
                int left = pop();
                if (op >= Tokens.EQUAL && op <= Tokens.UP_TO) {
                    push(compares(op, left, right) && !dividedByZero ? 1 : 0);
                    // The next LIT is not to blame for this one.
                    dividedByZero = false;
                } else {
                    push(combine(op, left, right));
                }
            }
        }

        private static boolean compares(int op, int left, int right) {
            switch (op) {
                case Tokens.EQUAL:
                    return left == right;
                case Tokens.UNEQUAL:
                    return left != right;
                case Tokens.BELOW:
                    return left < right;
                default:
                    return left <= right;
            }
        }

        private int combine(int op, int left, int right) {
            switch (op) {
                case Tokens.PLUS:
                    return left + right;
                case Tokens.MINUS:
                    return left - right;
                case Tokens.TIMES:
                    return left * right;
                case Tokens.AND:
                    return left & right;
                case Tokens.OR:
                    return left | right;
                default:
                    if (right == 0) {
                        dividedByZero = true;
                        return 0;
                    }
                    return left / right;
            }
        }

        private void push(int value) {
            if (top >= 0 && top < stack.length) {
                stack[top] = value;
                top++;
            }
        }

        private int pop() {
            if (top <= 0 || top > stack.length) {
                return 0;
            }
            top--;
            return stack[top];
        }
    }

    /** LINES filled from the drawer. */
    private static final class LineFiller {
        private static final int IMPOSSIBLE = 1000000;

        /** Of the LINE that was solved: how many PIECES and cards, and how many of these are cards. */
        int fewest;
        int cards;
        /** Of the KIND that was asked for: how many of it. */
        int asTold;
        int turned;

        // The fewest PIECES of a KIND and those behind it that are as long as a LINE, by KIND and points.
        private final int[][] pieces = new int[MOST_KINDS + 1][LONGEST_LINE + 1];
        private final int[] layer = new int[LONGEST_LINE + 1];
        private final int[] left = new int[MOST_KINDS];
        private Text text;
        private int layingsSeen = NONE;

        void prepare(Text now, Bed bed, int layings) {
            if (layingsSeen == layings) {
                return;
            }
            layingsSeen = layings;
            text = now;
            Arrays.fill(pieces[text.kinds], IMPOSSIBLE);
            pieces[text.kinds][0] = 0;
            for (int kind = text.kinds - 1; kind >= 0; kind--) {
                left[kind] = text.isPiece(kind) ? bed.leftOf(text, kind) : 0;
                addKind(kind);
            }
        }

        /** Lays one PIECE of the KIND more on the best of exactly so many of it, as long as there are some. */
        private void addKind(int kind) {
            int[] best = pieces[kind];
            int first = text.wideOf[kind];
            int second = text.highOf[kind];
            int shorter = Math.min(first, second);
            if (shorter < 1) {
                return;
            }
            System.arraycopy(pieces[kind + 1], 0, best, 0, best.length);
            System.arraycopy(pieces[kind + 1], 0, layer, 0, layer.length);
            int most = Math.min(left[kind], LONGEST_LINE / shorter);
            for (int many = 1; many <= most; many++) {
                boolean isBetter = false;
                // Shorter LINES than these many can't be had any more, and stay so.
                for (int n = LONGEST_LINE; n >= (many - 1) * shorter; n--) {
                    int less = n >= first ? layer[n - first] : IMPOSSIBLE;
                    int other = n >= second ? layer[n - second] : IMPOSSIBLE;
                    layer[n] = Math.min(IMPOSSIBLE, Math.min(less, other) + 1);
                    if (layer[n] < best[n]) {
                        best[n] = layer[n];
                        isBetter = true;
                    }
                }
                // If one more were better for a LINE, these many were better for that LINE less this PIECE.
                if (!isBetter) {
                    return;
                }
            }
        }

        boolean solve(int n, int c) {
            fewest = IMPOSSIBLE;
            cards = 0;
            for (int i = 0; i <= c && i <= n && n <= LONGEST_LINE; i++) {
                if (pieces[0][n - i] + i < fewest) {
                    fewest = pieces[0][n - i] + i;
                    cards = i;
                }
            }
            return fewest < IMPOSSIBLE;
        }

        /** The greatest n, to this one, that can be filled with c cards. */
        int greatestTo(int n, int c) {
            for (int m = Math.min(n, LONGEST_LINE); m > 0; m--) {
                if (pieces[0][m] < IMPOSSIBLE) {
                    return Math.min(n, m + c);
                }
            }
            return Math.min(n, c);
        }

        /** How many PIECES of a KIND lie in n points that can be filled; the KINDS ahead take theirs first. */
        void shareOut(int n, int ofKind) {
            int rest = n;
            for (int kind = 0; kind <= ofKind && kind < text.kinds; kind++) {
                rest = giveShare(kind, rest);
            }
        }

        /** Gives a KIND its share of n points; answers how many are left to those behind it. */
        private int giveShare(int kind, int n) {
            asTold = 0;
            turned = 0;
            int first = text.wideOf[kind];
            int second = text.highOf[kind];
            if (n < 0 || n > LONGEST_LINE) {
                return n;
            }
            for (int many = Math.min(left[kind], pieces[kind][n]); many > 0; many--) {
                for (int told = many; told >= 0; told--) {
                    int rest = n - told * first - (many - told) * second;
                    if (rest >= 0 && rest <= n && pieces[kind + 1][rest] + many == pieces[kind][n]) {
                        asTold = told;
                        turned = many - told;
                        return rest;
                    }
                }
            }
            return n;
        }
    }

    /** GAPS filled by ROWS. */
    private static final class GapFiller {
        private static final int IMPOSSIBLE = 1000000;

        /** Of the KIND that was asked for: how many ROWS of it. */
        int asTold;
        int turned;

        // The fewest PIECES of a KIND and those behind it that fill so many points from north to south.
        private final int[][] pieces = new int[MOST_KINDS + 1][MOST_POINTS + 1];
        private final int[] left = new int[MOST_KINDS];
        // How many PIECES a ROW takes; 0: it can't be.
        private final int[] toldRow = new int[MOST_KINDS];
        private final int[] turnedRow = new int[MOST_KINDS];
        private Text text;
        private int layingsSeen = NONE;
        private int wideSeen;

        void prepare(Text now, Bed bed, int layings, int wide) {
            if (layingsSeen == layings && wideSeen == wide) {
                return;
            }
            layingsSeen = layings;
            wideSeen = wide;
            text = now;
            Arrays.fill(pieces[text.kinds], IMPOSSIBLE);
            pieces[text.kinds][0] = 0;
            for (int kind = text.kinds - 1; kind >= 0; kind--) {
                boolean isSquare = text.wideOf[kind] == text.highOf[kind];
                left[kind] = text.isPiece(kind) ? bed.leftOf(text, kind) : 0;
                toldRow[kind] = rowOf(wide, text.wideOf[kind]);
                // As told is the better one of two that are the same.
                turnedRow[kind] = isSquare ? 0 : rowOf(wide, text.highOf[kind]);
                for (int h = 0; h <= MOST_POINTS; h++) {
                    pieces[kind][h] = IMPOSSIBLE;
                    giveShare(kind, h, true);
                }
            }
        }

        private static int rowOf(int wide, int each) {
            return each > 0 && wide % each == 0 ? wide / each : 0;
        }

        /** How many ROWS that take so many PIECES and points each there can be. */
        private static int rowsIn(int pieceCount, int row, int points, int each) {
            return row > 0 && each > 0 ? Math.min(pieceCount / row, points / each) : 0;
        }

        /**
         * Tries all ROWS of a KIND in h points, the better ones of alike ones first: to find out the fewest PIECES,
         * or else those ROWS that need no more. Answers the points left to the KINDS behind it.
         */
        private int giveShare(int kind, int h, boolean isSearch) {
            asTold = 0;
            turned = 0;
            int broad = text.highOf[kind];
            int length = text.wideOf[kind];
            for (int told = rowsIn(left[kind], toldRow[kind], h, broad); told >= 0; told--) {
                int over = left[kind] - told * toldRow[kind];
                int free = h - told * broad;
                for (int more = rowsIn(over, turnedRow[kind], free, length); more >= 0; more--) {
                    int rest = free - more * length;
                    if (rest < 0 || rest > MOST_POINTS) {
                        continue;
                    }
                    int sum = told * toldRow[kind] + more * turnedRow[kind] + pieces[kind + 1][rest];
                    if (isSearch) {
                        pieces[kind][h] = Math.min(pieces[kind][h], sum);
                    } else if (sum == pieces[kind][h]) {
                        asTold = told;
                        turned = more;
                        return rest;
                    }
                }
            }
            return h;
        }

        boolean canFill(int h) {
            return h >= 0 && h <= MOST_POINTS && pieces[0][h] < IMPOSSIBLE;
        }

        int piecesFor(int h) {
            return h >= 0 && h <= MOST_POINTS ? pieces[0][h] : IMPOSSIBLE;
        }

        /** How many ROWS of a KIND lie in h points that can be filled; the KINDS ahead take theirs first. */
        void shareOut(int h, int ofKind) {
            int rest = h;
            for (int kind = 0; kind <= ofKind && kind < text.kinds; kind++) {
                rest = giveShare(kind, rest, false);
            }
        }
    }

    /** LOGS of what was NEEDED and BOUGHT. */
    private static final class Logs {
        static final int NEEDED = 0;
        static final int BOUGHT = 1;
        static final int VOID = 2;
        private static final int MOST = 60;

        int size;
        private final int[] sort = new int[MOST];
        private final int[] day = new int[MOST];
        // Of a VOID: the LOG.
        private final int[] of = new int[MOST];
        private final int[] many = new int[MOST];
        // The LOGS that are some, to those who know so many of them, a bit each.
        private long known;
        private final int[] needed = new int[DAYS];
        private final int[] boughtSoFar = new int[DAYS];

        int add(int itsSort, int itsDay, int whatOf, int howMany) {
            if (size >= MOST) {
                return NONE;
            }
            sort[size] = itsSort;
            day[size] = itsDay;
            of[size] = whatOf;
            many[size] = howMany;
            size++;
            return size - 1;
        }

        boolean canVoid(int log) {
            return log >= 0 && log < size && sort[log] != VOID;
        }

        void know(int n) {
            long voided = 0;
            known = 0;
            for (int i = 0; i < n && i < size; i++) {
                if (sort[i] == VOID) {
                    voided |= 1L << of[i];
                } else {
                    known |= 1L << i;
                }
            }
            known &= ~voided;
        }

        /** Adds up the KNOWN LOGS of a KIND by days. */
        void tally(int kind) {
            Arrays.fill(needed, 0);
            Arrays.fill(boughtSoFar, 0);
            for (int i = 0; i < size; i++) {
                if (bitOf(known, i) == 1 && of[i] == kind) {
                    if (sort[i] == NEEDED) {
                        needed[day[i]] += many[i];
                    } else {
                        boughtSoFar[day[i]] += many[i];
                    }
                }
            }
            for (int i = 1; i < DAYS; i++) {
                boughtSoFar[i] += boughtSoFar[i - 1];
            }
        }

        int lackOn(int itsDay, int has) {
            if (itsDay < 0 || itsDay >= DAYS) {
                return 0;
            }
            return Math.max(0, needed[itsDay] - has - boughtSoFar[itsDay]);
        }
    }
}
