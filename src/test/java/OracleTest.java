import java.util.ArrayList;
import java.util.List;

/** Random runs of calls, each answer held against Plain's. */
public final class OracleTest {
    private final Chance chance;
    private final TypeLock lock = new TypeLock();
    private final Plain plain = new Plain();
    private final String run;
    private int calls;

    private OracleTest(int seed) {
        chance = new Chance(seed);
        run = "run " + seed;
    }

    public static void main(String[] args) {
        int runs = args.length > 1 ? Integer.parseInt(args[1]) : 300;
        for (int seed = 1; seed <= runs && Due.wrongSoFar() < 20; seed++) {
            new OracleTest(seed).run();
        }
        pages();
        Due.end("OracleTest");
    }

    private static void pages() {
        TypeLock lock = new TypeLock();
        for (int f = 0; f <= 4; f++) {
            List<int[]> leaves = Plain.foldedLeaves(f);
            for (int page = 0; page < 2 * leaves.size(); page++) {
                int[] leaf = leaves.get(page / 2);
                int side = page % 2 == 0 ? 1 - leaf[2] : leaf[2];
                Due.due("page column", lock.page(f, page, 0), leaf[0]);
                Due.due("page row", lock.page(f, page, 1), leaf[1]);
                Due.due("page side", lock.page(f, page, 2), side);
                Due.due("page upside down", lock.page(f, page, 3), 1 - leaf[3]);
                Due.due("lies", lock.lies(f, leaf[0], leaf[1], side), page);
            }
            Due.due("no more", lock.page(f, 2 * leaves.size(), 0), -1);
        }
    }

    private void due(String call, long got, long want) {
        calls++;
        Due.due(run + ", call " + calls + ": " + call, got, want);
    }

    private void run() {
        int texts = chance.from(1, 2);
        for (int i = 0; i < texts; i++) {
            tellText();
            int steps = chance.from(5, 60);
            for (int step = 0; step < steps && Due.wrongSoFar() < 20; step++) {
                change();
                for (int asked = chance.below(8); asked > 0; asked--) {
                    ask();
                }
            }
        }
    }

    private void tellText() {
        Teller teller = new Teller(chance);
        int frame = chance.oneIn(5) ? 60 : chance.from(1, 14);
        int kind = chance.oneIn(8) ? 60 : Math.max(1, Math.min(chance.oneIn(4) ? frame : frame / 3, chance.from(1, 8)));
        teller.tellAll(frame, kind);
        if (teller.text().length() > 1950 || tokens(teller.text()) > 400) {
            tellText();
            return;
        }
        due("read " + teller.text(), Due.read(lock, teller.text()), 0);
        plain.tell(teller.told());
    }

    private static int tokens(String text) {
        int tokens = 0;
        char last = ' ';
        for (char c : text.toCharArray()) {
            boolean goesOn = Character.isLetter(c) && Character.isLetter(last)
                    || Character.isDigit(c) && Character.isDigit(last) || c == '=' && "=<!".indexOf(last) >= 0;
            tokens += goesOn || Character.isWhitespace(c) ? 0 : 1;
            last = c;
        }
        return tokens;
    }

    private void change() {
        int what = chance.below(20);
        int things = plain.things.size();
        if (what < 12) {
            laySome();
        } else if (what < 13) {
            int t = chance.from(-1, things);
            boolean is = t >= 0 && t < things;
            due("take(" + t + ")", lock.take(t), is ? things - 1 : -1);
            if (is) {
                plain.things.remove(t);
            }
        } else if (what < 16) {
            int w = chance.from(-1, plain.told.wedges.size());
            boolean on = !chance.oneIn(4);
            boolean is = w >= 0 && w < plain.told.wedges.size();
            due("tight(" + w + ")", lock.tight(w, on) ? 1 : 0, is ? 1 : 0);
            if (is) {
                plain.tight[w] = on;
            }
        } else if (what < 18) {
            logSome();
        } else {
            useSlot();
        }
    }

    private void laySome() {
        int kind = chance.oneIn(20) ? chance.from(-1, 14) : chance.below(Math.max(1, plain.told.kinds.size()));
        boolean turned = chance.oneIn(2);
        int x = chance.from(-1, 61);
        int y = chance.from(-1, 61);
        if (plain.isKind(kind) && !chance.oneIn(8)) {
            int[] spot = spot(kind, turned);
            x = spot[0];
            y = spot[1];
        }
        due("lay(" + kind + ", " + x + ", " + y + ", " + turned + ")", lock.lay(kind, x, y, turned),
                plain.lay(kind, x, y, turned));
    }

    /** Where it would lie close to what lies already. */
    private int[] spot(int kind, boolean turned) {
        int[][] grid = plain.grid(new boolean[40]);
        int w = plain.told.kinds.get(kind)[turned ? 2 : 1];
        int h = plain.told.kinds.get(kind)[turned ? 1 : 2];
        List<int[]> spots = new ArrayList<>();
        int way = chance.below(4);
        for (int i = 0; i < 3600; i++) {
            int a = way % 2 == 0 ? i / 60 : i % 60;
            int b = way % 2 == 0 ? i % 60 : i / 60;
            int x = way < 2 ? a : 59 - a;
            int y = way < 2 ? b : 59 - b;
            boolean free = x + w <= plain.told.wide && y + h <= plain.told.high;
            for (int j = 0; free && j < w * h; j++) {
                free = grid[y + j / w + 1][x + j % w + 1] == 0;
            }
            if (free) {
                spots.add(new int[] {x, y});
            }
        }
        if (spots.isEmpty()) {
            return new int[] {chance.below(60), chance.below(60)};
        }
        return spots.get(chance.oneIn(6) ? chance.below(spots.size()) : 0);
    }

    private void logSome() {
        int size = plain.logs.size();
        if (chance.oneIn(4)) {
            int of = chance.from(-1, size);
            boolean is = of >= 0 && of < size && size < 60 && plain.logs.get(of)[0] != 2;
            due("annul(" + of + ")", lock.annul(of), is ? size : -1);
            if (is) {
                plain.logs.add(new int[] {2, 0, -1, 0, of});
            }
            return;
        }
        int day = chance.oneIn(9) ? chance.from(-1, 100) : chance.below(5);
        int kind = chance.oneIn(9) ? chance.from(-1, 14) : chance.below(4);
        int many = chance.oneIn(9) ? chance.from(-1, 100) : chance.below(chance.oneIn(2) ? 30 : 100);
        boolean bought = chance.oneIn(3);
        boolean is = size < 60 && day >= 0 && day < 100 && kind >= 0 && kind < 14 && many >= 0 && many < 100;
        due("log", lock.log(day, kind, many, bought), is ? size : -1);
        if (is) {
            plain.logs.add(new int[] {bought ? 1 : 0, day, kind, many, -1});
        }
    }

    private void useSlot() {
        int slot = chance.from(-1, 3);
        boolean is = slot >= 0 && slot < 3;
        if (chance.oneIn(2)) {
            due("hold(" + slot + ")", lock.hold(slot) ? 1 : 0, is ? 1 : 0);
            if (is) {
                plain.slots.set(slot, new ArrayList<>(plain.things));
                plain.slotTight[slot] = plain.tight.clone();
                plain.slotText[slot] = plain.texts;
            }
        } else {
            is = is && plain.slots.get(slot) != null && plain.slotText[slot] == plain.texts;
            due("again(" + slot + ")", lock.again(slot) ? 1 : 0, is ? 1 : 0);
            if (is) {
                plain.things = new ArrayList<>(plain.slots.get(slot));
                plain.tight = plain.slotTight[slot].clone();
            }
        }
    }

    private void ask() {
        int things = plain.things.size();
        int t = things > 0 && !chance.oneIn(20) ? chance.below(things) : chance.from(-1, 41);
        int side = chance.oneIn(20) ? chance.from(-1, 4) : chance.below(4);
        switch (chance.below(9)) {
            case 0:
                askPlaces(t);
                break;
            case 1:
            case 2:
                askPushes(t, side);
                break;
            case 3:
                askFalls(t);
                break;
            case 4:
                askJoints();
                break;
            case 5:
                askLaws(t, side);
                break;
            case 6:
                askLine();
                break;
            case 7:
                askGap();
                break;
            default:
                askBuying();
                break;
        }
    }

    private void askPlaces(int t) {
        int x = chance.from(-1, plain.told.wide);
        int y = chance.from(-1, plain.told.high);
        due("at(" + x + ", " + y + ")", lock.at(x, y), plain.at(x, y));
        due("empty()", lock.empty(), plain.empty());
        int what = chance.from(-1, 6);
        due("thing(" + t + ", " + what + ")", lock.thing(t, what), plain.thing(t, what));
        int other = chance.from(0, plain.things.size());
        due("touch(" + t + ", " + other + ")", lock.touch(t, other), plain.touch(t, other));
        int kind = chance.from(0, 14);
        due("count(20 + " + kind + ")", lock.count(20 + kind), plain.isKind(kind) ? plain.left(kind) : -1);
        due("count(3)", lock.count(3), plain.things.size());
        due("count(6)", lock.count(6), Plain.many(plain.tight));
        int slot = chance.from(-1, 3);
        what = chance.from(-1, 3);
        due("tuesday(" + slot + ", " + what + ")", lock.tuesday(slot, what), plain.tuesday(slot, what));
        what = chance.from(-1, 4);
        int told = !plain.isKind(kind) || what < 0 || what > 3 ? -1 : plain.told.kinds.get(kind)[what];
        due("kind(" + kind + ", " + what + ")", lock.kind(kind, what), told);
    }

    private void askPushes(int t, int side) {
        boolean is = plain.isThing(t);
        boolean both = is && side >= 0 && side < 4;
        boolean[] none = new boolean[40];
        due("pushed(" + t + ", " + side + ")", lock.pushed(t, side),
                !both ? -1 : plain.spread(side, none, plain.tight)[t] ? 1 : 0);
        due("borne(" + t + ", " + side + ")", lock.borne(t, side), !both ? -1 : plain.spread(side, none, null)[t] ? 1 : 0);
        due("held(" + t + ")", lock.held(t), is ? plain.bonds(none, plain.tight)[t] : -1);
        due("holding()", lock.holding(), Plain.many(plain.heldOnes(none, plain.tight)));
        if (plain.told.wedges.size() < 5 || chance.oneIn(4)) {
            int[][] orders = plain.orders();
            for (int i = -1; i <= plain.told.wedges.size(); i++) {
                boolean isOne = i >= 0 && i < plain.told.wedges.size();
                due("order(" + i + ")", lock.order(i), isOne ? orders[0][i] : -1);
                due("ordered(" + i + ")", lock.ordered(i), isOne ? orders[1][i] : -1);
            }
        }
    }

    private void askFalls(int t) {
        due("drops(" + t + ")", lock.drops(t), plain.isThing(t) ? plain.fall()[t] : -1);
        int round = chance.from(-1, 5);
        due("round(" + round + ")", lock.round(round), plain.round(round));
        due("keeps(" + t + ")", lock.keeps(t), plain.keeps(t));
        if (chance.oneIn(3)) {
            due("key()", lock.key(), plain.key());
            List<Integer> seeming = plain.seeming();
            for (int i = -1; i <= seeming.size(); i++) {
                due("seeming(" + i + ")", lock.seeming(i), i >= 0 && i < seeming.size() ? seeming.get(i) : -1);
            }
        }
    }

    private void askJoints() {
        int line = chance.from(0, 60);
        boolean along = chance.oneIn(2);
        due("joint(" + along + ", " + line + ")", lock.joint(along, line), plain.joint(along, line));
        line = chance.from(0, along ? plain.told.wide : plain.told.high);
        due("joint(" + along + ", " + line + ")", lock.joint(along, line), plain.joint(along, line));
        if (chance.oneIn(3)) {
            due("longest()", lock.longest(), plain.longest());
        }
    }

    private void askLaws(int t, int side) {
        due("gives(" + t + ")", lock.gives(t), plain.gives(t));
        due("shift(" + t + ", " + side + ")", lock.shift(t, side), plain.shift(t, side));
        due("bow(" + t + ", " + side + ")", lock.bow(t, side), plain.bow(t, side));
        if (chance.oneIn(3)) {
            due("judge()", lock.judge(), plain.judge());
            int rule = chance.from(-1, plain.told.rules.size());
            due("breaks(" + rule + ")", lock.breaks(rule), plain.breaks(rule));
        }
    }

    private boolean isShare(int what) {
        return what >= 10 && plain.isKind((what - 10) / 2) && plain.told.kinds.get((what - 10) / 2)[0] != 0;
    }

    private void askLine() {
        int n = chance.oneIn(4) ? chance.from(0, 241) : chance.from(1, 40);
        int c = chance.oneIn(9) ? chance.from(-1, 100) : chance.below(6);
        boolean is = n > 0 && n < 241 && c >= 0 && c < 100;
        int[][] table = is ? plain.lineTable(n, c) : new int[0][];
        for (int what = -1; what < 39; what++) {
            int want = !is || what != 0 && what != 1 && !isShare(what) ? -1 : Plain.ofLine(table[n], what);
            due("line(" + n + ", " + c + ", " + what + ")", lock.line(n, c, what), want);
        }
        int nearest = is ? n : -1;
        while (is && table[nearest] == null) {
            nearest--;
        }
        due("nearest(" + n + ", " + c + ")", lock.nearest(n, c), nearest);
    }

    private void askGap() {
        int w = chance.oneIn(4) ? chance.from(0, 61) : chance.from(1, 16);
        int h = chance.oneIn(4) ? chance.from(0, 61) : chance.from(1, 16);
        boolean is = w > 0 && w < 61 && h > 0 && h < 61;
        int[][] table = is ? plain.gapTable(w, h) : new int[0][];
        for (int what = -1; what < 39; what++) {
            int want = !is || what != 0 && !isShare(what) ? -1 : Plain.ofGap(table[h], what);
            due("gap(" + w + ", " + h + ", " + what + ")", lock.gap(w, h, what), want);
        }
    }

    private void askBuying() {
        int n = chance.from(-1, plain.logs.size() + 1);
        int kind = chance.oneIn(5) ? chance.from(-1, 14) : chance.below(4);
        int day = chance.oneIn(5) ? chance.from(-1, 100) : chance.below(5);
        boolean known = n >= 0 && n <= plain.logs.size();
        boolean is = known && plain.isKind(kind) && day >= 0 && day < 100;
        due("lack(" + day + ", " + kind + ", " + n + ")", lock.lack(day, kind, n), is ? plain.lack(day, kind, n) : -1);
        due("worst(" + n + ")", lock.worst(n), known ? plain.worst(n) : -1);
        due("count(4)", lock.count(4), plain.logs.size());
    }
}
