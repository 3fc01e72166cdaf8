import java.util.ArrayList;
import java.util.Arrays;
import java.util.List;

/**
 * The document once more, as plainly as can be and with nothing of the class in it: points on a grid, sets that grow
 * until they stand, all orders, all fillings. What a text tells is handed over as a Told.
 */
final class Plain {
    /** An E as the grammar has it: a row of PARTS, each a row of UNITS. */
    static final class Sum {
        final List<Product> parts = new ArrayList<>();
        final List<Character> signs = new ArrayList<>();

        /** null: it divides by 0. */
        Integer worth(int[] vars) {
            Integer all = 0;
            for (int i = 0; i < parts.size(); i++) {
                Integer one = parts.get(i).worth(vars);
                if (one == null) {
                    return null;
                }
                all = i == 0 ? one : signs.get(i) == '+' ? all + one : all - one;
            }
            return all;
        }
    }

    static final class Product {
        final List<Unit> units = new ArrayList<>();
        final List<Character> signs = new ArrayList<>();

        Integer worth(int[] vars) {
            int all = 1;
            for (int i = 0; i < units.size(); i++) {
                Integer one = units.get(i).worth(vars);
                if (one == null) {
                    return null;
                }
                if (i == 0) {
                    all = one;
                } else if (signs.get(i) == '*') {
                    all = (int) ((long) all * one);
                } else if (one == 0) {
                    return null;
                } else {
                    all = (int) ((long) all / one);
                }
            }
            return all;
        }
    }

    static final class Unit {
        int value;
        int var = -1;
        Sum inner;

        Integer worth(int[] vars) {
            return inner != null ? inner.worth(vars) : var >= 0 ? Integer.valueOf(vars[var]) : Integer.valueOf(value);
        }
    }

    static final class Lit {
        int nots;
        Sum left;
        Sum right;
        String sign;

        boolean holds(int[] vars) {
            Integer a = left.worth(vars);
            Integer b = right.worth(vars);
            boolean holds = false;
            if (a != null && b != null) {
                holds = sign.equals("==") ? a.intValue() == b.intValue() : sign.equals("!=") ? a.intValue() != b.intValue()
                        : sign.equals("<") ? a < b : a <= b;
            }
            return nots % 2 == 0 ? holds : !holds;
        }
    }

    static final class Told {
        int wide = 60;
        int high = 60;
        int enough = 50;
        Sum give;
        final List<int[]> kinds = new ArrayList<>();
        final List<int[]> wedges = new ArrayList<>();
        final List<List<List<Lit>>> rules = new ArrayList<>();
    }

    static final int[] DX = {0, 1, 0, -1};
    static final int[] DY = {-1, 0, 1, 0};

    Told told = new Told();
    int texts;
    List<int[]> things = new ArrayList<>();
    boolean[] tight = new boolean[6];
    List<int[]> logs = new ArrayList<>();
    final List<List<int[]>> slots = new ArrayList<>(Arrays.asList(null, null, null));
    final boolean[][] slotTight = new boolean[3][];
    final int[] slotText = new int[3];

    void tell(Told now) {
        told = now;
        texts++;
        things = new ArrayList<>();
        tight = new boolean[6];
    }

    int wide(int t) {
        int[] kind = told.kinds.get(things.get(t)[0]);
        return things.get(t)[3] == 1 ? kind[2] : kind[1];
    }

    int high(int t) {
        int[] kind = told.kinds.get(things.get(t)[0]);
        return things.get(t)[3] == 1 ? kind[1] : kind[2];
    }

    boolean isWood(int t) {
        return told.kinds.get(things.get(t)[0])[0] == 2;
    }

    boolean isRound(int t) {
        return told.kinds.get(things.get(t)[0])[0] == 3;
    }

    boolean isThing(int t) {
        return t >= 0 && t < things.size();
    }

    boolean isKind(int k) {
        return k >= 0 && k < told.kinds.size();
    }

    /** By y and x, from 1 on; -1 outside, 0 for none, a THING's number and 1. */
    int[][] grid(boolean[] gone) {
        int[][] grid = new int[62][62];
        for (int[] row : grid) {
            Arrays.fill(row, -1);
        }
        for (int y = 0; y < told.high; y++) {
            Arrays.fill(grid[y + 1], 1, told.wide + 1, 0);
        }
        for (int t = 0; t < things.size(); t++) {
            for (int y = 0; !gone[t] && y < high(t); y++) {
                for (int x = 0; x < wide(t); x++) {
                    grid[things.get(t)[2] + y + 1][things.get(t)[1] + x + 1] = t + 1;
                }
            }
        }
        return grid;
    }

    int lay(int kind, int x, int y, boolean turned) {
        if (!isKind(kind) || x < 0 || x > 59 || y < 0 || y > 59 || things.size() == 40) {
            return -1;
        }
        int[] told4 = {kind, x, y, turned ? 1 : 0};
        int[] size = told.kinds.get(kind);
        int w = size[turned ? 2 : 1];
        int h = size[turned ? 1 : 2];
        int[][] grid = grid(new boolean[40]);
        boolean laps = false;
        for (int i = x; i < x + w; i++) {
            for (int j = y; j < y + h; j++) {
                if (i >= told.wide || j >= told.high) {
                    return -2;
                }
                laps |= grid[j + 1][i + 1] > 0;
            }
        }
        if (laps) {
            return -3;
        }
        if (left(kind) == 0) {
            return -4;
        }
        things.add(told4);
        return things.size() - 1;
    }

    int left(int kind) {
        int left = told.kinds.get(kind)[3];
        for (int[] thing : things) {
            left -= thing[0] == kind ? 1 : 0;
        }
        return left;
    }

    int thing(int t, int what) {
        if (!isThing(t) || what < 0 || what > 5) {
            return -1;
        }
        int[] thing = things.get(t);
        return new int[] {thing[0], thing[1], thing[2], wide(t), high(t), thing[3]}[what];
    }

    int at(int x, int y) {
        if (x < 0 || y < 0 || x >= told.wide || y >= told.high) {
            return -1;
        }
        int found = grid(new boolean[40])[y + 1][x + 1];
        return found == 0 ? -2 : found - 1;
    }

    int empty() {
        int empty = 0;
        for (int[] row : grid(new boolean[40])) {
            for (int point : row) {
                empty += point == 0 ? 1 : 0;
            }
        }
        return empty;
    }

    /** How many points of each THING (its number and 1; 0: of the FRAME's side) lie at a side of a THING, as they count. */
    int[] neighbours(int[][] grid, int t, int side) {
        int[] found = new int[41];
        for (int y = things.get(t)[2]; y < things.get(t)[2] + high(t); y++) {
            for (int x = things.get(t)[1]; x < things.get(t)[1] + wide(t); x++) {
                int other = grid[y + 1 + DY[side]][x + 1 + DX[side]];
                if (other == -1) {
                    found[0]++;
                } else if (other > 0 && other != t + 1) {
                    found[other]++;
                }
            }
        }
        for (int i = 0; i <= 40; i++) {
            if (isWood(t) || i > 0 && i <= things.size() && isWood(i - 1)) {
                found[i] /= 2;
            }
        }
        return found;
    }

    int touch(int t, int other) {
        if (!isThing(t) || !isThing(other) || t == other) {
            return -1;
        }
        int sum = 0;
        for (int side = 0; side < 4; side++) {
            sum += neighbours(grid(new boolean[40]), t, side)[other + 1];
        }
        return sum;
    }

    /** At how many points of its side at the FRAME a tight WEDGE stands, as they count. */
    int wedged(int t, int side, boolean[] tightOnes) {
        int from = side % 2 == 0 ? things.get(t)[1] : things.get(t)[2];
        int to = side % 2 == 0 ? from + wide(t) : from + high(t);
        int points = 0;
        for (int point = from; point < to; point++) {
            boolean reached = false;
            for (int w = 0; w < told.wedges.size(); w++) {
                int[] wedge = told.wedges.get(w);
                reached |= tightOnes[w] && wedge[0] == side && wedge[1] <= point && point < wedge[2];
            }
            points += reached ? 1 : 0;
        }
        return isWood(t) ? points / 2 : points;
    }

    /** The least set of those that are PUSHED from a side by WEDGES, or BORNE at it (tightOnes null). */
    boolean[] spread(int side, boolean[] gone, boolean[] tightOnes) {
        int[][] grid = grid(gone);
        boolean[] in = new boolean[40];
        boolean grown = true;
        while (grown) {
            grown = false;
            for (int t = 0; t < things.size(); t++) {
                if (in[t] || gone[t]) {
                    continue;
                }
                int[] beside = neighbours(grid, t, side);
                int sum = 0;
                if (beside[0] > 0) {
                    sum = tightOnes == null ? beside[0] : wedged(t, side, tightOnes);
                }
                for (int i = 0; i < things.size(); i++) {
                    sum += in[i] ? beside[i + 1] : 0;
                }
                if (sum * 100 >= told.enough * (side % 2 == 0 ? wide(t) : high(t))) {
                    in[t] = true;
                    grown = true;
                }
            }
        }
        return in;
    }

    /** 3, 2, 1, 0 as held() has it, of each. */
    int[] bonds(boolean[] gone, boolean[] tightOnes) {
        boolean[][] pushed = new boolean[4][];
        boolean[][] borne = new boolean[4][];
        for (int side = 0; side < 4; side++) {
            pushed[side] = spread(side, gone, tightOnes);
            borne[side] = spread(side, gone, null);
        }
        int[] bonds = new int[40];
        for (int t = 0; t < things.size(); t++) {
            boolean across = pushed[3][t] && borne[1][t] || pushed[1][t] && borne[3][t];
            boolean along = pushed[0][t] && borne[2][t] || pushed[2][t] && borne[0][t];
            bonds[t] = (across ? 1 : 0) + (along ? 2 : 0);
        }
        return bonds;
    }

    boolean[] heldOnes(boolean[] gone, boolean[] tightOnes) {
        int[] bonds = bonds(gone, tightOnes);
        boolean[] held = new boolean[40];
        for (int t = 0; t < things.size(); t++) {
            held[t] = !gone[t] && (isRound(t) ? bonds[t] == 3 : bonds[t] > 0);
        }
        return held;
    }

    static int many(boolean[] set) {
        int many = 0;
        for (boolean in : set) {
            many += in ? 1 : 0;
        }
        return many;
    }

    int[] fall() {
        boolean[] gone = new boolean[40];
        int[] rounds = new int[40];
        boolean dropped = true;
        for (int round = 1; dropped; round++) {
            dropped = false;
            boolean[] held = heldOnes(gone, tight);
            for (int t = 0; t < things.size(); t++) {
                if (!gone[t] && !held[t]) {
                    rounds[t] = round;
                    gone[t] = true;
                    dropped = true;
                }
            }
        }
        return rounds;
    }

    int round(int round) {
        if (round < 0) {
            return -1;
        }
        int many = 0;
        for (int in : fall()) {
            many += round == 0 ? in > 0 ? 1 : 0 : in == round ? 1 : 0;
        }
        return many;
    }

    int keeps(int t) {
        if (!isThing(t)) {
            return -1;
        }
        boolean[] gone = new boolean[40];
        boolean[] all = heldOnes(gone, tight);
        gone[t] = true;
        boolean[] less = heldOnes(gone, tight);
        int kept = 0;
        for (int i = 0; i < things.size(); i++) {
            kept += i != t && all[i] && !less[i] ? 1 : 0;
        }
        return kept;
    }

    int key() {
        int key = -2;
        for (int t = 0; t < things.size(); t++) {
            if (key < 0 || keeps(t) > keeps(key)) {
                key = t;
            }
        }
        return key;
    }

    List<Integer> seeming() {
        List<Integer> found = new ArrayList<>();
        boolean[] held = heldOnes(new boolean[40], tight);
        for (int t = 0; t < things.size(); t++) {
            if (!held[t] && keeps(t) > 0) {
                found.add(t);
            }
        }
        return found;
    }

    int joint(boolean along, int line) {
        if (line < 1 || line >= (along ? told.wide : told.high)) {
            return -1;
        }
        int[][] grid = grid(new boolean[40]);
        int run = 0;
        int best = 0;
        for (int p = 1; p <= (along ? told.high : told.wide); p++) {
            int one = along ? grid[p][line] : grid[line][p];
            int other = along ? grid[p][line + 1] : grid[line + 1][p];
            run = one != other ? run + 1 : 0;
            best = Math.max(best, run);
        }
        return best;
    }

    int longest() {
        int best = 0;
        int answer = 0;
        for (int turn = 0; turn < 2; turn++) {
            for (int line = 1; line < 60; line++) {
                int here = joint(turn == 1, line);
                if (here > best) {
                    best = here;
                    answer = 100 * here + line + 10000 * turn;
                }
            }
        }
        return answer;
    }

    /** The BEST ORDER, and behind it how many are HELD behind each. */
    int[][] orders() {
        int n = told.wedges.size();
        int[] bySet = new int[1 << n];
        for (int set = 0; set < 1 << n; set++) {
            boolean[] on = new boolean[6];
            for (int w = 0; w < n; w++) {
                on[w] = (set >> w & 1) == 1;
            }
            bySet[set] = many(heldOnes(new boolean[40], on));
        }
        int[][] best = new int[2][];
        permute(new int[n], 0, 0, bySet, best);
        return best;
    }

    private void permute(int[] order, int at, int set, int[] bySet, int[][] best) {
        if (at == order.length) {
            int[] held = new int[at];
            int on = 0;
            for (int i = 0; i < at; i++) {
                on |= 1 << order[i];
                held[i] = bySet[on];
            }
            if (best[0] == null || Arrays.compare(held, best[1]) > 0) {
                best[0] = order.clone();
                best[1] = held;
            }
            return;
        }
        for (int w = 0; w < order.length; w++) {
            if ((set >> w & 1) == 0) {
                order[at] = w;
                permute(order, at + 1, set | 1 << w, bySet, best);
            }
        }
    }

    int[] vars(int t, boolean inGive) {
        int touched = 0;
        for (int side = 0; !inGive && side < 4; side++) {
            for (int points : neighbours(grid(new boolean[40]), t, side)) {
                touched += points;
            }
        }
        int held = !inGive && heldOnes(new boolean[40], tight)[t] ? 1 : 0;
        return new int[] {things.get(t)[1], things.get(t)[2], wide(t), high(t), touched, held, many(tight), isWood(t) ? 1 : 0, isRound(t) ? 1 : 0};
    }

    int gives(int t) {
        if (!isThing(t)) {
            return -1;
        }
        Integer worth = told.give == null ? Integer.valueOf(0) : told.give.worth(vars(t, true));
        return worth == null ? 0 : worth < 0 ? 0 : worth > 9 ? 9 : worth;
    }

    int shift(int t, int side) {
        if (!isThing(t) || side < 0 || side > 3) {
            return -1;
        }
        return shift(grid(new boolean[40]), t, side, new Integer[40]);
    }

    private int shift(int[][] grid, int t, int side, Integer[] known) {
        if (known[t] != null) {
            return known[t];
        }
        int[] beside = neighbours(grid, t, side);
        int most = 0;
        for (int i = 0; i < things.size(); i++) {
            if (beside[i + 1] > 0) {
                most = Math.max(most, shift(grid, i, side, known) + gives(i));
            }
        }
        known[t] = most;
        return most;
    }

    int bow(int t, int side) {
        if (!isThing(t) || side < 0 || side > 3) {
            return -1;
        }
        int[] beside = neighbours(grid(new boolean[40]), t, (side + 2) % 4);
        List<Integer> shifts = new ArrayList<>();
        for (int i = 0; i < things.size(); i++) {
            if (beside[i + 1] > 0) {
                shifts.add(shift(i, side));
            }
        }
        return shifts.size() < 2 ? 0 : shifts.stream().max(Integer::compare).get() - shifts.stream().min(Integer::compare).get();
    }

    boolean holds(int rule, int t) {
        int[] vars = vars(t, false);
        for (List<Lit> all : told.rules.get(rule)) {
            boolean holds = true;
            for (Lit lit : all) {
                holds &= lit.holds(vars);
            }
            if (holds) {
                return true;
            }
        }
        return false;
    }

    int judge() {
        for (int t = 0; t < things.size(); t++) {
            for (int rule = 0; rule < told.rules.size(); rule++) {
                if (holds(rule, t)) {
                    return 10 * t + rule;
                }
            }
        }
        return -2;
    }

    int breaks(int rule) {
        if (rule < 0 || rule >= told.rules.size()) {
            return -1;
        }
        int many = 0;
        for (int t = 0; t < things.size(); t++) {
            many += holds(rule, t) ? 1 : 0;
        }
        return many;
    }

    // The fillings: for each length the best row of numbers, told as they compare: all, cards, then by KIND.

    private static int[] better(int[] one, int[] other) {
        return one == null || other != null && Arrays.compare(other, one) < 0 ? other : one;
    }

    /** For LINES of each length: {PIECES and cards, cards, less of KIND 0 in all, less of it as told, ..}. */
    int[][] lineTable(int upTo, int c) {
        int kinds = told.kinds.size();
        int[][] best = new int[upTo + 1][];
        for (int i = 0; i <= Math.min(c, upTo); i++) {
            best[i] = new int[2 + 2 * kinds];
            best[i][0] = i;
            best[i][1] = i;
        }
        for (int k = 0; k < kinds; k++) {
            int[] kind = told.kinds.get(k);
            int left = kind[0] == 0 ? 0 : left(k);
            int[][] next = new int[upTo + 1][];
            for (int n = 0; n <= upTo; n++) {
                for (int a = 0; best[n] != null && a <= left && n + a * kind[1] <= upTo; a++) {
                    for (int b = 0; a + b <= left && n + a * kind[1] + b * kind[2] <= upTo; b++) {
                        int[] row = best[n].clone();
                        row[0] += a + b;
                        row[2 + 2 * k] = -a - b;
                        row[3 + 2 * k] = -a;
                        int to = n + a * kind[1] + b * kind[2];
                        next[to] = better(next[to], row);
                    }
                }
            }
            best = next;
        }
        return best;
    }

    static int ofLine(int[] row, int what) {
        if (row == null) {
            return -2;
        }
        int k = (what - 10) / 2;
        return what < 2 ? row[what] : what % 2 == 0 ? -row[3 + 2 * k] : row[3 + 2 * k] - row[2 + 2 * k];
    }

    /** For GAPS of each height: {PIECES, less ROWS of KIND 0 as told, turned, ..}. */
    int[][] gapTable(int w, int upTo) {
        int kinds = told.kinds.size();
        int[][] best = new int[upTo + 1][];
        best[0] = new int[1 + 2 * kinds];
        for (int k = 0; k < kinds; k++) {
            int[] kind = told.kinds.get(k);
            int left = kind[0] == 0 ? 0 : left(k);
            int[][] next = new int[upTo + 1][];
            for (int h = 0; h <= upTo; h++) {
                for (int a = 0; best[h] != null && a <= (w % kind[1] == 0 ? 60 : 0); a++) {
                    for (int b = 0; b <= (w % kind[2] == 0 ? 60 : 0); b++) {
                        int to = h + a * kind[2] + b * kind[1];
                        int pieces = a * (w / kind[1]) + b * (w / kind[2]);
                        if (pieces > left || to > upTo) {
                            break;
                        }
                        int[] row = best[h].clone();
                        row[0] += pieces;
                        row[1 + 2 * k] = -a;
                        row[2 + 2 * k] = -b;
                        next[to] = better(next[to], row);
                    }
                }
            }
            best = next;
        }
        return best;
    }

    static int ofGap(int[] row, int what) {
        return row == null ? -2 : what == 0 ? row[0] : -row[what - 9];
    }

    // LOGS: {0 NEEDED 1 BOUGHT 2 VOID, DAY, KIND, how many, of}

    int lack(int day, int kind, int n) {
        int need = 0;
        int got = told.kinds.get(kind)[3];
        for (int i = 0; i < n; i++) {
            int[] log = logs.get(i);
            boolean isVoid = log[0] == 2;
            for (int j = 0; j < n; j++) {
                isVoid |= logs.get(j)[0] == 2 && logs.get(j)[4] == i;
            }
            if (!isVoid && log[2] == kind) {
                need += log[0] == 0 && log[1] == day ? log[3] : 0;
                got += log[0] == 1 && log[1] <= day ? log[3] : 0;
            }
        }
        return Math.max(0, need - got);
    }

    int worst(int n) {
        int worst = -2;
        int most = 0;
        for (int kind = 0; kind < told.kinds.size(); kind++) {
            int sum = 0;
            for (int day = 0; day < 100; day++) {
                sum += lack(day, kind, n);
            }
            if (sum > most) {
                most = sum;
                worst = kind;
            }
        }
        return worst;
    }

    // PAGES, folded as with hands: leaves {column, row, its upper side is on top, its north is north} in a heap a cell.

    static List<int[]> foldedLeaves(int f) {
        int columns = 1 << (f + 1) / 2;
        int rows = 1 << f / 2;
        List<List<List<int[]>>> sheet = new ArrayList<>();
        for (int row = 0; row < rows; row++) {
            sheet.add(new ArrayList<>());
            for (int column = 0; column < columns; column++) {
                sheet.get(row).add(new ArrayList<>(List.of(new int[] {column, row, 1, 1})));
            }
        }
        for (int fold = 0; fold < f; fold++) {
            if (fold % 2 == 0) {
                for (List<List<int[]>> row : sheet) {
                    for (int i = 0, half = row.size() / 2; i < half; i++) {
                        turnBeneath(row.get(half - 1 - i), row.remove(half), false);
                    }
                }
            } else {
                for (int i = 0, half = sheet.size() / 2; i < half; i++) {
                    List<List<int[]>> south = sheet.remove(half);
                    for (int column = 0; column < south.size(); column++) {
                        turnBeneath(sheet.get(half - 1 - i).get(column), south.get(column), true);
                    }
                }
            }
        }
        return sheet.get(0).get(0);
    }

    private static void turnBeneath(List<int[]> heap, List<int[]> moved, boolean overAcross) {
        for (int i = moved.size() - 1; i >= 0; i--) {
            int[] leaf = moved.get(i);
            leaf[2] = 1 - leaf[2];
            leaf[3] = overAcross ? 1 - leaf[3] : leaf[3];
            heap.add(leaf);
        }
    }

    int tuesday(int slot, int what) {
        if (slot < 0 || slot > 2 || what < 0 || what > 2 || slots.get(slot) == null) {
            return -1;
        }
        List<int[]> mine = new ArrayList<>(things);
        List<int[]> theirs = new ArrayList<>(slots.get(slot));
        int stay = 0;
        for (int[] thing : slots.get(slot)) {
            for (int[] other : things) {
                if (Arrays.equals(thing, other)) {
                    mine.remove(other);
                    theirs.remove(thing);
                    stay++;
                }
            }
        }
        int moved = 0;
        for (int[] thing : new ArrayList<>(theirs)) {
            for (int[] other : mine) {
                if (other[0] == thing[0]) {
                    mine.remove(other);
                    theirs.remove(thing);
                    moved++;
                    break;
                }
            }
        }
        return new int[] {stay, moved, theirs.size()}[what];
    }
}
