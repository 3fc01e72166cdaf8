/** The edges of Terms V and of promises 39 to 44: PAGES, TUESDAY, SLOTS, and what is counted. */
final class EdgesOfSlots extends Edge {
    private EdgesOfSlots() {
    }

    static void all() {
        folds();
        foldLines();
        leaves();
        onTheSheet();
        stay();
        moved();
        fresh();
        page();
        pageNone();
        lies();
        tuesday();
        tuesdayNone();
        hold();
        again();
        againRefused();
        count();
        countOthers();
    }

    // ---- Terms V

    private static void folds() {
        edge("Terms V", "PAGES: a sheet is folded f times (0 .. 4),");
        TypeLock lock = new TypeLock();
        for (int f = 0; f <= 4; f++) {
            int pages = 2 << f;
            due("the last PAGE of " + f, lock.page(f, pages - 1, 2) >= 0, true);
            due("one more", lock.page(f, pages, 2), -1);
        }
        for (int f : new int[] {5, 6, 31, 32, -1, MIN, MAX}) {
            due("page(" + f + ", 0, 0)", lock.page(f, 0, 0), -1);
            due("lies(" + f + ", 0, 0, 0)", lock.lies(f, 0, 0, 0), -1);
        }
        due("not folded: the upper PAGE", lock.lies(0, 0, 0, 0), 0);
        due("not folded: the lower PAGE", lock.lies(0, 0, 0, 1), 1);
    }

    private static void foldLines() {
        edge("Terms V", "first over a line along (the east half onto the west half, beneath it), then over a line across (the south half"
                + " beneath the north half), and so on by turns;");
        TypeLock lock = new TypeLock();
        int[] columns = {1, 2, 2, 4, 4};
        int[] rows = {1, 1, 2, 2, 4};
        for (int f = 0; f <= 4; f++) {
            for (int column = 0; column < 6; column++) {
                for (int row = 0; row < 6; row++) {
                    boolean is = column < columns[f] && row < rows[f];
                    due("a leaf in " + column + ", " + row + ", folded " + f + " times", lock.lies(f, column, row, 0) >= 0, is);
                }
            }
        }
        due("the east half is beneath, turned over", lock.lies(1, 1, 0, 0), 3);
        due("the south half is beneath, turned over", lock.lies(2, 0, 1, 0), 7);
        due("east and south: turned over twice", lock.lies(2, 1, 1, 0), 4);
    }

    private static void leaves() {
        edge("Terms V", "2 to the f leaves lie on one another, the one that was not moved on top; their PAGES are numbered from 0 on: each"
                + " leaf's upper one, then its lower one.");
        TypeLock lock = new TypeLock();
        for (int f = 0; f <= 4; f++) {
            for (int what = 0; what < 4; what++) {
                due("not moved, the upper one: " + what, lock.page(f, 0, what), 0);
                due("not moved, the lower one: " + what, lock.page(f, 1, what), what == 2 ? 1 : 0);
            }
            for (int leaf = 0; leaf < 1 << f; leaf++) {
                due("one place, column", lock.page(f, 2 * leaf, 0), lock.page(f, 2 * leaf + 1, 0));
                due("one place, row", lock.page(f, 2 * leaf, 1), lock.page(f, 2 * leaf + 1, 1));
                due("two sides", lock.page(f, 2 * leaf, 2), 1 - lock.page(f, 2 * leaf + 1, 2));
            }
            due("no more leaves", lock.page(f, 2 << f, 0), -1);
        }
    }

    private static void onTheSheet() {
        edge("Terms V", "Of each PAGE: the column (from west) and row (from north) in which it lies on the unfolded sheet, its side (0 the"
                + " upper one, 1 the lower one), and whether it lies there upside down: so that on the folded sheet all stand alike.");
        TypeLock lock = new TypeLock();
        int[] columns = {1, 2, 2, 4, 4};
        int[] rows = {1, 1, 2, 2, 4};
        for (int f = 0; f <= 4; f++) {
            for (int column = 0; column < columns[f]; column++) {
                for (int row = 0; row < rows[f]; row++) {
                    for (int side = 0; side < 2; side++) {
                        int page = lock.lies(f, column, row, side);
                        due("its column", lock.page(f, page, 0), column);
                        due("its row", lock.page(f, page, 1), row);
                        due("its side", lock.page(f, page, 2), side);
                        // A fold over a line across turns it: every second row stands on its head.
                        due("upside down", lock.page(f, page, 3), row % 2);
                    }
                }
            }
        }
    }

    private static TypeLock held() {
        TypeLock lock = told("block a 2 2;piece p 3 1 9;piece q 1 1 40;wedge north 0 60;wedge west 0 60;rule if x==0;");
        lay(lock, 0, 0, 0, 0, 1, 10, 0, 0, 1, 20, 0, 1, 2, 30, 0, 0);
        lock.tight(1, true);
        due("hold(0)", lock.hold(0), true);
        return lock;
    }

    private static void dueTuesday(String what, TypeLock lock, int stay, int moved, int fresh) {
        due(what + ": STAY", lock.tuesday(0, 0), stay);
        due(what + ": MOVED", lock.tuesday(0, 1), moved);
        due(what + ": NEW", lock.tuesday(0, 2), fresh);
    }

    private static void stay() {
        edge("Terms V", "TUESDAY: of what lies and what a SLOT holds (both as THINGS of KINDS, by numbers, with x, y, turned): STAY: how many"
                + " are in both;");
        TypeLock lock = held();
        dueTuesday("all", lock, 4, 0, 0);
        // Another x, another y, turned, another KIND.
        int[][] others = {{1, 11, 0, 0}, {1, 10, 1, 0}, {1, 10, 0, 1}, {2, 10, 0, 0}};
        for (int[] other : others) {
            due("take", lock.take(1), 3);
            lay(lock, other);
            dueTuesday("another", lock, 3, other[0] == 1 ? 1 : 0, other[0] == 1 ? 0 : 1);
            due("take", lock.take(3), 3);
            lay(lock, 1, 10, 0, 0);
            due("again", lock.again(0), true);
        }
        // Numbers and tight WEDGES make no difference.
        due("take", lock.take(0), 3);
        lay(lock, 0, 0, 0, 0);
        lock.tight(0, true);
        dueTuesday("in another row", lock, 4, 0, 0);
        lay(lock, 2, 50, 50, 0);
        dueTuesday("one more that lies", lock, 4, 0, 0);
        TypeLock none = told("piece q 1 1 40;");
        due("hold none", none.hold(0), true);
        dueTuesday("none in both", none, 0, 0, 0);
        lay(none, 0, 0, 0, 0);
        dueTuesday("none in the SLOT", none, 0, 0, 0);
        for (int i = 1; i < 40; i++) {
            due("lay", none.lay(0, i, 0, false), i);
        }
        due("hold 40", none.hold(0), true);
        dueTuesday("all of 40", none, 40, 0, 0);
    }

    private static void moved() {
        edge("Terms V", "MOVED: of the SLOT's others those that could be laid by moving one of what lies and does not STAY (of the same KIND,"
                + " as many as there are of both);");
        TypeLock lock = told("piece p 1 1 40;piece q 1 1 40;");
        lay(lock, 0, 0, 0, 0, 0, 1, 0, 0, 0, 2, 0, 0, 1, 3, 0, 0);
        due("hold", lock.hold(0), true);
        lock.take(0);
        lock.take(0);
        lock.take(0);
        dueTuesday("q alone", lock, 1, 0, 3);
        for (int i = 0; i < 5; i++) {
            lay(lock, 0, i, 20, 0);
            dueTuesday("as many as there are of both, " + i, lock, 1, Math.min(3, i + 1), Math.max(0, 2 - i));
        }
        lay(lock, 0, 0, 0, 0);
        dueTuesday("one STAYS", lock, 2, 2, 0);
        lay(lock, 1, 50, 50, 0);
        dueTuesday("q does STAY, no other is needed", lock, 2, 2, 0);
        lock.take(0);
        dueTuesday("q can be moved", lock, 1, 3, 0);
        TypeLock full = told("piece p 1 1 40;");
        for (int i = 0; i < 40; i++) {
            due("lay", full.lay(0, i, 0, false), i);
        }
        due("hold", full.hold(0), true);
        for (int i = 39; i >= 0; i--) {
            due("take", full.take(i), i);
        }
        dueTuesday("none lies", full, 0, 0, 40);
        for (int i = 0; i < 40; i++) {
            due("lay", full.lay(0, i, 1, false), i);
        }
        dueTuesday("all of 40", full, 0, 40, 0);
    }

    private static void fresh() {
        edge("Terms V", "NEW: the rest of the SLOT's.");
        TypeLock lock = held();
        lock.take(0);
        dueTuesday("no a", lock, 3, 0, 1);
        lock.take(0);
        dueTuesday("one p less", lock, 2, 0, 2);
        lock.take(0);
        lock.take(0);
        dueTuesday("none lies", lock, 0, 0, 4);
        due("another text", Due.read(lock, "block z 2 2;"), 0);
        dueTuesday("KINDS by numbers", lock, 0, 0, 4);
        lay(lock, 0, 0, 0, 0);
        dueTuesday("KIND 0 as it lay", lock, 1, 0, 3);
        lock.take(0);
        lay(lock, 0, 0, 0, 1);
        dueTuesday("turned, though it is square", lock, 0, 1, 3);
    }

    // ---- Promises 39 to 44

    private static void page() {
        edge("Promise 39", "Of a PAGE (0 .. 2 to the f + 1, less 1) of a sheet folded f times: what 0 column, 1 row, 2 side, 3: 1 upside down,"
                + " else 0.");
        TypeLock lock = new TypeLock();
        int[][] once = {{0, 0, 0, 0}, {0, 0, 1, 0}, {1, 0, 1, 0}, {1, 0, 0, 0}};
        int[][] twice = {{0, 0, 0, 0}, {0, 0, 1, 0}, {1, 0, 1, 0}, {1, 0, 0, 0}, {1, 1, 0, 1}, {1, 1, 1, 1}, {0, 1, 1, 1}, {0, 1, 0, 1}};
        int[][] thrice = {{0, 0, 0, 0}, {0, 0, 1, 0}, {3, 0, 1, 0}, {3, 0, 0, 0}, {3, 1, 0, 1}, {3, 1, 1, 1}, {0, 1, 1, 1}, {0, 1, 0, 1},
            {1, 1, 0, 1}, {1, 1, 1, 1}, {2, 1, 1, 1}, {2, 1, 0, 1}, {2, 0, 0, 0}, {2, 0, 1, 0}, {1, 0, 1, 0}, {1, 0, 0, 0}};
        int[][][] want = {{{0, 0, 0, 0}, {0, 0, 1, 0}}, once, twice, thrice};
        for (int f = 0; f < want.length; f++) {
            for (int page = 0; page < 2 << f; page++) {
                for (int what = 0; what < 4; what++) {
                    due("page(" + f + ", " + page + ", " + what + ")", lock.page(f, page, what), want[f][page][what]);
                }
            }
        }
        // The fourth fold lays beneath all what lies right south of the first leaf.
        int[] last = {0, 1, 0, 1};
        for (int what = 0; what < 4; what++) {
            due("page(4, 31, " + what + ")", lock.page(4, 31, what), last[what]);
        }
    }

    private static void pageNone() {
        edge("Promise 39", "NONE: no such ones.");
        TypeLock lock = new TypeLock();
        for (int f = 0; f <= 4; f++) {
            for (int page : new int[] {2 << f, (2 << f) + 1, 32, 64, -1, MIN, MAX}) {
                due("page(" + f + ", " + page + ", 0)", lock.page(f, page, 0), -1);
            }
            for (int what : new int[] {4, 5, 7, -1, MIN, MAX}) {
                due("page(" + f + ", 0, " + what + ")", lock.page(f, 0, what), -1);
            }
        }
        for (int f : new int[] {5, -1, MIN, MAX}) {
            due("page(" + f + ", 0, 0)", lock.page(f, 0, 0), -1);
        }
    }

    private static void lies() {
        edge("Promise 40", "The PAGE that lies in a column, row, on a side; NONE: no such ones.");
        TypeLock lock = new TypeLock();
        int[] columns = {1, 2, 2, 4, 4};
        int[] rows = {1, 1, 2, 2, 4};
        for (int f = 0; f <= 4; f++) {
            due("the last place", lock.lies(f, columns[f] - 1, rows[f] - 1, 1) >= 0, true);
            for (int out : new int[] {columns[f], columns[f] + 1, 8, 16, -1, MIN, MAX}) {
                due("lies(" + f + ", " + out + ", 0, 0)", lock.lies(f, out, 0, 0), -1);
            }
            for (int out : new int[] {rows[f], rows[f] + 1, 8, 16, -1, MIN, MAX}) {
                due("lies(" + f + ", 0, " + out + ", 0)", lock.lies(f, 0, out, 0), -1);
            }
            for (int out : new int[] {2, 3, -1, MIN, MAX}) {
                due("lies(" + f + ", 0, 0, " + out + ")", lock.lies(f, 0, 0, out), -1);
            }
        }
        for (int f : new int[] {5, -1, MIN, MAX}) {
            due("lies(" + f + ", 0, 0, 0)", lock.lies(f, 0, 0, 0), -1);
        }
        due("right south of the first leaf", lock.lies(4, 0, 1, 0), 31);
        due("at the south end", lock.lies(4, 0, 3, 0), 7);
    }

    private static void tuesday() {
        edge("Promise 41", "TUESDAY, of a SLOT: what 0 STAY, 1 MOVED, 2 NEW.");
        for (int slot = 0; slot < 3; slot++) {
            TypeLock lock = told("piece p 1 1 9;piece q 1 1 9;");
            lay(lock, 0, 0, 0, 0, 0, 1, 0, 0, 0, 2, 0, 0, 1, 5, 0, 0);
            due("hold", lock.hold(slot), true);
            lock.take(3);
            lock.take(2);
            lay(lock, 0, 7, 7, 0);
            int[] want = {2, 1, 1};
            for (int what = 0; what < 3; what++) {
                due("tuesday(" + slot + ", " + what + ")", lock.tuesday(slot, what), want[what]);
            }
        }
    }

    private static void tuesdayNone() {
        edge("Promise 41", "NONE: no such ones, nothing is held.");
        TypeLock lock = new TypeLock();
        for (int slot = 0; slot < 3; slot++) {
            due("nothing is held in " + slot, lock.tuesday(slot, 0), -1);
        }
        due("hold(1)", lock.hold(1), true);
        for (int what = 0; what < 3; what++) {
            due("nothing lies, and none was held", lock.tuesday(1, what), 0);
            due("nothing is held in 0", lock.tuesday(0, what), -1);
            due("nothing is held in 2", lock.tuesday(2, what), -1);
        }
        for (int what : new int[] {3, 4, -1, MIN, MAX}) {
            due("tuesday(1, " + what + ")", lock.tuesday(1, what), -1);
        }
        for (int slot : new int[] {3, 4, -1, MIN, MAX}) {
            due("tuesday(" + slot + ", 0)", lock.tuesday(slot, 0), -1);
        }
    }

    private static void hold() {
        edge("Promise 42", "THINGS and which WEDGES are tight are held in a SLOT (0 .. 2): true; false: no such one.");
        TypeLock lock = held();
        String before = state(lock);
        for (int slot : new int[] {3, 4, -1, MIN, MAX}) {
            due("hold(" + slot + ")", lock.hold(slot), false);
        }
        dueSame("a refused hold", lock, before);
        for (int slot = 1; slot < 3; slot++) {
            due("SLOTS", lock.count(7), slot);
            due("hold(" + slot + ")", lock.hold(slot), true);
        }
        due("all three", lock.count(7), 3);
        // What is held later is in place of it.
        lock.take(3);
        lock.tight(1, false);
        due("hold(2)", lock.hold(2), true);
        due("all three", lock.count(7), 3);
        due("again(0)", lock.again(0), true);
        due("4", lock.count(3), 4);
        due("tight", lock.count(6), 1);
        due("again(2)", lock.again(2), true);
        due("3", lock.count(3), 3);
        due("none tight", lock.count(6), 0);
        // All of 40 THINGS and all of six WEDGES.
        TypeLock full = told("piece p 1 1 40;" + "wedge west 0 1;".repeat(6));
        for (int i = 0; i < 40; i++) {
            due("lay", full.lay(0, i, 9, i % 2 == 1), i);
        }
        for (int wedge = 0; wedge < 6; wedge++) {
            full.tight(wedge, true);
        }
        due("hold(1)", full.hold(1), true);
        due("read() of a FAULT", Due.read(full, "?"), 1);
        for (int i = 39; i >= 0; i--) {
            full.take(i);
        }
        full.tight(0, false);
        due("again(1)", full.again(1), true);
        due("40", full.count(3), 40);
        due("six", full.count(6), 6);
        due("the last one", full.thing(39, 1), 39);
        due("turned", full.thing(39, 5), 1);
        due("none is left", full.lay(0, 0, 0, false), -1);
        due("none is left", full.count(20), 0);
    }

    private static void again() {
        edge("Promise 43", "These go on from what a SLOT holds (that stays there): true;");
        for (int slot = 0; slot < 3; slot++) {
            TypeLock lock = told("piece p 2 1 9;wedge north 0 60;wedge south 0 60;");
            lay(lock, 0, 5, 0, 0, 0, 7, 0, 1);
            lock.tight(1, true);
            due("hold(" + slot + ")", lock.hold(slot), true);
            for (int i = 0; i < 3; i++) {
                lock.take(0);
                lock.tight(0, true);
                lock.tight(1, false);
                lay(lock, 0, 30 + i, 30, 0);
                due("again(" + slot + ")", lock.again(slot), true);
                due("THINGS", lock.count(3), 2);
                due("x", lock.thing(0, 1), 5);
                due("turned", lock.thing(1, 5), 1);
                due("high", lock.thing(1, 4), 2);
                due("tight", lock.count(6), 1);
                due("PUSHED from north no more", lock.pushed(0, NORTH), 0);
                due("left", lock.count(20), 7);
            }
            TypeLock none = told("piece p 2 1 9;wedge north 0 60;");
            due("hold none", none.hold(slot), true);
            lay(none, 0, 0, 0, 0);
            none.tight(0, true);
            due("again none", none.again(slot), true);
            due("THINGS", none.count(3), 0);
            due("tight", none.count(6), 0);
        }
    }

    private static void againRefused() {
        edge("Promise 43", "false, and nothing happens: no such one, nothing is held, or what it holds was laid by another text.");
        TypeLock lock = held();
        lock.take(0);
        String before = state(lock);
        for (int slot : new int[] {3, 4, -1, MIN, MAX}) {
            due("again(" + slot + ")", lock.again(slot), false);
        }
        due("nothing is held", lock.again(1), false);
        due("nothing is held", lock.again(2), false);
        dueSame("a refused again", lock, before);
        due("read() of a FAULT", Due.read(lock, "frame 0 0;"), 5);
        due("is no other text", lock.again(0), true);
        due("read() of another", Due.read(lock, "block a 2 2;piece p 3 1 9;wedge north 0 60;"), 0);
        lay(lock, 1, 7, 7, 0);
        lock.tight(0, true);
        before = state(lock);
        due("laid by another text", lock.again(0), false);
        dueSame("a refused again", lock, before);
        due("hold(0)", lock.hold(0), true);
        due("by this text", lock.again(0), true);
        due("read() of no byte", lock.read(), 0);
        due("laid by another text", lock.again(0), false);
        due("nothing happens", lock.count(3), 0);
    }

    private static void count() {
        edge("Promise 44", "0 KINDS, 1 WEDGES, 2 RULES, 3 THINGS, 4 LOGS, 5 bytes on the tape, 6 WEDGES that are tight, 7 SLOTS that hold"
                + " something, 8 wide, 9 high, 10 ENOUGH, 20 + KIND: how many of it are left.");
        TypeLock lock = told("frame 60 1;enough 100;" + EdgesOfText.kinds(14) + "wedge west 0 1;".repeat(6) + "rule if x<0;".repeat(6));
        int[] none = {14, 6, 6, 0, 0, 0, 0, 0, 60, 1, 100};
        for (int what = 0; what < none.length; what++) {
            due("count(" + what + ")", lock.count(what), none[what]);
        }
        for (int kind = 0; kind < 14; kind++) {
            due("count(" + (20 + kind) + ")", lock.count(20 + kind), 1);
        }
        lay(lock, 13, 0, 0, 0, 0, 14, 0, 0);
        due("the last KIND", lock.count(33), 0);
        due("the first KIND", lock.count(20), 0);
        due("the second KIND", lock.count(21), 1);
        TypeLock all = told("frame 1 60;enough 1;piece wood p 1 1 99;");
        for (int i = 0; i < 40; i++) {
            due("left", all.count(20), 99 - i);
            due("THINGS", all.count(3), i);
            due("lay", all.lay(0, 0, i, false), i);
        }
        due("left", all.count(20), 59);
        for (int slot = 0; slot < 3; slot++) {
            due("SLOTS", all.count(7), slot);
            all.hold(slot);
        }
        due("SLOTS", all.count(7), 3);
        for (int i = 0; i < 60; i++) {
            due("LOGS", all.count(4), i);
            all.log(0, 0, 0, false);
        }
        due("LOGS", all.count(4), 60);
        for (int i = 0; i < 100; i++) {
            due("bytes", all.count(5), 20 * i);
            feed(all, "                    ");
        }
        due("bytes", all.count(5), 2000);
        due("wide", all.count(8), 1);
        due("high", all.count(9), 60);
        due("ENOUGH", all.count(10), 1);
    }

    private static void countOthers() {
        edge("Promise 44", "NONE for others.");
        TypeLock lock = told("piece p 1 1 1;block b 1 1;");
        for (int what = 11; what < 20; what++) {
            due("count(" + what + ")", lock.count(what), -1);
        }
        due("count(21)", lock.count(21), 1);
        for (int what : new int[] {22, 23, 33, 34, 35, -1, -2, MIN, MIN + 20, MAX, MAX - 20}) {
            due("count(" + what + ")", lock.count(what), -1);
        }
        due("of a new object", new TypeLock().count(20), -1);
    }
}
