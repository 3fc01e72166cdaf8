/** The edges of Terms II and of promises 7 to 22: what may lie, touch, push, bear, hold, drop and keep. */
final class EdgesOfFrame extends Edge {
    private static final int[] NO_THINGS = {-1, -2, -40, MIN, MIN + 1, MAX, MAX - 1, 40, 41, 63, 64};

    private EdgesOfFrame() {
    }

    static void all() {
        fortyThings();
        within();
        laps();
        drawer();
        turned();
        touching();
        wood();
        frameWood();
        pushedEnough();
        pushedByFrame();
        pushedByThings();
        woodPushed();
        borneByFrame();
        manyPairs();
        leastSets();
        heldBy();
        heldRound();
        dropping();
        fortyRounds();
        keeping();
        theKey();
        seemingOnes();
        lay();
        layNone();
        layNotWithin();
        layLaps();
        layUsedUp();
        layFirst();
        take();
        takeNone();
        thing();
        thingOthers();
        at();
        atNone();
        empty();
        touch();
        touchNone();
        tight();
        pushed();
        pushedNone();
        borne();
        held();
        heldNone();
        holding();
        drops();
        dropsNone();
        round();
        keeps();
        key();
        seeming();
    }

    // ---- Terms II: THINGS

    private static void fortyThings() {
        edge("Terms II", "THINGS, 40 at most, numbered from 0 on (those behind one that is taken away move up):");
        TypeLock lock = told("piece p 1 1 99;block b 1 1;");
        for (int i = 0; i < 40; i++) {
            due("lay", lock.lay(0, i, 0, false), i);
        }
        due("a 41st", lock.lay(0, 41, 0, false), -1);
        due("a 41st of another KIND", lock.lay(1, 41, 0, false), -1);
        due("40", lock.count(3), 40);
        due("the last one", lock.thing(39, 1), 39);
        due("take(0)", lock.take(0), 39);
        due("1 is 0", lock.thing(0, 1), 1);
        due("39 is 38", lock.thing(38, 1), 39);
        due("there is no 39", lock.thing(39, 1), -1);
        due("a 40th again", lock.lay(0, 0, 5, false), 39);
        due("no more", lock.lay(0, 0, 6, false), -1);
        due("take the last", lock.take(39), 39);
        due("the others stay", lock.thing(38, 1), 39);
        due("take one between", lock.take(20), 38);
        due("19 stays", lock.thing(19, 1), 20);
        due("21 is 20", lock.thing(20, 1), 22);
        due("at the point of the last one", lock.at(39, 0), 37);
    }

    private static void within() {
        edge("Terms II", "of a KIND, x, y, lying as told or turned");
        TypeLock lock = told("frame 10 7;piece p 3 2 40;");
        int[][] spots = {{7, 5, 0, 0}, {8, 5, 0, -2}, {7, 6, 0, -2}, {0, 0, 0, 0}, {8, 4, 1, 0}, {9, 4, 1, -2}, {8, 5, 1, -2}};
        for (int[] spot : spots) {
            due("lay at " + spot[0] + ", " + spot[1], lock.lay(0, spot[0], spot[1], spot[2] == 1), spot[3]);
            if (spot[3] == 0) {
                due("take", lock.take(0), 0);
            }
        }
        edge("Terms II", "within the FRAME, without laps;");
        for (int[] size : new int[][] {{1, 1}, {60, 60}, {1, 60}, {60, 1}, {13, 7}}) {
            lock = told("frame " + size[0] + " " + size[1] + ";block b " + size[0] + " " + size[1] + ";piece p 1 1 1;");
            due("as wide and high as the FRAME", lock.lay(0, 0, 0, false), 0);
            due("empty()", lock.empty(), 0);
            due("no point is left", lock.lay(1, size[0] - 1, size[1] - 1, false), -3);
            lock.take(0);
            due("turned", lock.lay(0, 0, 0, true), size[0] == size[1] ? 0 : -2);
        }
        for (int[] size : new int[][] {{60, 60}, {59, 60}, {60, 59}, {1, 1}}) {
            int wide = size[0];
            int high = size[1];
            lock = told("frame " + wide + " " + high + ";piece p 1 1 4;");
            due("the last point", lock.lay(0, wide - 1, high - 1, false), 0);
            due("beyond at east", lock.lay(0, wide, high - 1, false), wide == 60 ? -1 : -2);
            due("beyond at south", lock.lay(0, wide - 1, high, false), high == 60 ? -1 : -2);
        }
    }

    private static void laps() {
        edge("Promise 7", "-3: it laps on another one,");
        TypeLock lock = told("piece p 3 3 40;piece q 5 1 40;piece r 9 9 1;");
        lay(lock, 0, 10, 10, 0);
        for (int dx = -3; dx <= 3; dx++) {
            for (int dy = -3; dy <= 3; dy++) {
                boolean beside = Math.abs(dx) == 3 || Math.abs(dy) == 3;
                due("beside or on it by " + dx + ", " + dy, lock.lay(0, 10 + dx, 10 + dy, false), beside ? 1 : -3);
                if (beside) {
                    lock.take(1);
                }
            }
        }
        due("over it from side to side", lock.lay(1, 9, 11, false), -3);
        due("over it from top to bottom", lock.lay(1, 11, 9, true), -3);
        due("around it", lock.lay(2, 7, 7, false), -3);
        lay(lock, 1, 8, 9, 0, 1, 13, 8, 1);
        due("laps on the last one alone", lock.lay(1, 13, 12, false), -3);
        due("beside it", lock.lay(1, 14, 12, false), 3);
        due("on the same place", lock.lay(1, 14, 12, false), -3);
        TypeLock full = told("piece p 1 1 99;");
        for (int i = 0; i < 39; i++) {
            due("lay", full.lay(0, i, i, false), i);
            due("on the one that was laid", full.lay(0, i, i, true), -3);
        }
    }

    private static void drawer() {
        edge("Terms II", "a BLOCK once at most, of a PIECE no more than the drawer has.");
        TypeLock lock = told("block b 1 1;piece none 1 1 0;piece one 1 1 1;piece two 1 1 2;piece wood many 1 1 39;");
        due("of none", lock.lay(1, 0, 0, false), -4);
        lay(lock, 0, 0, 0, 0, 2, 1, 0, 0, 3, 2, 0, 0, 3, 3, 0, 0);
        due("a second BLOCK", lock.lay(0, 4, 0, false), -4);
        due("a second of one", lock.lay(2, 4, 0, true), -4);
        due("a third of two", lock.lay(3, 4, 0, false), -4);
        due("take one of two", lock.take(2), 3);
        lay(lock, 3, 4, 0, 0);
        due("a third of two", lock.lay(3, 5, 0, false), -4);
        for (int i = 3; i >= 0; i--) {
            due("take", lock.take(i), i);
        }
        for (int i = 0; i < 39; i++) {
            due("lay", lock.lay(4, i, 0, false), i);
        }
        due("a 40th of 39", lock.lay(4, 40, 0, false), -4);
        lay(lock, 0, 40, 0, 0);
        due("none is left", lock.count(24), 0);
    }

    private static void turned() {
        edge("Terms II", "(wide and high the other way; a PIECE as told is long from west to east);");
        TypeLock lock = told("piece p 60 1 40;block b 1 59;");
        lay(lock, 0, 0, 0, 0, 0, 0, 59, 0);
        due("told, it is wide", lock.thing(0, 3), 60);
        due("told, it is high", lock.thing(0, 4), 1);
        due("from another point on", lock.lay(0, 1, 1, false), -2);
        due("turned", lock.lay(0, 0, 1, true), -2);
        lock.take(1);
        lock.take(0);
        lay(lock, 0, 0, 0, 1, 0, 59, 0, 1);
        due("turned, it is wide", lock.thing(0, 3), 1);
        due("turned, it is high", lock.thing(1, 4), 60);
        due("turned", lock.thing(1, 5), 1);
        due("a BLOCK turned has no room", lock.lay(1, 1, 0, true), -3);
        due("a BLOCK turned is not within", lock.lay(1, 2, 0, true), -2);
        lay(lock, 1, 1, 1, 0);
        due("as told, it is high", lock.thing(2, 4), 59);
    }

    // ---- Terms II: TOUCH

    private static void touching() {
        edge("Terms II", "Two THINGS TOUCH along n points of a side if the one's side lies on the other's for n points (n above 0).");
        TypeLock lock = told("piece p 4 4 40;block b 60 30;block c 60 30;");
        lay(lock, 0, 20, 20, 0);
        for (int side = 0; side < 4; side++) {
            for (int by = -5; by <= 5; by++) {
                int x = side == EAST ? 24 : side == WEST ? 16 : 20 + by;
                int y = side == SOUTH ? 24 : side == NORTH ? 16 : 20 + by;
                lay(lock, 0, x, y, 0);
                // Points at a corner alone are 0.
                int want = Math.max(0, 4 - Math.abs(by));
                due("at " + sideName(side) + ", shifted by " + by, lock.touch(0, 1), want);
                due("the other way", lock.touch(1, 0), want);
                lock.take(1);
            }
        }
        for (int[] spot : new int[][] {{25, 20}, {15, 20}, {20, 25}, {20, 15}, {24, 24}, {16, 16}, {24, 16}, {16, 24}}) {
            lay(lock, 0, spot[0], spot[1], 0);
            due("one point between, or a corner", lock.touch(0, 1), 0);
            lock.take(1);
        }
        lock.take(0);
        lay(lock, 1, 0, 0, 0, 2, 0, 30, 0);
        due("all over the FRAME", lock.touch(0, 1), 60);
    }

    private static void wood() {
        edge("Terms II", "half counts (rounded down, for each of two that touch; once, if both are of wood);");
        for (int n : new int[] {1, 2, 3, 4, 5, 59, 60}) {
            for (String sorts : new String[] {"wood|wood ", "wood|", "|wood ", "|round ", "wood|round "}) {
                String one = sorts.substring(0, sorts.indexOf('|'));
                String other = sorts.substring(sorts.indexOf('|') + 1);
                TypeLock lock = told("piece " + one + " p " + n + " 1 1;piece " + other + "q " + n + " 1 1;");
                boolean isSoft = sorts.contains("wood");
                lay(lock, 0, 0, 0, 0, 1, 0, 1, 0);
                due(n + " points, " + sorts, lock.touch(0, 1), isSoft ? n / 2 : n);
                due("the other way", lock.touch(1, 0), isSoft ? n / 2 : n);
                lock.take(1);
                lock.take(0);
                lay(lock, 0, 0, 0, 1, 1, 1, 0, 1);
                due(n + " points, turned, " + sorts, lock.touch(1, 0), isSoft ? n / 2 : n);
            }
        }
    }

    private static void frameWood() {
        edge("Terms II", "of a FRAME's side likewise.");
        for (int side = 0; side < 4; side++) {
            for (int high : new int[] {1, 2, 3, 59, 60}) {
                int share = 100 * (high / 2) / high;
                for (int more = 0; more < 2; more++) {
                    if (share + more == 0) {
                        continue;
                    }
                    TypeLock lock = told("enough " + (share + more) + ";piece wood w 2 " + high + " 1;");
                    layAt(lock, side, 0, 0, 0);
                    due(high + " points of wood at " + sideName(side) + ", ENOUGH " + (share + more),
                            lock.borne(0, side), 1 - more);
                }
            }
        }
        TypeLock lock = told("enough 1;piece wood w 1 1 1;");
        lay(lock, 0, 0, 0, 0);
        due("half of one point is none", lock.borne(0, NORTH), 0);
    }

    // ---- Terms II: PUSHED, BORNE, HELD

    /** The fewest points of so many that are ENOUGH of a hundred. */
    private static int needed(int enough, int high) {
        int points = 0;
        while (100 * points < enough * high) {
            points++;
        }
        return points;
    }

    private static void pushedEnough() {
        edge("Terms II", "PUSHED from west: a THING of whose high ENOUGH of a hundred or more is, on its west side,");
        for (int enough : new int[] {1, 2, 33, 34, 49, 50, 51, 66, 67, 99, 100}) {
            for (int high : new int[] {1, 2, 3, 4, 50, 59, 60}) {
                int need = needed(enough, high);
                for (int side = 0; side < 4; side++) {
                    for (int points = Math.max(1, need - 1); points <= Math.min(high, need + 1); points++) {
                        TypeLock lock = told("enough " + enough + ";piece p 2 " + high + " 1;wedge " + sideName(side) + " 0 "
                                + points + ";");
                        layAt(lock, side, 0, 0, 0);
                        lock.tight(0, true);
                        due("pushed by " + points + " of " + high + " from " + sideName(side) + ", ENOUGH " + enough,
                                lock.pushed(0, side), points >= need ? 1 : 0);
                    }
                }
            }
        }
    }

    private static void pushedByFrame() {
        edge("Terms II", "(points of the FRAME's side on which it lies that some of these reach, halved if it is of wood)");
        for (int side = 0; side < 4; side++) {
            String wedge = "wedge " + sideName(side) + " ";
            TypeLock lock = told("enough 75;piece p 1 4 3;" + wedge + "0 2;" + wedge + "1 3;" + wedge + "3 60;");
            layAt(lock, side, 0, 0, 0);
            layAt(lock, side, 0, 10, 1);
            lock.tight(0, true);
            due("2 of 4", lock.pushed(0, side), 0);
            lock.tight(1, true);
            due("3 of 4: what two of them reach counts once", lock.pushed(0, side), 1);
            lock.tight(0, false);
            due("2 of 4", lock.pushed(0, side), 0);
            lock.tight(2, true);
            due("3 of 4", lock.pushed(0, side), 1);
            due("a point away from the side", lock.pushed(1, side), 0);
            lock = told("frame 5 5;enough 100;piece p 1 5 2;piece wood w 1 5 1;" + wedge + "0 60;" + wedge + "5 60;");
            boolean isAcross = side == EAST || side == WEST;
            lay(lock, 0, side == EAST ? 4 : 0, side == SOUTH ? 4 : 0, isAcross ? 0 : 1);
            lock.tight(1, true);
            due("a wedge beyond the FRAME", lock.pushed(0, side), 0);
            lock.tight(0, true);
            due("a wedge longer than the FRAME", lock.pushed(0, side), 1);
        }
        TypeLock all = told("enough 100;piece p 1 6 1;" + "wedge west 0 1;wedge west 1 2;wedge west 2 3;wedge west 3 4;"
                + "wedge west 4 5;wedge west 5 6;");
        lay(all, 0, 0, 0, 0);
        for (int wedge = 0; wedge < 6; wedge++) {
            due("less than all", all.pushed(0, WEST), 0);
            all.tight(wedge, true);
        }
        due("six of them together", all.pushed(0, WEST), 1);
    }

    private static void pushedByThings() {
        edge("Terms II", "by tight WEDGES at west");
        for (int side = 0; side < 4; side++) {
            // Two stand at the side, and one behind both, which each touches along so many of its ten points.
            for (int first = 1; first <= 9; first++) {
                for (int enough : new int[] {10, 40, 41, 50, 51, 60, 100}) {
                    TypeLock lock = told("enough " + enough + ";piece p 3 20 2;piece q 2 10 1;wedge " + sideName(side)
                            + " 0 60;wedge " + sideName(side) + " 20 60;");
                    layAt(lock, side, 0, 0, 0);
                    layAt(lock, side, 0, 20, 0);
                    layAt(lock, side, 1, 20 - first, 3);
                    due("no WEDGE is tight", lock.pushed(2, side), 0);
                    lock.tight(1, true);
                    due("the second one alone", lock.pushed(2, side), 10 * (10 - first) >= enough ? 1 : 0);
                    lock.tight(0, true);
                    due("both together", lock.pushed(2, side), 1);
                }
            }
        }
        edge("Terms II", "and THINGS that are PUSHED from west, together.");
        // One that is pushed along too few points hands nothing on, though a wedge reaches it.
        TypeLock lock = told("enough 50;piece p 3 20 2;wedge west 0 9;wedge west 0 10;");
        lay(lock, 0, 0, 0, 0, 0, 3, 0, 0);
        lock.tight(0, true);
        due("9 of 20", lock.pushed(0, WEST), 0);
        due("nothing is handed on", lock.pushed(1, WEST), 0);
        lock.tight(1, true);
        due("10 of 20", lock.pushed(0, WEST), 1);
        due("all of 20", lock.pushed(1, WEST), 1);
        due("from the other side nothing", lock.pushed(1, EAST), 0);
        TypeLock row = told("frame 40 1;piece p 1 1 40;wedge west 0 1;wedge east 0 1;");
        for (int i = 0; i < 40; i++) {
            due("lay", row.lay(0, 39 - i, 0, false), i);
        }
        row.tight(0, true);
        due("through 40 of them", row.pushed(0, WEST), 1);
        due("not from east", row.pushed(39, EAST), 0);
        row.tight(1, true);
        due("through 40 of them", row.pushed(39, EAST), 1);
        row.take(20);
        due("not over a gap", row.pushed(0, WEST), 0);
        due("not over a gap", row.pushed(38, EAST), 0);
    }

    private static void woodPushed() {
        edge("Terms II", "Of what touches one of wood, or what it touches,");
        for (int side = 0; side < 4; side++) {
            for (int points = 1; points <= 10; points++) {
                // ENOUGH is 3 of 10: 6 points of wood.
                TypeLock lock = told("enough 30;piece wood w 2 10 2;piece p 2 10 2;wedge " + sideName(side) + " 0 " + points + ";");
                layAt(lock, side, 0, 0, 0);
                lock.tight(0, true);
                due(points + " points, halved", lock.pushed(0, side), points >= 6 ? 1 : 0);
                lock = told("enough 30;piece wood w 2 10 2;piece p 2 10 2;wedge " + sideName(side) + " 0 10;");
                layAt(lock, side, 0, 0, 0);
                layAt(lock, side, 1, 10 - points, 2);
                layAt(lock, side, 0, 10 - points, 4);
                lock.tight(0, true);
                due("by one of wood, " + points, lock.pushed(1, side), points >= 6 ? 1 : 0);
                due("of wood, by all of the other", lock.pushed(2, side), points >= 6 ? 1 : 0);
            }
        }
    }

    private static void borneByFrame() {
        edge("Terms II", "BORNE at west: likewise by the FRAME's west side (all of it) and THINGS BORNE at west.");
        for (int side = 0; side < 4; side++) {
            TypeLock lock = told("enough 100;piece p 3 1 9;piece q 2 60 2;");
            layAt(lock, side, 0, 0, 0);
            layAt(lock, side, 0, 59, 0);
            layAt(lock, side, 0, 30, 1);
            due("the first point of the side", lock.borne(0, side), 1);
            due("the last point of the side", lock.borne(1, side), 1);
            due("a point away", lock.borne(2, side), 0);
            due("not PUSHED without a WEDGE", lock.pushed(0, side), 0);
            due("not at the other side", lock.borne(0, (side + 2) % 4), 0);
            lock = told("enough 100;piece p 3 1 9;piece q 2 60 9;");
            layAt(lock, side, 1, 0, 0);
            layAt(lock, side, 1, 0, 2);
            layAt(lock, side, 0, 59, 4);
            due("all of the side", lock.borne(0, side), 1);
            due("by that", lock.borne(1, side), 1);
            due("by that", lock.borne(2, side), 1);
            for (int enough : new int[] {1, 49, 50, 51, 100}) {
                lock = told("enough " + enough + ";piece p 3 2 9;piece q 2 4 9;");
                layAt(lock, side, 0, 10, 0);
                layAt(lock, side, 1, 10, 3);
                due("2 of 4, ENOUGH " + enough, lock.borne(1, side), enough <= 50 ? 1 : 0);
            }
        }
    }

    private static void leastSets() {
        edge("Terms II", "Likewise at the other sides.)");
        TypeLock lock = told("piece p 4 4 9;wedge north 0 60;wedge east 0 60;wedge south 0 60;wedge west 0 60;");
        // Each of four leans on the next one, and none on the FRAME.
        lay(lock, 0, 20, 20, 0, 0, 24, 18, 0, 0, 26, 22, 0, 0, 22, 24, 0);
        for (int wedge = 0; wedge < 4; wedge++) {
            lock.tight(wedge, true);
        }
        for (int i = 0; i < 4; i++) {
            for (int side = 0; side < 4; side++) {
                due("pushed(" + i + ", " + side + ")", lock.pushed(i, side), 0);
                due("borne(" + i + ", " + side + ")", lock.borne(i, side), 0);
            }
            due("held(" + i + ")", lock.held(i), 0);
        }
    }

    private static void heldBy() {
        edge("Terms II", "HELD ACROSS: PUSHED from west and BORNE at east, or from east and at west; HELD ALONG: by north and south"
                + " likewise.");
        int[] bonds = {2, 1, 2, 1};
        for (int side = 0; side < 4; side++) {
            int other = (side + 2) % 4;
            TypeLock lock = told("piece p 30 5 2;piece q 29 5 1;wedge " + sideName(side) + " 0 60;");
            layAt(lock, side, 0, 7, 0);
            due("not tight", lock.held(0), 0);
            lock.tight(0, true);
            due("pushed", lock.pushed(0, side), 1);
            due("but not borne opposite", lock.held(0), 0);
            layAt(lock, side, 1, 7, 30);
            due("a point short of the other side", lock.held(0), 0);
            lock.take(1);
            layAt(lock, side, 0, 7, 30);
            due("borne opposite", lock.borne(0, other), 1);
            due("held", lock.held(0), bonds[side]);
            due("and the other", lock.held(1), bonds[side]);
            due("borne on the side from which it is pushed too", lock.borne(1, side), 1);
            lock.tight(0, false);
            due("borne at both sides alone", lock.held(0), 0);
        }
        // Pushed from both sides, and borne at neither as far as it goes through a gap.
        TypeLock lock = told("piece p 29 5 2;wedge west 0 60;wedge east 0 60;");
        lay(lock, 0, 0, 0, 0, 0, 31, 0, 0);
        lock.tight(0, true);
        lock.tight(1, true);
        due("pushed from west, borne at west", lock.held(0), 0);
        due("pushed from east, borne at east", lock.held(1), 0);
    }

    private static void heldRound() {
        edge("Terms II", "HELD: one of the two; of a round one both.");
        String[] sorts = {"block b 4 4;", "piece p 4 4 1;", "piece wood w 4 4 1;", "piece round r 4 4 1;"};
        for (int sort = 0; sort < 4; sort++) {
            TypeLock lock = told("frame 4 4;" + sorts[sort] + "wedge north 0 4;wedge east 0 4;wedge south 0 4;wedge west 0 4;");
            lay(lock, 0, 0, 0, 0);
            for (int set = 0; set < 16; set++) {
                for (int wedge = 0; wedge < 4; wedge++) {
                    lock.tight(wedge, (set >> wedge & 1) == 1);
                }
                boolean across = (set & 10) != 0;
                boolean along = (set & 5) != 0;
                due("held(0), set " + set, lock.held(0), (along ? 2 : 0) + (across ? 1 : 0));
                due("holding(), set " + set, lock.holding(), (sort == 3 ? along && across : along || across) ? 1 : 0);
            }
        }
    }

    /** Four rows of ten, half of each against the next column: 63 pairs touch across, and each push needs all. */
    private static void manyPairs() {
        edge("Terms II", "(The least sets that are so.");
        for (int from = WEST; from >= EAST; from -= 2) {
            TypeLock lock = told("enough 50;piece p 6 10 40;wedge west 0 60;wedge east 0 60;");
            for (int i = 0; i < 40; i++) {
                int column = from == WEST ? i / 4 : 9 - i / 4;
                lay(lock, 0, 6 * column, 10 * (i % 4) + 5 * (i / 4 % 2), 0);
            }
            lock.tight(from == WEST ? 0 : 1, true);
            int pairs = 0;
            for (int i = 0; i < 40; i++) {
                due("pushed(" + i + ")", lock.pushed(i, from), 1);
                due("borne(" + i + ")", lock.borne(i, (from + 2) % 4), 1);
                for (int j = Math.max(0, i / 4 * 4 - 4); j < i / 4 * 4; j++) {
                    pairs += lock.touch(i, j) > 0 ? 1 : 0;
                }
            }
            due("pairs", pairs, 63);
            due("all HELD", lock.holding(), 40);
        }
    }

    // ---- Terms II: LIFTED, KEEPS

    private static void dropping() {
        edge("Terms II", "LIFTED: ROUND 1: all that are not HELD drop;");
        TypeLock lock = told("frame 40 1;piece p 1 1 40;wedge west 0 1;");
        due("none lies", lock.round(0), 0);
        due("none lies", lock.round(1), 0);
        for (int i = 0; i < 40; i++) {
            due("lay", lock.lay(0, i, 0, false), i);
        }
        due("all of 40", lock.round(1), 40);
        due("in all", lock.round(0), 40);
        due("then none", lock.round(2), 0);
        due("drops(39)", lock.drops(39), 1);
        lock.tight(0, true);
        due("all HELD", lock.round(0), 0);
        due("all HELD", lock.round(1), 0);
        due("drops(0)", lock.drops(0), 0);
        due("take one", lock.take(0), 39);
        due("all that is left", lock.round(1), 39);
        TypeLock one = told("frame 2 1;piece p 1 1 2;wedge west 0 1;");
        lay(one, 0, 0, 0, 0);
        due("one alone", one.drops(0), 1);
        due("one alone", one.round(1), 1);
        due("in all", one.round(0), 1);
        one.tight(0, true);
        lay(one, 0, 1, 0, 0);
        due("it is HELD now, with another", one.round(0), 0);
        due("it is HELD now", one.drops(0), 0);
        TypeLock other = told("frame 2 2;piece round r 2 1 1;piece p 2 1 1;wedge west 0 2;");
        lay(other, 0, 0, 0, 0, 1, 0, 1, 0);
        other.tight(0, true);
        due("a round one drops", other.drops(0), 1);
        due("the other does not", other.drops(1), 0);
        other.take(0);
        due("nor when it has the number of the round one", other.drops(0), 0);
        due("none drops", other.round(0), 0);
    }

    /**
     * Bricks in two columns, half a brick against one another: each one needs both that touch it. The first is pushed
     * but not borne, and drops; then the next is not pushed, the one after that not borne, and so on.
     */
    private static TypeLock bricks(int many) {
        TypeLock lock = told("frame 2 40;enough 100;piece p 1 2 40;piece q 1 1 1;wedge west 0 40;");
        for (int i = 0; i < many; i++) {
            boolean isLast = i == 39;
            due("lay", lock.lay(isLast ? 1 : 0, i % 2, i, false), i);
        }
        lock.tight(0, true);
        return lock;
    }

    private static void fortyRounds() {
        edge("Terms II", "ROUND 2: of the rest, as it is then, all that are not HELD; and so on until none drops.");
        TypeLock lock = bricks(40);
        due("HELD at first", lock.holding(), 39);
        for (int i = 0; i < 40; i++) {
            due("drops(" + i + ")", lock.drops(i), i + 1);
            due("round(" + (i + 1) + ")", lock.round(i + 1), 1);
        }
        due("in all", lock.round(0), 40);
        due("no ROUND 41", lock.round(41), 0);
        due("no ROUND 42", lock.round(42), 0);
        lock = bricks(39);
        due("the last one pushed, not borne; and the first: HELD", lock.holding(), 37);
        due("from both ends", lock.round(1), 2);
        due("the middle one last", lock.drops(19), 20);
        due("of the last ROUND", lock.round(20), 1);
        due("no more", lock.round(21), 0);
    }

    private static void keeping() {
        edge("Terms II", "What a THING KEEPS: how many others that are HELD are not without it (as all lies, nothing dropped).");
        TypeLock lock = told("frame 40 1;piece p 1 1 40;wedge west 0 1;");
        for (int i = 0; i < 40; i++) {
            due("lay", lock.lay(0, i, 0, false), i);
        }
        due("none HELD, none kept", lock.keeps(0), 0);
        lock.tight(0, true);
        for (int i = 0; i < 40; i++) {
            due("keeps(" + i + ")", lock.keeps(i), 39);
        }
        TypeLock one = told("frame 1 1;block b 1 1;wedge west 0 1;");
        lay(one, 0, 0, 0, 0);
        one.tight(0, true);
        due("HELD", one.held(0), 1);
        due("no others", one.keeps(0), 0);
        // Without it one is not HELD, which the bricks would lose later on only by dropping.
        TypeLock bricks = bricks(40);
        due("the loose one", bricks.keeps(0), 1);
        due("the next one: that ahead is not HELD, two touch it", bricks.keeps(1), 1);
        due("in the middle: one on each side", bricks.keeps(20), 2);
        due("the last one", bricks.keeps(39), 1);
    }

    private static void theKey() {
        edge("Terms II", "THE KEY: the one that KEEPS the most, of alike ones the least number.");
        TypeLock lock = told("frame 40 2;piece p 1 1 40;wedge west 0 1;wedge west 1 2;");
        lay(lock, 0, 5, 0, 0);
        due("one that KEEPS none", lock.key(), 0);
        lock.take(0);
        for (int i = 0; i < 38; i++) {
            due("lay", lock.lay(0, i, 0, false), i);
        }
        due("all alike", lock.key(), 0);
        lay(lock, 0, 38, 0, 0, 0, 39, 0, 0);
        lock.tight(0, true);
        due("39 each: the least number", lock.key(), 0);
        // One more of the row is gone: none is HELD, all alike.
        lock.take(39);
        due("none HELD", lock.key(), 0);
        TypeLock other = told("frame 4 2;piece p 1 1 9;piece q 2 1 2;wedge west 0 2;enough 100;");
        lay(other, 0, 0, 0, 0, 1, 0, 1, 0, 0, 1, 0, 0, 1, 2, 1, 0, 0, 2, 0, 0, 0, 3, 0, 0);
        other.tight(0, true);
        int[] keeps = {3, 1, 3, 1, 3, 3};
        for (int i = 0; i < 6; i++) {
            due("keeps(" + i + ")", other.keeps(i), keeps[i]);
        }
        due("the first of four", other.key(), 0);
        due("take", other.take(0), 5);
        due("the least of two: 1 each", other.key(), 0);
        TypeLock last = told("frame 4 2;piece p 1 1 9;piece q 2 1 2;wedge west 0 2;enough 100;");
        lay(last, 1, 0, 1, 0, 1, 2, 1, 0, 0, 3, 0, 0, 0, 1, 0, 0, 0, 2, 0, 0, 0, 0, 0, 0);
        last.tight(0, true);
        due("1 and 1, then 3 four times", last.key(), 2);
        TypeLock second = told("frame 4 2;piece p 1 1 9;piece q 2 1 2;wedge west 0 2;enough 100;");
        lay(second, 1, 0, 1, 0, 0, 1, 0, 0, 0, 2, 0, 0, 0, 3, 0, 0, 0, 0, 0, 0, 1, 2, 1, 0);
        second.tight(0, true);
        due("1, then 3 four times, then 1", second.key(), 1);
    }

    private static void seemingOnes() {
        edge("Terms II", "SEEMING: those that are not HELD, but KEEP some.");
        // A round one is pushed from north and hands that on, but is not HELD itself.
        TypeLock lock = told("frame 20 2;piece round r 1 1 20;piece p 1 1 20;wedge north 0 20;wedge west 0 1;");
        for (int x = 0; x < 20; x++) {
            lay(lock, 1, x, 1, 0, 0, x, 0, 0);
        }
        due("none is tight", lock.seeming(0), -1);
        lock.tight(0, true);
        for (int i = 0; i < 20; i++) {
            due("keeps 1", lock.keeps(2 * i + 1), 1);
            due("HELD, it keeps none", lock.keeps(2 * i), 0);
            due("seeming(" + i + ")", lock.seeming(i), 2 * i + 1);
        }
        due("no more", lock.seeming(20), -1);
        lock.take(0);
        due("the first THING of all", lock.seeming(0), 2);
        due("it KEEPS none", lock.keeps(0), 0);
        lock.take(0);
        due("the last one", lock.seeming(18), 37);
        due("no more", lock.seeming(19), -1);
        lay(lock, 0, 0, 0, 0, 1, 0, 1, 0);
        due("the last one", lock.seeming(19), 38);
        TypeLock first = told("frame 1 2;piece round r 1 1 1;piece p 1 1 1;wedge north 0 1;");
        lay(first, 0, 0, 0, 0, 1, 0, 1, 0);
        first.tight(0, true);
        due("the first THING", first.seeming(0), 0);
        due("no more", first.seeming(1), -1);
        lock.tight(1, true);
        due("HELD, they seem no more", lock.seeming(0), -1);
        due("all HELD", lock.holding(), 40);
    }

    // ---- Promises 7 to 9

    private static TypeLock some() {
        TypeLock lock = told("frame 20 10;enough 60;give=1;block b 12 3;piece p 4 2 2;piece s 1 1 99;wedge north 0 20;"
                + "wedge west 0 9;rule if x==0;");
        lay(lock, 0, 0, 0, 0, 1, 12, 0, 0);
        lock.tight(0, true);
        lock.log(0, 1, 9, false);
        lock.hold(1);
        return lock;
    }

    private static void lay() {
        edge("Promise 7", "A THING is laid: its number.");
        TypeLock lock = told("piece s 1 1 99;");
        for (int i = 0; i < 40; i++) {
            due("lay", lock.lay(0, 59 - i, 59, i % 2 == 0), i);
        }
        due("take(7)", lock.take(7), 39);
        due("the number behind the last one", lock.lay(0, 0, 0, false), 39);
    }

    private static void layNone() {
        edge("Promise 7", "NONE: no such KIND, x, y (0 .. 59), 40 are there;");
        TypeLock lock = some();
        for (int kind : new int[] {3, 13, 14, -1, MIN, MAX}) {
            due("no such KIND " + kind, lock.lay(kind, 15, 8, false), -1);
        }
        for (int out : new int[] {60, 61, -1, MIN, MAX, MAX - 3}) {
            due("x " + out, lock.lay(2, out, 8, false), -1);
            due("y " + out, lock.lay(2, 15, out, true), -1);
        }
        due("x 59, y 59 are such ones", lock.lay(2, 59, 59, false), -2);
        due("x 0, y 9", lock.lay(2, 0, 9, false), 2);
        due("x 19, y 0", lock.lay(2, 19, 0, false), 3);
        due("of no text", new TypeLock().lay(0, 0, 0, false), -1);
        TypeLock wide = told("piece s 1 1 99;");
        due("59, 59", wide.lay(0, 59, 59, false), 0);
        due("0, 0", wide.lay(0, 0, 0, false), 1);
        for (int i = 2; i < 40; i++) {
            due("lay", wide.lay(0, i, 5, false), i);
        }
        due("40 are there", wide.lay(0, 50, 50, false), -1);
        due("40 are there", wide.count(3), 40);
    }

    private static void layNotWithin() {
        edge("Promise 7", "-2: not within the FRAME,");
        TypeLock lock = some();
        due("to the east side", lock.lay(1, 16, 0, false), 2);
        lock.take(2);
        due("over the east side by one", lock.lay(1, 17, 5, false), -2);
        due("to the south side", lock.lay(1, 16, 8, false), 2);
        lock.take(2);
        due("over the south side by one", lock.lay(1, 5, 9, false), -2);
        due("turned, to the east side", lock.lay(1, 18, 6, true), 2);
        lock.take(2);
        due("turned, over the east side by one", lock.lay(1, 19, 6, true), -2);
        due("turned, over the south side by one", lock.lay(1, 18, 7, true), -2);
        due("at the FRAME's end", lock.lay(2, 20, 5, false), -2);
        due("at the FRAME's end", lock.lay(2, 5, 10, false), -2);
    }

    private static void layLaps() {
        edge("Promise 7", "(the first that is so; nothing happens).");
        TypeLock lock = some();
        String before = state(lock);
        due("NONE ahead of -2: x", lock.lay(0, 60, 9, false), -1);
        due("NONE ahead of -2: KIND", lock.lay(3, 59, 59, false), -1);
        due("NONE ahead of -3", lock.lay(3, 0, 0, false), -1);
        due("-2 ahead of -3", lock.lay(0, 9, 0, false), -2);
        due("-2 ahead of -4", lock.lay(0, 9, 9, false), -2);
        due("-3 ahead of -4", lock.lay(0, 0, 0, false), -3);
        due("-4", lock.lay(0, 5, 5, false), -4);
        dueSame("a refused lay", lock, before);
        TypeLock full = told("piece s 1 1 40;");
        for (int i = 0; i < 40; i++) {
            due("lay", full.lay(0, i, 0, false), i);
        }
        before = state(full);
        due("NONE ahead of -3 and -4: 40 are there", full.lay(0, 0, 0, false), -1);
        due("NONE ahead of -4", full.lay(0, 0, 1, false), -1);
        dueSame("a refused lay", full, before);
        TypeLock small = told("frame 2 2;piece s 1 1 1;");
        lay(small, 0, 0, 0, 0);
        due("-2 ahead of -4, none being left", small.lay(0, 2, 0, false), -2);
    }

    private static void layUsedUp() {
        edge("Promise 7", "-4: none is left of it");
        TypeLock lock = some();
        due("the second one of two", lock.lay(1, 12, 4, false), 2);
        due("a third one", lock.lay(1, 0, 6, false), -4);
        due("taken away", lock.take(1), 2);
        due("one is left", lock.lay(1, 0, 6, false), 2);
        due("none is left", lock.lay(1, 5, 6, true), -4);
    }

    private static void layFirst() {
        edge("Terms V", "(NONE is looked at ahead of -2, everywhere.)");
        TypeLock lock = told("frame 5 5;block b 1 1;piece p 7 7 1;");
        due("lay: no such KIND, not within the FRAME", lock.lay(2, 59, 59, false), -1);
        due("lay: no such x, not within the FRAME", lock.lay(1, 60, 0, false), -1);
        due("at: not within the FRAME", lock.at(5, 5), -1);
        due("at: nothing lies there", lock.at(4, 4), -2);
        due("line: a BLOCK, and it can't be", lock.line(1, 0, 10), -1);
        due("line: no such what, and it can't be", lock.line(1, 0, 2), -1);
        due("line: no such n", lock.line(241, 0, 0), -1);
        due("line: it can't be", lock.line(1, 0, 0), -2);
        due("line: it can't be", lock.line(1, 0, 12), -2);
        due("gap: a BLOCK, and it can't be", lock.gap(1, 1, 10), -1);
        due("gap: no such what, and it can't be", lock.gap(1, 1, 1), -1);
        due("gap: no such w, and it can't be", lock.gap(61, 1, 0), -1);
        due("gap: it can't be", lock.gap(1, 1, 13), -2);
        due("worst: no such n, and nothing is lacked", lock.worst(1), -1);
        due("worst: nothing is lacked", lock.worst(0), -2);
        due("key: nothing lies", lock.key(), -2);
        due("judge: none", lock.judge(), -2);
    }

    private static void take() {
        edge("Promise 8", "A THING is taken away: how many lie.");
        TypeLock lock = told("piece s 1 1 99;");
        for (int i = 0; i < 40; i++) {
            due("lay", lock.lay(0, i, 0, false), i);
        }
        due("take(39), the last one", lock.take(39), 39);
        due("take(0), the first one", lock.take(0), 38);
        for (int i = 37; i >= 0; i--) {
            due("take(" + i / 2 + ")", lock.take(i / 2), i);
        }
        due("all empty", lock.empty(), 3600);
        due("all are left", lock.count(20), 99);
    }

    private static void takeNone() {
        edge("Promise 8", "NONE, and nothing happens: no such one.");
        TypeLock lock = some();
        String before = state(lock);
        due("take(2)", lock.take(2), -1);
        for (int out : NO_THINGS) {
            due("take(" + out + ")", lock.take(out), -1);
        }
        dueSame("a refused take", lock, before);
        due("of a new object", new TypeLock().take(0), -1);
    }

    private static void thing() {
        edge("Promise 9", "Of a THING: what 0 the KIND, 1 x, 2 y, 3 wide, 4 high, 5: 1 turned, else 0.");
        TypeLock lock = told("block b 60 1;piece p 2 3 9;piece q 1 1 9;");
        lay(lock, 0, 59, 0, 1, 1, 0, 57, 0, 1, 56, 58, 1, 2, 0, 0, 0, 2, 55, 59, 1);
        int[][] want = {{0, 59, 0, 1, 60, 1}, {1, 0, 57, 2, 3, 0}, {1, 56, 58, 3, 2, 1}, {2, 0, 0, 1, 1, 0}, {2, 55, 59, 1, 1, 1}};
        for (int i = 0; i < want.length; i++) {
            for (int what = 0; what < 6; what++) {
                due("thing(" + i + ", " + what + ")", lock.thing(i, what), want[i][what]);
            }
        }
    }

    private static void thingOthers() {
        edge("Promise 9", "NONE for others.");
        TypeLock lock = some();
        for (int what = 0; what < 6; what++) {
            due("thing(2, " + what + ")", lock.thing(2, what), -1);
        }
        for (int out : NO_THINGS) {
            due("thing(" + out + ", 0)", lock.thing(out, 0), -1);
        }
        for (int what : new int[] {-1, 6, 7, MIN, MAX}) {
            due("thing(0, " + what + ")", lock.thing(0, what), -1);
        }
    }

    // ---- Promises 10 to 13

    private static void at() {
        edge("Promise 10", "The THING that lies on the point x, y; -2: none;");
        TypeLock lock = told("frame 9 8;block a 3 2;block b 60 1;");
        due("none lies", lock.at(0, 0), -2);
        lay(lock, 0, 2, 3, 0);
        for (int x = 0; x < 9; x++) {
            for (int y = 0; y < 8; y++) {
                boolean on = x >= 2 && x <= 4 && y >= 3 && y <= 4;
                due("at(" + x + ", " + y + ")", lock.at(x, y), on ? 0 : -2);
            }
        }
        lock.take(0);
        lay(lock, 0, 6, 6, 0);
        due("the last point of the FRAME", lock.at(8, 7), 0);
        lock.take(0);
        due("it is gone", lock.at(8, 7), -2);
    }

    private static void atNone() {
        edge("Promise 10", "NONE: not within the FRAME.");
        TypeLock lock = told("frame 9 8;block a 9 8;");
        lay(lock, 0, 0, 0, 0);
        due("at(8, 7)", lock.at(8, 7), 0);
        due("at(0, 0)", lock.at(0, 0), 0);
        for (int[] out : new int[][] {{9, 7}, {8, 8}, {-1, 0}, {0, -1}, {MIN, 0}, {0, MIN}, {MAX, 0}, {0, MAX}, {59, 0}, {0, 59}}) {
            due("at(" + out[0] + ", " + out[1] + ")", lock.at(out[0], out[1]), -1);
        }
        TypeLock wide = new TypeLock();
        due("at(59, 59)", wide.at(59, 59), -2);
        due("at(60, 59)", wide.at(60, 59), -1);
        due("at(59, 60)", wide.at(59, 60), -1);
    }

    private static void empty() {
        edge("Promise 11", "How many points of the FRAME are empty.");
        due("of a new object", new TypeLock().empty(), 3600);
        TypeLock lock = told("frame 1 1;block a 1 1;");
        due("one", lock.empty(), 1);
        lay(lock, 0, 0, 0, 0);
        due("none", lock.empty(), 0);
        lock = told("frame 60 59;block a 60 58;piece p 1 1 40;");
        due("all", lock.empty(), 3540);
        lay(lock, 0, 0, 1, 0);
        due("a row", lock.empty(), 60);
        for (int i = 0; i < 39; i++) {
            due("lay", lock.lay(1, i, 0, false), i + 1);
        }
        due("21 of it", lock.empty(), 21);
        lock.take(0);
        due("with the others alone", lock.empty(), 3540 - 39);
    }

    private static void touch() {
        edge("Promise 12", "Along how many points two THINGS TOUCH (as they count);");
        TypeLock lock = told("piece p 2 2 9;piece wood w 2 3 9;");
        lay(lock, 0, 0, 0, 0, 0, 2, 0, 0, 0, 4, 1, 0, 1, 6, 0, 0, 1, 8, 0, 0, 0, 20, 20, 0);
        int[][] want = {{0, 1, 2}, {1, 2, 1}, {0, 2, 0}, {2, 3, 1}, {3, 4, 1}, {0, 5, 0}, {1, 3, 0}};
        for (int[] pair : want) {
            due("touch(" + pair[0] + ", " + pair[1] + ")", lock.touch(pair[0], pair[1]), pair[2]);
            due("touch(" + pair[1] + ", " + pair[0] + ")", lock.touch(pair[1], pair[0]), pair[2]);
        }
    }

    private static void touchNone() {
        edge("Promise 12", "NONE: no such ones, one and the same.");
        TypeLock lock = some();
        due("touch(0, 1)", lock.touch(0, 1), 2);
        due("touch(0, 0)", lock.touch(0, 0), -1);
        due("touch(1, 1)", lock.touch(1, 1), -1);
        due("touch(0, 2)", lock.touch(0, 2), -1);
        due("touch(2, 0)", lock.touch(2, 0), -1);
        due("touch(2, 2)", lock.touch(2, 2), -1);
        for (int out : NO_THINGS) {
            due("touch(0, " + out + ")", lock.touch(0, out), -1);
            due("touch(" + out + ", 0)", lock.touch(out, 0), -1);
        }
    }

    private static void tight() {
        edge("Promise 13", "A WEDGE is tight, or not: true; false: no such one.");
        for (int many = 0; many <= 6; many++) {
            TypeLock lock = told("wedge west 0 1;".repeat(many));
            for (int out : new int[] {many, many + 1, 6, 7, 31, 32, -1, MIN, MAX}) {
                due("tight(" + out + ") of " + many, lock.tight(out, true), false);
                due("tight(" + out + ", false) of " + many, lock.tight(out, false), false);
            }
            due("none is tight", lock.count(6), 0);
            for (int wedge = 0; wedge < many; wedge++) {
                due("loosened ahead", lock.tight(wedge, false), true);
                due("tight", lock.tight(wedge, true), true);
                due("once more", lock.tight(wedge, true), true);
                due("so many", lock.count(6), wedge + 1);
            }
            for (int wedge = many - 1; wedge >= 0; wedge--) {
                due("loosened", lock.tight(wedge, false), true);
                due("once more", lock.tight(wedge, false), true);
                due("so many", lock.count(6), wedge);
            }
        }
    }

    // ---- Promises 14 to 17

    private static void pushed() {
        edge("Promise 14", "1 if a THING is PUSHED from a side (0 north, 1 east, 2 south, 3 west), else 0;");
        TypeLock lock = told("frame 4 4;block b 4 4;wedge north 0 4;wedge east 0 4;wedge south 0 4;wedge west 0 4;");
        lay(lock, 0, 0, 0, 0);
        for (int wedge = 0; wedge < 4; wedge++) {
            lock.tight(wedge, true);
            for (int side = 0; side < 4; side++) {
                due("WEDGE " + wedge + ", pushed(0, " + side + ")", lock.pushed(0, side), side == wedge ? 1 : 0);
            }
            lock.tight(wedge, false);
        }
    }

    private static void pushedNone() {
        edge("Promise 14", "NONE: no such ones.");
        TypeLock lock = some();
        for (int side : new int[] {4, 5, -1, MIN, MAX}) {
            due("pushed(0, " + side + ")", lock.pushed(0, side), -1);
        }
        due("pushed(2, 0)", lock.pushed(2, 0), -1);
        due("pushed(1, 3)", lock.pushed(1, 3), 0);
        for (int out : NO_THINGS) {
            due("pushed(" + out + ", 0)", lock.pushed(out, 0), -1);
        }
    }

    private static void borne() {
        edge("Promise 15", "1 if it is BORNE at a side, else 0; NONE likewise.");
        TypeLock lock = told("frame 9 9;piece p 3 3 9;");
        lay(lock, 0, 3, 0, 0, 0, 6, 3, 0, 0, 3, 6, 0, 0, 0, 3, 0);
        for (int i = 0; i < 4; i++) {
            for (int side = 0; side < 4; side++) {
                due("borne(" + i + ", " + side + ")", lock.borne(i, side), side == i ? 1 : 0);
            }
        }
        for (int side : new int[] {4, 5, -1, MIN, MAX}) {
            due("borne(0, " + side + ")", lock.borne(0, side), -1);
        }
        due("borne(4, 0)", lock.borne(4, 0), -1);
        due("borne(4, 4)", lock.borne(4, 4), -1);
        for (int out : NO_THINGS) {
            due("borne(" + out + ", 0)", lock.borne(out, 0), -1);
        }
    }

    private static void held() {
        edge("Promise 16", "3 if a THING is HELD ACROSS and ALONG, 2 ALONG alone, 1 ACROSS alone, 0 neither (whether it is round or not);");
        TypeLock lock = told("frame 4 4;piece round r 4 4 1;wedge north 0 4;wedge west 0 4;");
        lay(lock, 0, 0, 0, 0);
        int[] want = {0, 2, 1, 3};
        for (int set = 0; set < 4; set++) {
            lock.tight(0, (set & 1) != 0);
            lock.tight(1, (set & 2) != 0);
            due("held(0)", lock.held(0), want[set]);
            due("holding()", lock.holding(), set == 3 ? 1 : 0);
        }
    }

    private static void heldNone() {
        edge("Promise 16", "NONE: no such one.");
        TypeLock lock = some();
        due("held(1)", lock.held(1), 0);
        due("held(2)", lock.held(2), -1);
        for (int out : NO_THINGS) {
            due("held(" + out + ")", lock.held(out), -1);
        }
        due("of a new object", new TypeLock().held(0), -1);
    }

    private static void holding() {
        edge("Promise 17", "How many THINGS are HELD.");
        TypeLock lock = told("frame 40 1;piece p 1 1 40;wedge west 0 1;");
        due("none lies", lock.holding(), 0);
        lock.tight(0, true);
        due("none lies", lock.holding(), 0);
        for (int i = 0; i < 40; i++) {
            due("HELD, the row being open", lock.holding(), 0);
            due("lay", lock.lay(0, i, 0, false), i);
        }
        due("all of 40", lock.holding(), 40);
        lock.tight(0, false);
        due("none", lock.holding(), 0);
    }

    // ---- Promises 18 to 22

    private static void drops() {
        edge("Promise 18", "The ROUND in which a THING drops; 0: it does not;");
        TypeLock lock = told("frame 6 4;piece p 2 4 3;piece q 1 1 9;wedge west 0 4;");
        lay(lock, 0, 0, 0, 0, 0, 2, 0, 0, 0, 4, 0, 0);
        due("none tight: the first ROUND", lock.drops(0), 1);
        lock.tight(0, true);
        due("HELD", lock.drops(0), 0);
        due("HELD", lock.drops(2), 0);
        lock.take(1);
        due("not HELD", lock.drops(0), 1);
        due("not HELD", lock.drops(1), 1);
        TypeLock bricks = bricks(40);
        due("the 40th ROUND", bricks.drops(39), 40);
        due("the first one", bricks.drops(0), 1);
    }

    private static void dropsNone() {
        edge("Promise 18", "NONE: no such one.");
        TypeLock lock = some();
        due("drops(1)", lock.drops(1), 1);
        due("drops(2)", lock.drops(2), -1);
        for (int out : NO_THINGS) {
            due("drops(" + out + ")", lock.drops(out), -1);
        }
        due("of a new object", new TypeLock().drops(0), -1);
    }

    private static void round() {
        edge("Promise 19", "How many drop in a ROUND (0: in all); NONE: below 0.");
        TypeLock lock = bricks(40);
        due("round(-1)", lock.round(-1), -1);
        due("round(-2)", lock.round(-2), -1);
        due("round(MIN)", lock.round(MIN), -1);
        due("round(0)", lock.round(0), 40);
        due("round(1)", lock.round(1), 1);
        due("round(40)", lock.round(40), 1);
        due("round(41)", lock.round(41), 0);
        due("round(64)", lock.round(64), 0);
        due("round(MAX)", lock.round(MAX), 0);
        TypeLock none = new TypeLock();
        due("round(0) of none", none.round(0), 0);
        due("round(1) of none", none.round(1), 0);
        due("round(-1) of none", none.round(-1), -1);
        due("round(MAX) of none", none.round(MAX), 0);
    }

    private static void keeps() {
        edge("Promise 20", "What a THING KEEPS; NONE: no such one.");
        TypeLock lock = some();
        due("keeps(0)", lock.keeps(0), 0);
        due("keeps(1)", lock.keeps(1), 0);
        due("keeps(2)", lock.keeps(2), -1);
        for (int out : NO_THINGS) {
            due("keeps(" + out + ")", lock.keeps(out), -1);
        }
        due("of a new object", new TypeLock().keeps(0), -1);
        TypeLock row = told("frame 40 1;piece p 1 1 40;wedge west 0 1;");
        for (int i = 0; i < 40; i++) {
            due("lay", row.lay(0, i, 0, false), i);
        }
        row.tight(0, true);
        due("keeps(39)", row.keeps(39), 39);
        due("keeps(40)", row.keeps(40), -1);
    }

    private static void key() {
        edge("Promise 21", "THE KEY; -2: nothing lies.");
        due("of a new object", new TypeLock().key(), -2);
        TypeLock lock = told("frame 3 1;piece p 1 1 3;wedge west 0 1;");
        due("nothing lies", lock.key(), -2);
        lay(lock, 0, 2, 0, 0);
        due("one lies", lock.key(), 0);
        lock.take(0);
        due("nothing lies", lock.key(), -2);
        lay(lock, 0, 2, 0, 0);
        due("read()", lock.read(), 0);
        due("nothing lies", lock.key(), -2);
    }

    private static void seeming() {
        edge("Promise 22", "The i-th SEEMING one (from 0 on); NONE: not so many.");
        TypeLock lock = told("frame 2 2;piece round r 1 1 2;piece p 1 1 2;wedge north 0 2;");
        due("of none", lock.seeming(0), -1);
        lay(lock, 1, 0, 1, 0, 0, 0, 0, 0, 1, 1, 1, 0, 0, 1, 0, 0);
        due("none is tight", lock.seeming(0), -1);
        lock.tight(0, true);
        due("the first", lock.seeming(0), 1);
        due("the second", lock.seeming(1), 3);
        for (int i : new int[] {2, 3, 39, 40, 64, -1, -2, MIN, MAX}) {
            due("seeming(" + i + ")", lock.seeming(i), -1);
        }
    }
}
