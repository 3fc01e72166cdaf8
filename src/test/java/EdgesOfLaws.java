/** The edges of Terms III and of promises 23 to 31: joints, orders, what gives, shifts and bows, and what is judged. */
final class EdgesOfLaws extends Edge {
    private static final int[] NO_THINGS = {-1, -2, -40, MIN, MIN + 1, MAX, MAX - 1, 40, 41, 63, 64};
    private static final int[] NO_SIDES = {4, 5, 7, -1, -2, MIN, MAX};

    private EdgesOfLaws() {
    }

    static void all() {
        joints();
        jointsOfFrame();
        jointsCut();
        orders();
        ordersAlike();
        gives();
        shifts();
        shiftChain();
        bows();
        judged();
        joint();
        jointNone();
        longest();
        longestAlike();
        longestNone();
        order();
        ordered();
        givesNone();
        shiftNone();
        bowNone();
        judge();
        breaks();
    }

    // ---- Terms III: JOINTS

    private static void joints() {
        edge("Terms III", "JOINTS: the longest row of points, one behind the other, of a line across (y) or along (x) on which sides of"
                + " THINGS lie");
        TypeLock lock = told("piece p 1 1 40;piece q 3 1 9;");
        lay(lock, 0, 5, 5, 0);
        due("one point, its north side", lock.joint(false, 5), 1);
        due("its south side", lock.joint(false, 6), 1);
        due("its west side", lock.joint(true, 5), 1);
        due("its east side", lock.joint(true, 6), 1);
        for (int line : new int[] {4, 7, 1, 59}) {
            due("none across " + line, lock.joint(false, line), 0);
            due("none along " + line, lock.joint(true, line), 0);
        }
        // One behind the other: from both sides of the line, but not over a point between.
        lay(lock, 0, 6, 4, 0, 0, 8, 5, 0, 1, 9, 4, 0);
        due("5, then 6 from north; 8, then 9 to 11 from north", lock.joint(false, 5), 4);
        lay(lock, 0, 7, 5, 0);
        due("the point between", lock.joint(false, 5), 7);
        lock.take(0);
        due("one less at the end", lock.joint(false, 5), 6);
        lock.take(0);
        due("one less", lock.joint(false, 5), 5);
        lay(lock, 0, 7, 4, 0);
        due("what lies on both sides of it counts once", lock.joint(false, 5), 5);
        TypeLock full = told("piece p 1 60 60;");
        for (int x = 0; x < 40; x++) {
            due("lay", full.lay(0, x, 0, false), x);
        }
        for (int x = 1; x <= 40; x++) {
            due("all along " + x, full.joint(true, x), 60);
        }
        due("none along 41", full.joint(true, 41), 0);
        due("none across 30", full.joint(false, 30), 0);
        // The same from north to south.
        lock = told("piece p 1 1 40;piece q 1 3 9;");
        lay(lock, 0, 5, 6, 0, 0, 4, 7, 0, 0, 5, 9, 0, 1, 4, 10, 0);
        due("6, then 7 from west; 9, then 10 to 12 from west", lock.joint(true, 5), 4);
        lay(lock, 0, 5, 8, 0);
        due("the point between", lock.joint(true, 5), 7);
        lock.take(0);
        due("one less at the end", lock.joint(true, 5), 6);
    }

    private static void jointsOfFrame() {
        edge("Terms III", "(the FRAME's own sides aside)");
        TypeLock lock = told("frame 8 6;block b 8 6;block c 4 3;");
        lay(lock, 0, 0, 0, 0);
        for (int line = 1; line < 8; line++) {
            due("along " + line, lock.joint(true, line), 0);
            due("across " + line, lock.joint(false, line), line < 6 ? 0 : -1);
        }
        due("longest()", lock.longest(), 0);
        due("no line 0", lock.joint(true, 0), -1);
        due("no line 0", lock.joint(false, 0), -1);
        due("no line 8", lock.joint(true, 8), -1);
        due("no line 6", lock.joint(false, 6), -1);
        lock.take(0);
        lay(lock, 1, 4, 3, 0);
        due("its north side alone", lock.longest(), 403);
    }

    private static void jointsCut() {
        edge("Terms III", "and into which no THING reaches from both sides.");
        TypeLock lock = told("piece p 2 2 40;piece q 1 4 40;");
        // Four, with one that reaches over the line between the first two and the last.
        lay(lock, 0, 10, 10, 0, 0, 12, 12, 0, 1, 14, 10, 0, 0, 15, 10, 0);
        due("4 ahead of it", lock.joint(false, 12), 4);
        lock.take(2);
        due("4 without it too: nothing lies there", lock.joint(false, 12), 4);
        lay(lock, 1, 14, 12, 0);
        due("its side lies there: all", lock.joint(false, 12), 7);
        lock.take(3);
        lay(lock, 1, 14, 11, 0);
        due("it reaches into it by one point", lock.joint(false, 12), 4);
        lock.take(3);
        lay(lock, 1, 14, 9, 0);
        due("it reaches over it by one point", lock.joint(false, 12), 4);
        due("across 13: its south side alone", lock.joint(false, 13), 1);
        lock.take(3);
        lay(lock, 1, 14, 8, 0);
        due("its south side lies there: all", lock.joint(false, 12), 7);
    }

    // ---- Terms III: ORDERS

    private static void orders() {
        edge("Terms III", "ORDERS of the WEDGES: with none tight at first, one by one is made tight; behind each it is counted how many"
                + " THINGS are HELD.");
        for (int many = 0; many <= 6; many++) {
            // The last wedge holds a row of three, the one ahead a row of two, all others nothing.
            StringBuilder text = new StringBuilder("frame 6 6;piece p 2 1 9;piece q 3 1 9;");
            for (int i = 0; i < many; i++) {
                int row = many - 1 - i;
                text.append("wedge west ").append(row).append(' ').append(row + 1).append(';');
            }
            TypeLock lock = told(text.toString());
            lay(lock, 0, 0, 0, 0, 0, 2, 0, 0, 0, 4, 0, 0, 1, 0, 1, 0, 1, 3, 1, 0);
            int held = 0;
            for (int i = 0; i < many; i++) {
                held += i == 0 ? 3 : i == 1 ? 2 : 0;
                int want = i == 0 ? many - 1 : i == 1 ? many - 2 : i - 2;
                due("order(" + i + ") of " + many, lock.order(i), want);
                due("ordered(" + i + ") of " + many, lock.ordered(i), held);
            }
            due("order(" + many + ")", lock.order(many), -1);
            due("ordered(" + many + ")", lock.ordered(many), -1);
            // What is tight makes no difference, and it stays so.
            for (int i = 0; i < many; i++) {
                lock.tight(i, true);
            }
            due("ordered(0) with all tight", lock.ordered(0), many == 0 ? -1 : 3);
            due("all are tight still", lock.count(6), many);
        }
    }

    private static void ordersAlike() {
        edge("Terms III", "BEST ORDER: of all orders that with the most HELD behind the first, then behind the second, .. ; of alike ones"
                + " the first by numbers.");
        TypeLock lock = told("frame 9 9;block b 9 9;" + "wedge west 0 1;".repeat(6));
        for (int i = 0; i < 6; i++) {
            due("none lies: by numbers, " + i, lock.order(i), i);
            due("none lies", lock.ordered(i), 0);
        }
        lay(lock, 0, 0, 0, 0);
        for (int i = 0; i < 6; i++) {
            due("alike: by numbers, " + i, lock.order(i), i);
            due("alike", lock.ordered(i), 0);
        }
        // 50 of a hundred of 9 are 5 points: three of those that reach two each, as their numbers stand.
        lock = told("frame 9 9;block b 9 9;wedge west 0 1;wedge west 0 2;wedge west 2 4;wedge west 0 2;wedge west 4 6;wedge west 6 9;");
        lay(lock, 0, 0, 0, 0);
        int[] order = {1, 5, 0, 2, 3, 4};
        int[] held = {0, 1, 1, 1, 1, 1};
        for (int i = 0; i < 6; i++) {
            due("order(" + i + ")", lock.order(i), order[i]);
            due("ordered(" + i + ")", lock.ordered(i), held[i]);
        }
        // The most behind the first, though another order has more behind the second.
        lock = told("frame 10 12;enough 100;piece p 1 10 10;piece q 5 2 2;wedge west 0 5;wedge west 5 10;wedge west 10 12;");
        for (int x = 0; x < 10; x++) {
            due("lay", lock.lay(0, x, 0, false), x);
        }
        due("lay", lock.lay(1, 0, 10, false), 10);
        due("lay", lock.lay(1, 5, 10, false), 11);
        due("the one that holds two", lock.order(0), 2);
        due("two", lock.ordered(0), 2);
        due("two", lock.ordered(1), 2);
        due("all", lock.ordered(2), 12);
        due("then by numbers", lock.order(1), 0);
        ordersOfSides();
        TypeLock full = told("frame 40 1;piece p 1 1 40;wedge east 0 1;wedge west 0 1;");
        for (int x = 0; x < 40; x++) {
            due("lay", full.lay(0, x, 0, false), x);
        }
        due("40 behind the first", full.ordered(0), 40);
        due("by numbers", full.order(0), 0);
        due("40 behind the second", full.ordered(1), 40);
    }

    /** By each side one wedge holds a row or column of three, one of two; and each text has one wedge less. */
    private static void ordersOfSides() {
        for (int side = 0; side < 4; side++) {
            TypeLock lock = new TypeLock();
            for (int less = 0; less < 5; less++) {
                StringBuilder text = new StringBuilder("frame 60 60;piece p 20 1 9;piece q 30 1 9;");
                int many = 6 - less;
                for (int i = 0; i < many; i++) {
                    int row = i == many - 1 ? 0 : i == many - 2 ? 1 : 5 + i;
                    text.append("wedge ").append(sideName(side)).append(' ').append(row).append(' ').append(row + 1).append(';');
                }
                due("read()", Due.read(lock, text.toString()), 0);
                for (int i = 0; i < 3; i++) {
                    layAt(lock, side, 0, 0, 20 * i);
                }
                layAt(lock, side, 1, 1, 0);
                layAt(lock, side, 1, 1, 30);
                due("the one that holds three", lock.order(0), many - 1);
                due("three", lock.ordered(0), 3);
                due("the one that holds two", lock.order(1), many - 2);
                due("five", lock.ordered(1), 5);
                for (int i = 2; i < many; i++) {
                    due("then by numbers", lock.order(i), i - 2);
                    due("five", lock.ordered(i), 5);
                }
                due("no more", lock.order(many), -1);
            }
        }
    }

    // ---- Terms III: GIVES, SHIFT, BOW

    private static void gives() {
        edge("Terms III", "GIVES of a THING: what GIVE says, held to 0 .. 9.");
        String[] laws = {"0-1", "0", "1", "8", "9", "10", "9999", "0-9999", "2048*1024*1024", "2048*1024*1024-1", "10-x", "x-10"};
        int[] want = {0, 0, 1, 8, 9, 9, 9, 0, 0, 9, 9, 0};
        for (int i = 0; i < laws.length; i++) {
            TypeLock lock = told("give=" + laws[i] + ";block a 1 1;");
            lay(lock, 0, 0, 0, 0);
            due("gives(0) by " + laws[i], lock.gives(0), want[i]);
        }
    }

    private static void shifts() {
        edge("Terms III", "(as it counts, by 1 or more), of that one's SHIFT and what it GIVES; 0 without; likewise towards the other"
                + " sides.");
        for (int side = 0; side < 4; side++) {
            // What lies by so many points farther out touches it along 4, less those.
            for (int by = 0; by <= 5; by++) {
                TypeLock lock = told("give=3+wood;piece p 4 4 9;piece wood w 4 4 9;");
                layAt(lock, side, 0, 20, 20);
                due("without", lock.shift(0, side), 0);
                layAt(lock, side, 0, 20 + by, 16);
                due("touched by " + (4 - by), lock.shift(0, side), by <= 3 ? 3 : 0);
                due("it is not shifted itself", lock.shift(1, side), 0);
                due("nor to the other side", lock.shift(0, (side + 2) % 4), 0);
                lock.take(1);
                layAt(lock, side, 1, 20 + by, 16);
                due("touched by half of " + (4 - by), lock.shift(0, side), by <= 2 ? 4 : 0);
            }
            TypeLock lock = told("give=high+wide-4;piece p 4 4 9;piece q 4 2 9;piece r 4 1 9;");
            layAt(lock, side, 0, 20, 20);
            layAt(lock, side, 1, 20, 16);
            layAt(lock, side, 2, 22, 16);
            due("the greater one: 2 of 2 and 1", lock.shift(0, side), 2);
            layAt(lock, side, 0, 22, 12);
            due("1 and 4 behind it are more than 2", lock.shift(0, side), 5);
            due("4 of that alone", lock.shift(2, side), 4);
            due("not beside it", lock.shift(1, side), 0);
        }
    }

    private static void shiftChain() {
        edge("Terms III", "SHIFT towards east of a THING: the greatest, over the THINGS that touch its east side");
        for (int side = 0; side < 4; side++) {
            TypeLock lock = told("give=9;piece p 1 1 40;");
            for (int i = 0; i < 40; i++) {
                layAt(lock, side, 0, 7, i);
            }
            for (int i = 0; i < 40; i++) {
                due("so many ahead of " + i, lock.shift(i, side), 9 * i);
                due("so many behind " + i, lock.shift(i, (side + 2) % 4), 9 * (39 - i));
            }
            lock.take(20);
            due("up to the gap", lock.shift(20, side), 0);
            due("up to the gap", lock.shift(38, side), 9 * 18);
        }
    }

    private static void bows() {
        edge("Terms III", "BOW of a THING towards a side: among THINGS that touch its opposite side likewise (that from which it is"
                + " pushed) the greatest SHIFT towards that side less the least; 0 with fewer than two.");
        for (int side = 0; side < 4; side++) {
            int back = (side + 2) % 4;
            TypeLock lock = told("give=3;piece t 2 6 1;piece p 2 2 9;piece u 2 1 9;piece wood w 2 1 9;");
            // Seen from a side: the tall one 20 away from it, those that touch its opposite side at 22.
            layAt(lock, side, 0, 20, 20);
            due("none", lock.bow(0, side), 0);
            layAt(lock, side, 1, 19, 22);
            due("one", lock.bow(0, side), 0);
            layAt(lock, side, 1, 25, 22);
            due("two alike: 3 and 3", lock.bow(0, side), 0);
            // Two in front of the second one, beside the tall one: 3 and 3 of those.
            layAt(lock, side, 1, 26, 20);
            layAt(lock, side, 1, 26, 18);
            due("the first one", lock.shift(1, side), 3);
            due("the second one", lock.shift(2, side), 6);
            due("6 less 3", lock.bow(0, side), 3);
            layAt(lock, side, 2, 23, 22);
            due("one between, 3", lock.bow(0, side), 3);
            due("not towards the other side", lock.bow(0, back), 0);
            due("nor the others", lock.bow(0, (side + 1) % 4) + lock.bow(0, (side + 3) % 4), 0);
            lock.take(1);
            due("6 less that between", lock.bow(0, side), 3);
            lock.take(lock.count(3) - 1);
            due("one alone, 6", lock.bow(0, side), 0);
            // One of wood that touches it by one point does not count, and it would shift by 0.
            layAt(lock, side, 3, 20, 22);
            due("touched by one point of wood", lock.touch(0, lock.count(3) - 1), 0);
            due("it does not count", lock.bow(0, side), 0);
        }
    }

    private static void judged() {
        edge("Terms III", "JUDGED: the first THING for which some RULE holds: its number, and the first such RULE.");
        TypeLock lock = told("piece p 1 1 40;rule if x==39;rule if x==38 or x==39;rule if x==30 and y==0;rule if 0==1;rule if x==38;"
                + "rule if x==5;");
        for (int i = 0; i < 40; i++) {
            due("none as yet", lock.judge(), i <= 5 ? -2 : 55);
            due("lay", lock.lay(0, i, 0, false), i);
        }
        int[] take = {5, 29, 29, 35};
        int[] want = {292, 361, 351, 350};
        for (int i = 0; i < 4; i++) {
            due("take", lock.take(take[i]), 39 - i);
            due("judge()", lock.judge(), want[i]);
        }
        lock.take(35);
        due("none", lock.judge(), -2);
    }

    // ---- Promises 23 to 31

    private static void joint() {
        edge("Promise 23", "The longest JOINT of a line: across (y 1 .. high - 1) or along (x 1 .. wide - 1);");
        for (int[] size : new int[][] {{60, 60}, {7, 3}, {2, 1}, {1, 2}}) {
            int wide = size[0];
            int high = size[1];
            TypeLock lock = told("frame " + wide + " " + high + ";piece p 1 1 9;");
            lay(lock, 0, 0, 0, 0);
            if (wide > 1 || high > 1) {
                lay(lock, 0, wide - 1, high - 1, 0);
            }
            due("along 0", lock.joint(true, 0), -1);
            due("along 1", lock.joint(true, 1), wide == 1 ? -1 : 1);
            due("along the last", lock.joint(true, wide - 1), wide == 1 ? -1 : 1);
            due("along the side", lock.joint(true, wide), -1);
            due("across 0", lock.joint(false, 0), -1);
            due("across 1", lock.joint(false, 1), high == 1 ? -1 : 1);
            due("across the last", lock.joint(false, high - 1), high == 1 ? -1 : 1);
            due("across the side", lock.joint(false, high), -1);
        }
    }

    private static void jointNone() {
        edge("Promise 23", "NONE: no such one.");
        TypeLock lock = new TypeLock();
        for (int line : new int[] {0, 60, 61, -1, MIN, MAX, 64}) {
            due("along " + line, lock.joint(true, line), -1);
            due("across " + line, lock.joint(false, line), -1);
        }
        due("along 59", lock.joint(true, 59), 0);
        due("across 59", lock.joint(false, 59), 0);
        TypeLock one = told("frame 1 1;block b 1 1;");
        lay(one, 0, 0, 0, 0);
        due("a FRAME of one point has no line", one.joint(true, 1), -1);
        due("a FRAME of one point has no line", one.joint(false, 1), -1);
    }

    private static void longest() {
        edge("Promise 24", "The longest JOINT of all: 100 * it and its line (along: the line and 10000 more;");
        for (int line : new int[] {1, 30, 59}) {
            TypeLock lock = told("piece p 60 " + line + " 1;");
            lay(lock, 0, 0, 0, 0);
            due("across " + line, lock.longest(), 6000 + line);
            lock.take(0);
            lay(lock, 0, 0, 0, 1);
            due("along " + line, lock.longest(), 16000 + line);
        }
        TypeLock lock = told("piece p 1 1 9;");
        lay(lock, 0, 0, 0, 0);
        due("one point", lock.longest(), 101);
    }

    private static void longestAlike() {
        edge("Promise 24", "across first, then the least line;");
        TypeLock lock = told("piece p 1 1 9;piece q 2 1 9;");
        lay(lock, 0, 58, 58, 0);
        due("across 58, 59, along 58, 59", lock.longest(), 158);
        lay(lock, 1, 10, 50, 1);
        due("along 10, 11: 2", lock.longest(), 10210);
        lay(lock, 1, 5, 55, 1);
        due("along 5: 2", lock.longest(), 10205);
        lay(lock, 1, 20, 59, 0);
        due("across 59: 2", lock.longest(), 259);
        lay(lock, 1, 20, 40, 0);
        due("across 40: 2", lock.longest(), 240);
        lay(lock, 0, 0, 0, 0);
        due("one is less", lock.longest(), 240);
    }

    private static void longestNone() {
        edge("Promise 24", "0: there is none).");
        due("nothing lies", new TypeLock().longest(), 0);
        TypeLock lock = told("frame 1 1;block b 1 1;");
        due("nothing lies", lock.longest(), 0);
        lay(lock, 0, 0, 0, 0);
        due("no line", lock.longest(), 0);
        lock = told("frame 60 60;block b 60 60;");
        lay(lock, 0, 0, 0, 0);
        due("the FRAME's sides alone", lock.longest(), 0);
    }

    private static void order() {
        edge("Promise 25", "BEST ORDER: the WEDGE that is i-th (from 0 on); NONE: not so many.");
        for (int many = 0; many <= 6; many++) {
            TypeLock lock = told("wedge south 0 60;".repeat(many));
            for (int i = 0; i < many; i++) {
                due("order(" + i + ")", lock.order(i), i);
            }
            for (int i : new int[] {many, many + 1, 6, 7, -1, MIN, MAX}) {
                due("order(" + i + ") of " + many, lock.order(i), -1);
            }
        }
    }

    private static void ordered() {
        edge("Promise 26", "In BEST ORDER: how many are HELD behind the i-th (from 0 on); NONE likewise.");
        for (int many = 0; many <= 6; many++) {
            TypeLock lock = told("frame 1 1;block b 1 1;" + "wedge south 0 1;".repeat(many));
            for (int i = 0; i < many; i++) {
                due("ordered(" + i + ")", lock.ordered(i), 0);
            }
            lay(lock, 0, 0, 0, 0);
            for (int i = 0; i < many; i++) {
                due("ordered(" + i + ")", lock.ordered(i), 1);
            }
            for (int i : new int[] {many, many + 1, 6, 7, -1, MIN, MAX}) {
                due("ordered(" + i + ") of " + many, lock.ordered(i), -1);
            }
        }
    }

    private static TypeLock two() {
        TypeLock lock = told("give=4;piece p 2 2 9;rule if x==0;");
        lay(lock, 0, 0, 0, 0, 0, 2, 0, 0);
        return lock;
    }

    private static void givesNone() {
        edge("Promise 27", "What a THING GIVES; NONE: no such one.");
        TypeLock lock = two();
        due("gives(1)", lock.gives(1), 4);
        due("gives(2)", lock.gives(2), -1);
        for (int out : NO_THINGS) {
            due("gives(" + out + ")", lock.gives(out), -1);
        }
        lock.take(1);
        due("gives(1), taken away", lock.gives(1), -1);
        due("of a new object", new TypeLock().gives(0), -1);
    }

    private static void shiftNone() {
        edge("Promise 28", "SHIFT towards a side; NONE: no such ones.");
        TypeLock lock = two();
        due("shift(0, 1)", lock.shift(0, EAST), 4);
        due("shift(1, 3)", lock.shift(1, WEST), 4);
        due("shift(2, 0)", lock.shift(2, NORTH), -1);
        for (int out : NO_THINGS) {
            due("shift(" + out + ", 0)", lock.shift(out, NORTH), -1);
        }
        for (int side : NO_SIDES) {
            due("shift(0, " + side + ")", lock.shift(0, side), -1);
            due("shift(2, " + side + ")", lock.shift(2, side), -1);
        }
    }

    private static void bowNone() {
        edge("Promise 29", "BOW towards a side; NONE: no such ones.");
        TypeLock lock = two();
        due("bow(1, 2)", lock.bow(1, SOUTH), 0);
        due("bow(2, 0)", lock.bow(2, NORTH), -1);
        for (int out : NO_THINGS) {
            due("bow(" + out + ", 0)", lock.bow(out, NORTH), -1);
        }
        for (int side : NO_SIDES) {
            due("bow(0, " + side + ")", lock.bow(0, side), -1);
            due("bow(2, " + side + ")", lock.bow(2, side), -1);
        }
    }

    private static void judge() {
        edge("Promise 30", "JUDGED: 10 * the THING + the RULE; -2: none.");
        due("of a new object", new TypeLock().judge(), -2);
        TypeLock lock = told("piece p 1 1 40;rule if x==50;rule if x==51;rule if x==52;rule if x==53;rule if x==54;rule if y==9;");
        due("nothing lies", lock.judge(), -2);
        for (int i = 0; i < 39; i++) {
            due("lay", lock.lay(0, i, 0, false), i);
        }
        due("none", lock.judge(), -2);
        lay(lock, 0, 0, 9, 0);
        due("the last THING by the last RULE", lock.judge(), 395);
        lock.take(39);
        lay(lock, 0, 50, 0, 0);
        due("the last THING by the first RULE", lock.judge(), 390);
        lock = told("piece p 1 1 40;rule if x==0;rule if x==0;");
        lay(lock, 0, 0, 0, 0);
        due("the first THING by the first RULE", lock.judge(), 0);
        lock = told("piece p 1 1 40;");
        lay(lock, 0, 0, 0, 0);
        due("no RULE", lock.judge(), -2);
    }

    private static void breaks() {
        edge("Promise 31", "How many THINGS there are for which a RULE holds; NONE: no such RULE.");
        for (int many = 0; many <= 6; many++) {
            TypeLock lock = told("piece p 1 1 40;" + "rule if x<20;".repeat(many));
            for (int i = 0; i < many; i++) {
                due("none lies", lock.breaks(i), 0);
            }
            for (int out : new int[] {many, many + 1, 6, 7, -1, MIN, MAX}) {
                due("breaks(" + out + ") of " + many, lock.breaks(out), -1);
            }
            for (int i = 0; i < 40; i++) {
                due("lay", lock.lay(0, i, 0, false), i);
            }
            for (int i = 0; i < many; i++) {
                due("20 of 40", lock.breaks(i), 20);
            }
        }
        TypeLock all = told("piece p 1 1 40;rule if 0==0;rule if 0!=0;");
        for (int i = 0; i < 40; i++) {
            due("lay", all.lay(0, i, 0, false), i);
        }
        due("all of 40", all.breaks(0), 40);
        due("none of 40", all.breaks(1), 0);
    }
}
