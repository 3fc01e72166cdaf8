/** For each promise: ordinary inputs, the edges that the document names, and wrong inputs. */
public final class PromisesTest {
    private static final int[] ODD = {-1, -2, Integer.MIN_VALUE, Integer.MAX_VALUE};

    private PromisesTest() {
    }

    public static void main(String[] args) {
        newObject();
        feedAndBack();
        whatWentIsGone();
        readWellFormed();
        readSyntax();
        readRoom();
        readTwiceAndWrong();
        readKeepsOrChanges();
        kind();
        lay();
        takeAndThing();
        atAndEmpty();
        touch();
        tight();
        pushed();
        borne();
        held();
        drops();
        keeps();
        joints();
        orders();
        firstCountsMost();
        gives();
        shiftAndBow();
        judge();
        expressions();
        line();
        gap();
        logs();
        lack();
        pages();
        tuesday();
        slots();
        counts();
        Due.end("PromisesTest");
    }

    private static void due(String what, long got, long want) {
        Due.due(what, got, want);
    }

    private static void due(String what, boolean got, boolean want) {
        Due.due(what, got, want);
    }

    /** Lays THINGS, told as KIND, x, y, turned. */
    private static void lay(TypeLock lock, int... told) {
        for (int i = 0; i < told.length; i += 4) {
            due("lay", lock.lay(told[i], told[i + 1], told[i + 2], told[i + 3] == 1), i / 4);
        }
    }

    private static void newObject() {
        TypeLock lock = new TypeLock();
        int[] counts = {0, 0, 0, 0, 0, 0, 0, 0, 60, 60, 50};
        for (int i = 0; i < counts.length; i++) {
            due("new count(" + i + ")", lock.count(i), counts[i]);
        }
        due("new place()", lock.place(), -1);
        due("new holding()", lock.holding(), 0);
        due("new key()", lock.key(), -2);
        due("new seeming(0)", lock.seeming(0), -1);
        due("new judge()", lock.judge(), -2);
        due("new longest()", lock.longest(), 0);
        due("new worst(0)", lock.worst(0), -2);
        due("new empty()", lock.empty(), 3600);
        due("new kind(0, 0)", lock.kind(0, 0), -1);
        due("new order(0)", lock.order(0), -1);
        due("new hold(0)", lock.hold(0), true);
        due("new again(0)", lock.again(0), true);
        due("new again(1)", lock.again(1), false);
        due("NONE", TypeLock.NONE, -1);
    }

    private static void feedAndBack() {
        TypeLock lock = new TypeLock();
        due("back(0) of none", lock.back(0), 0);
        due("back(1) of none", lock.back(1), -1);
        for (int i = 1; i <= 99; i++) {
            due("feed", lock.feed(-1, 0, 1, Integer.MIN_VALUE, Integer.MAX_VALUE), 20 * i);
        }
        due("back(1)", lock.back(1), 1979);
        due("feed", lock.feed(0, 0, 0, 0, 0), 1999);
        due("feed over 2,000", lock.feed(0, 0, 0, 0, 0), -1);
        due("nothing came", lock.count(5), 1999);
        due("back(19)", lock.back(19), 1980);
        due("feed to 2,000", lock.feed(0, 0, 0, 0, 0), 2000);
        due("feed to 2,020", lock.feed(0, 0, 0, 0, 0), -1);
        due("back below 0", lock.back(-1), -1);
        due("back(MIN)", lock.back(Integer.MIN_VALUE), -1);
        due("back(MAX)", lock.back(Integer.MAX_VALUE), -1);
        due("back too many", lock.back(2001), -1);
        due("nothing went", lock.count(5), 2000);
        due("back(2000)", lock.back(2000), 0);

        // The highest byte comes first: "enou" "gh 7" ";   ".
        due("feed", lock.feed(0x656e6f75, 0x67682037, 0x3b202020, 0x20202020, 0x20202020), 20);
        due("read()", lock.read(), 0);
        due("count(10)", lock.count(10), 7);
        due("tape empty", lock.count(5), 0);
    }

    /** What went from the tape is not read, though it would go on with the last TOKEN. */
    private static void whatWentIsGone() {
        String[] fed = {"rule if x<=123456789", "block abcdefghiiiiii", "enough 1234567890123", "give=1==============",
            "frame 1 1;rule if x!"};
        int[] back = {10, 6, 9, 13, 1};
        int[] place = {10, 14, 11, 6, 19};
        for (int i = 0; i < fed.length; i++) {
            TypeLock lock = new TypeLock();
            due("feed", Due.tape(lock, Due.bytes(fed[i])), 20);
            due("back", lock.back(back[i]), 20 - back[i]);
            due("read() of a part of " + fed[i], lock.read(), 1);
            due("place() of a part of " + fed[i], lock.place(), place[i]);
        }
    }

    private static void readWellFormed() {
        TypeLock lock = Due.lock("frame\t10\r\n6;enough1;give=0;rule if x==x;block abcdefgh 1 60;wedge north 0 60;");
        due("wide", lock.count(8), 10);
        due("high", lock.count(9), 6);
        due("enough", lock.count(10), 1);
        due("kinds", lock.count(0), 1);
        due("wedges", lock.count(1), 1);
        due("rules", lock.count(2), 1);
        due("read() of nothing", lock.read(), 0);
        due("kinds", lock.count(0), 0);
        due("wide", lock.count(8), 60);
        lock = Due.lock("frame 0060 0001;frame 1 2;enough 3;enough 100;");
        due("the last frame", 100 * lock.count(8) + lock.count(9), 102);
        due("the last enough", lock.count(10), 100);
        Due.dueFault("piece wood a 1 1 0;piece round b 60 60 99;piece c 1 1 1;", 0, -1);
        Due.dueFault("wedge north 0 1;wedge east 59 60;wedge south 0 60;wedge west 1 2;", 0, -1);
        Due.dueFault("rule if not not x<1 and y<=2 or not(x+1)*2!=3/4-5 or held==0;", 0, -1);
        Due.dueFault("rule if((((((x))))))==((((((y))))))and(x)<(y);", 0, -1);
        Due.dueFault("give=1+2-3*4/(x+y*wide/high-touch+held*push+wood-round);", 0, -1);
        Due.dueFault(" \t\r\n", 0, -1);
        // Names that only begin like words, and words one behind the other.
        Due.dueFault("block xx 1 1;block framed 1 1;block i 1 1;block o 1 1;block no 1 1;", 0, -1);
        Due.dueFault("rule if x==1and not y<2or wide<=3;", 0, -1);
    }

    private static void readSyntax() {
        Due.dueFault("frame 60 60", 1, 11);
        Due.dueFault("frame 60 60   ", 1, 14);
        Due.dueFault("frame 60 ;", 1, 9);
        Due.dueFault(" ;", 1, 1);
        Due.dueFault("frames 60 60;", 1, 0);
        Due.dueFault("Frame 60 60;", 1, 0);
        Due.dueFault("frame 60 60;;", 1, 12);
        Due.dueFault("frame 12345 60;", 1, 6);
        Due.dueFault("frame 60 60x;", 1, 11);
        Due.dueFault("frame -1 60;", 1, 6);
        Due.dueFault("block abcdefghi 1 1;", 1, 6);
        Due.dueFault("block Abc 1 1;", 1, 6);
        Due.dueFault("block wood 1 1;", 1, 6);
        Due.dueFault("block round 1 1;", 1, 6);
        Due.dueFault("block 1 1;", 1, 6);
        Due.dueFault("block a 1 1 1;", 1, 12);
        Due.dueFault("piece wood round a 1 1 1;", 1, 11);
        Due.dueFault("piece x 1 1 1;", 1, 6);
        Due.dueFault("piece a 1 1;", 1, 11);
        Due.dueFault("wedge a 1 1;", 1, 6);
        Due.dueFault("wedge 1 1;", 1, 6);
        Due.dueFault("give 1;", 1, 5);
        Due.dueFault("give==1;", 1, 4);
        Due.dueFault("give=;", 1, 5);
        Due.dueFault("give=1 2;", 1, 7);
        Due.dueFault("give=a;", 1, 5);
        Due.dueFault("give=(1;", 1, 7);
        Due.dueFault("give=1);", 1, 6);
        Due.dueFault("give=();", 1, 6);
        Due.dueFault("give=-1;", 1, 5);
        Due.dueFault("give=1==1;", 1, 6);
        Due.dueFault("rule x==1;", 1, 5);
        Due.dueFault("rule if x;", 1, 9);
        Due.dueFault("rule if x=1;", 1, 9);
        Due.dueFault("rule if x!1;", 1, 9);
        Due.dueFault("rule if x! =1;", 1, 9);
        Due.dueFault("rule if x===1;", 1, 11);
        Due.dueFault("rule if x< =1;", 1, 11);
        Due.dueFault("rule if x==1==1;", 1, 12);
        Due.dueFault("rule if (x==1);", 1, 10);
        Due.dueFault("rule if x==1 and;", 1, 16);
        Due.dueFault("rule if x==1 or or y==1;", 1, 16);
        Due.dueFault("rule if not;", 1, 11);
        Due.dueFault("rule if x==not 1;", 1, 11);
        Due.dueFault("rule if x>1;", 1, 9);
        Due.dueFault("frame 60 60;\u00e9", 1, 12);
        Due.dueFault("frame 60 60;\0", 1, 12);
        Due.dueFault("frame 60\f60;", 1, 8);
    }

    private static String repeat(String text, int many) {
        StringBuilder row = new StringBuilder();
        for (int i = 0; i < many; i++) {
            row.append(text);
        }
        return row.toString();
    }

    private static String kinds(int many) {
        StringBuilder row = new StringBuilder();
        for (int i = 0; i < many; i++) {
            row.append(i % 2 == 0 ? "block " : "piece ").append((char) ('a' + i)).append(i % 2 == 0 ? " 1 1;" : " 1 1 1;");
        }
        return row.toString();
    }

    private static void readRoom() {
        // "frame 1 1;" are four TOKENS in ten bytes.
        Due.dueFault(repeat("frame 1 1;", 100), 0, -1);
        Due.dueFault(repeat("frame 1 1;", 101), 2, 1000);
        Due.dueFault(repeat("frame 1 1;", 100) + "frames", 1, 1000);
        Due.dueFault(repeat("frame 1 1;", 100) + "!", 1, 1000);
        Due.dueFault(repeat("frame 1 1;", 100) + " ", 0, -1);
        Due.dueFault(repeat("frame 1 1;", 99) + "enough 1;enough 1", 2, 1006);
        Due.dueFault(repeat("frame 1 1;", 99) + "enough 1;!", 1, 999);
        Due.dueFault("rule if " + repeat("not ", 395) + "x==1;", 2, 8 + 4 * 395 + 4);
        Due.dueFault("rule if " + repeat("not ", 394) + "x==1;", 0, -1);
        Due.dueFault("give=1" + repeat("+1", 198) + ";", 0, -1);
        Due.dueFault("give=1" + repeat("+1", 199) + ";", 2, 5 + 398);
        Due.dueFault(kinds(14), 0, -1);
        Due.dueFault(kinds(14) + "block", 2, kinds(14).length());
        Due.dueFault(kinds(14) + "piece wood", 2, kinds(14).length());
        Due.dueFault(kinds(14) + "blocks", 1, kinds(14).length());
        Due.dueFault(repeat("wedge east 0 1;", 6), 0, -1);
        Due.dueFault(repeat("wedge east 0 1;", 6) + "wedge;", 2, 90);
        Due.dueFault(repeat("rule if x<1;", 6), 0, -1);
        Due.dueFault(repeat("rule if x<1;", 6) + " rule", 2, 73);
        Due.dueFault("give=((((((1))))));", 0, -1);
        Due.dueFault("give=(((((((1)))))));", 2, 11);
        Due.dueFault("give=((((((1))))))+((((((2))))));", 0, -1);
        Due.dueFault("give=(1+(1+(1+(1+(1+(1+(1", 2, 23);
        Due.dueFault("rule if ((((((x))))))<(((((((y", 2, 28);
        // A late FAULT counts only if there is none of these two, wherever they are.
        Due.dueFault("frame 0 0;give=(((((((1", 2, 21);
        Due.dueFault("block a 1 1;block a 0 1;!", 1, 24);
    }

    private static void readTwiceAndWrong() {
        Due.dueFault("block a 1 1;piece a 1 1 1;", 3, 18);
        Due.dueFault("piece a 1 1 1;block b 1 1;block a 1 1;", 3, 32);
        Due.dueFault("block a 1 1;block a 0 1;", 3, 18);
        Due.dueFault("block a 1 0;block a 0 1;", 5, 10);
        Due.dueFault("block a 1 1;block aa 1 1;block ab 1 1;block b 1 1;", 0, -1);
        Due.dueFault("frame 0 1;", 5, 6);
        Due.dueFault("frame 60 61;", 5, 9);
        Due.dueFault("frame 61 61;frame 1 1;", 5, 6);
        Due.dueFault("block a 0 60;", 5, 8);
        Due.dueFault("block a 60 61;", 5, 11);
        Due.dueFault("piece a 61 1 1;", 5, 8);
        Due.dueFault("piece a 1 0000 1;", 5, 10);
        Due.dueFault("piece a 1 1 100;", 5, 12);
        Due.dueFault("piece round a 1 1 99;", 0, -1);
        Due.dueFault("wedge north 0 0;", 5, 14);
        Due.dueFault("wedge north 60 60;", 5, 15);
        Due.dueFault("wedge north 9 3;", 5, 14);
        Due.dueFault("wedge north 59 61;", 5, 15);
        Due.dueFault("wedge north 9999 60;", 5, 17);
        Due.dueFault("wedge north 59 60;", 0, -1);
        Due.dueFault("enough 0;", 5, 7);
        Due.dueFault("enough 101;", 5, 7);
        Due.dueFault("enough 100;", 0, -1);
        Due.dueFault("enough 101;frame 0 0;", 5, 7);
    }

    private static void readKeepsOrChanges() {
        TypeLock lock = Due.lock("frame 5 5;block a 2 2;wedge west 0 5;enough 70;rule if x<1;");
        lay(lock, 0, 0, 0, 0);
        lock.tight(0, true);
        lock.log(1, 0, 2, false);
        due("a FAULT", Due.read(lock, "frame 6 6;block a 0 1;"), 5);
        due("its place", lock.place(), 18);
        due("the tape is empty", lock.count(5), 0);
        due("wide", lock.count(8), 5);
        due("enough", lock.count(10), 70);
        due("THINGS", lock.count(3), 1);
        due("tight", lock.count(6), 1);
        due("rules", lock.count(2), 1);
        due("kind(0, 1)", lock.kind(0, 1), 2);
        due("held(0)", lock.held(0), 0);
        lock.hold(2);
        due("none", Due.read(lock, "frame 6 6;"), 0);
        due("no place", lock.place(), -1);
        due("wide", lock.count(8), 6);
        due("enough", lock.count(10), 50);
        due("THINGS", lock.count(3), 0);
        due("tight", lock.count(6), 0);
        due("kinds", lock.count(0), 0);
        due("rules", lock.count(2), 0);
        due("LOGS stay", lock.count(4), 1);
        due("SLOTS stay", lock.count(7), 1);
        due("of another text", lock.again(2), false);
    }

    private static void kind() {
        TypeLock lock = Due.lock("piece round r 3 4 5;block b 6 7;piece p 8 9 0;piece wood w 10 11 99;");
        int[][] want = {{3, 3, 4, 5}, {0, 6, 7, 1}, {1, 8, 9, 0}, {2, 10, 11, 99}};
        for (int i = 0; i < 4; i++) {
            for (int what = 0; what < 4; what++) {
                due("kind(" + i + ", " + what + ")", lock.kind(i, what), want[i][what]);
            }
            due("kind(i, 4)", lock.kind(i, 4), -1);
        }
        due("kind(4, 0)", lock.kind(4, 0), -1);
        for (int odd : ODD) {
            due("kind(odd, 0)", lock.kind(odd, 0), -1);
            due("kind(0, odd)", lock.kind(0, odd), -1);
        }
    }

    private static void lay() {
        TypeLock lock = Due.lock("frame 20 10;block b 12 3;piece p 4 2 2;piece s 1 1 99;");
        due("no such KIND", lock.lay(3, 0, 0, false), -1);
        due("NONE ahead of -2", lock.lay(0, 60, 59, false), -1);
        due("y above 59", lock.lay(0, 0, 60, false), -1);
        for (int odd : ODD) {
            due("odd KIND", lock.lay(odd, 0, 0, false), -1);
            due("odd x", lock.lay(0, odd, 0, false), -1);
            due("odd y", lock.lay(0, 0, odd, true), -1);
        }
        due("over the east side", lock.lay(0, 9, 0, false), -2);
        due("over the south side", lock.lay(0, 0, 8, false), -2);
        due("turned over the south side", lock.lay(0, 0, 0, true), -2);
        due("59, 59", lock.lay(2, 59, 59, false), -2);
        due("to the side", lock.lay(0, 8, 7, false), 0);
        due("laps ahead of used up", lock.lay(0, 8, 5, false), -3);
        due("used up", lock.lay(0, 8, 0, false), -4);
        due("turned", lock.lay(1, 6, 6, true), 1);
        due("laps by one point", lock.lay(1, 5, 9, false), -2);
        due("laps by one point", lock.lay(1, 3, 5, false), -3);
        due("beside", lock.lay(1, 2, 6, false), 2);
        due("a third one", lock.lay(1, 0, 0, false), -4);
        due("nothing happened", lock.count(3), 3);
        for (int i = 3; i < 40; i++) {
            due("lay", lock.lay(2, i % 20, i / 20, false), i);
        }
        due("40 are there", lock.lay(2, 0, 4, false), -1);
        due("40 are there", lock.lay(2, 3, 0, false), -1);
        lock.take(39);
        due("room again", lock.lay(2, 0, 4, false), 39);
    }

    private static void takeAndThing() {
        TypeLock lock = Due.lock("block a 2 3;piece p 4 5 9;block q 2 2;");
        lay(lock, 0, 0, 0, 1, 1, 10, 11, 1, 1, 20, 21, 0, 2, 50, 58, 1);
        int[][] want = {{0, 0, 0, 3, 2, 1}, {1, 10, 11, 5, 4, 1}, {1, 20, 21, 4, 5, 0}, {2, 50, 58, 2, 2, 1}};
        for (int i = 0; i < 4; i++) {
            for (int what = 0; what < 6; what++) {
                due("thing(" + i + ", " + what + ")", lock.thing(i, what), want[i][what]);
            }
            due("thing(i, 6)", lock.thing(i, 6), -1);
            due("thing(i, -1)", lock.thing(i, -1), -1);
        }
        due("thing(4, 0)", lock.thing(4, 0), -1);
        due("take(4)", lock.take(4), -1);
        for (int odd : ODD) {
            due("thing(odd, 0)", lock.thing(odd, 0), -1);
            due("take(odd)", lock.take(odd), -1);
        }
        due("take(1)", lock.take(1), 3);
        for (int what = 0; what < 6; what++) {
            due("0 stays", lock.thing(0, what), want[0][what]);
            due("2 moves up", lock.thing(1, what), want[2][what]);
            due("3 moves up", lock.thing(2, what), want[3][what]);
        }
        due("thing(3, 0)", lock.thing(3, 0), -1);
        due("take(0)", lock.take(0), 2);
        due("the BLOCK is left again", lock.lay(0, 30, 30, false), 2);
        due("take(2)", lock.take(2), 2);
        due("take(1)", lock.take(1), 1);
        due("take(0)", lock.take(0), 0);
        due("take(0) of none", lock.take(0), -1);
    }

    private static void atAndEmpty() {
        TypeLock lock = Due.lock("frame 9 8;block a 2 3;block b 3 1;");
        due("empty()", lock.empty(), 72);
        lay(lock, 0, 1, 2, 0, 1, 3, 2, 1);
        due("empty()", lock.empty(), 63);
        due("at(1, 2)", lock.at(1, 2), 0);
        due("at(2, 4)", lock.at(2, 4), 0);
        due("at(3, 4)", lock.at(3, 4), 1);
        due("at(4, 2)", lock.at(4, 2), -2);
        due("at(3, 5)", lock.at(3, 5), -2);
        due("at(1, 1)", lock.at(1, 1), -2);
        due("at(8, 7)", lock.at(8, 7), -2);
        due("at(9, 7)", lock.at(9, 7), -1);
        due("at(8, 8)", lock.at(8, 8), -1);
        for (int odd : ODD) {
            due("at(odd, 0)", lock.at(odd, 0), -1);
            due("at(0, odd)", lock.at(0, odd), -1);
        }
    }

    private static void touch() {
        TypeLock lock = Due.lock("block a 4 5;piece wood w 4 5 9;piece p 3 3 9;piece wood v 1 1 9;");
        // 0: 0..3 x 0..4; 1 east of it, a point lower; 2 of wood south of 1; 3 meets 0 at a corner alone.
        lay(lock, 0, 0, 0, 0, 2, 4, 1, 0, 1, 4, 4, 0, 2, 1, 5, 0, 3, 7, 3, 0, 1, 8, 4, 0);
        due("touch(0, 1)", lock.touch(0, 1), 3);
        due("touch(1, 0)", lock.touch(1, 0), 3);
        due("wood: half of 3", lock.touch(1, 2), 1);
        due("wood: half of 1", lock.touch(0, 2), 0);
        due("corner 1 and 4", lock.touch(2, 4), 0);
        due("south of 0: 3 points", lock.touch(0, 3), 3);
        due("half of 3", lock.touch(2, 3), 1);
        due("once, if both are of wood", lock.touch(2, 5), 2);
        due("not at all", lock.touch(0, 5), 0);
        due("one and the same", lock.touch(2, 2), -1);
        due("no such one", lock.touch(0, 6), -1);
        due("no such one", lock.touch(6, 0), -1);
        for (int odd : ODD) {
            due("touch(odd, 0)", lock.touch(odd, 0), -1);
            due("touch(0, odd)", lock.touch(0, odd), -1);
        }
    }

    private static void tight() {
        TypeLock lock = Due.lock("wedge west 0 1;wedge east 0 1;");
        due("tight(0)", lock.tight(0, true), true);
        due("tight(0) again", lock.tight(0, true), true);
        due("one", lock.count(6), 1);
        due("tight(1)", lock.tight(1, true), true);
        due("two", lock.count(6), 2);
        due("tight(2)", lock.tight(2, true), false);
        for (int odd : ODD) {
            due("tight(odd)", lock.tight(odd, true), false);
        }
        due("two", lock.count(6), 2);
        due("loose", lock.tight(0, false), true);
        due("loose again", lock.tight(0, false), true);
        due("one", lock.count(6), 1);
    }

    private static void pushed() {
        TypeLock lock = Due.lock("frame 12 10;block a 4 10;piece wood w 2 4 9;piece p 2 4 9;enough 50;"
                + "wedge west 0 3;wedge west 2 5;wedge east 0 10;wedge north 0 12;");
        // a | w (0..3) | p (1..4), and w (4..7) of which nothing stands east.
        lay(lock, 0, 0, 0, 0, 1, 4, 0, 0, 2, 6, 1, 0, 1, 4, 4, 0);
        lock.tight(0, true);
        due("3 of 10 are not enough", lock.pushed(0, 3), 0);
        lock.tight(1, true);
        due("the union, 5 of 10, is", lock.pushed(0, 3), 1);
        due("wood: half of 4 of 4", lock.pushed(1, 3), 1);
        due("wood: half of 3 of 4, and none of 1", lock.pushed(2, 3), 0);
        due("wood: half of 4 of 4", lock.pushed(3, 3), 1);
        due("no wedge at north tight", lock.pushed(0, 0), 0);
        lock.tight(3, true);
        due("from north", lock.pushed(0, 0), 1);
        due("wood at the FRAME: half of 2 of 2", lock.pushed(1, 0), 1);
        due("not at the north side", lock.pushed(2, 0), 0);
        due("wood on wood: half once", lock.pushed(3, 0), 1);
        lock.tight(2, true);
        due("nothing lies at the east side", lock.pushed(2, 1), 0);
        lay12(lock);
        due("no such THING", lock.pushed(5, 0), -1);
        due("no such side", lock.pushed(0, 4), -1);
        for (int odd : ODD) {
            due("pushed(odd, 0)", lock.pushed(odd, 0), -1);
            due("pushed(0, odd)", lock.pushed(0, odd), -1);
        }
    }

    /** One more, turned, at the east side: it hands the push on towards the west. */
    private static void lay12(TypeLock lock) {
        due("lay", lock.lay(2, 8, 2, true), 4);
        due("at the east side", lock.pushed(4, 1), 1);
        due("2 of 4 points", lock.pushed(2, 1), 1);
        due("half of 3 of 4 points", lock.pushed(1, 1), 0);
    }

    private static void borne() {
        TypeLock lock = Due.lock("frame 9 9;piece wood w 3 3 9;piece p 3 3 9;enough 34;");
        // Of wood at the FRAME: 1 of 3 is not 34 of a hundred.
        lay(lock, 0, 0, 0, 0, 1, 0, 3, 0, 1, 3, 4, 0, 1, 6, 6, 0);
        due("wood at north", lock.borne(0, 0), 0);
        due("wood at west", lock.borne(0, 3), 0);
        due("at west", lock.borne(1, 3), 1);
        due("2 of 3 points", lock.borne(2, 3), 1);
        due("1 of 3 points", lock.borne(3, 3), 0);
        due("at east", lock.borne(3, 1), 1);
        due("at south", lock.borne(3, 2), 1);
        due("nothing south of it", lock.borne(1, 2), 0);
        due("on wood", lock.borne(1, 0), 0);
        due("no such THING", lock.borne(4, 0), -1);
        due("no such side", lock.borne(0, 4), -1);
        for (int odd : ODD) {
            due("borne(odd, 0)", lock.borne(odd, 0), -1);
            due("borne(0, odd)", lock.borne(0, odd), -1);
        }
        lock = Due.lock("frame 9 9;piece wood w 3 3 9;enough 33;");
        lay(lock, 0, 0, 0, 0);
        due("33 of a hundred", lock.borne(0, 0), 1);
        lock = Due.lock("frame 3 1;piece wood w 1 1 9;enough 1;");
        lay(lock, 0, 0, 0, 0);
        due("half of 1", lock.borne(0, 0), 0);
    }

    private static void held() {
        TypeLock lock = Due.lock("frame 4 4;piece round r 4 2 2;wedge west 0 4;wedge north 0 4;wedge east 0 2;");
        lay(lock, 0, 0, 0, 0, 0, 0, 2, 0);
        due("held(0)", lock.held(0), 0);
        due("none is HELD", lock.holding(), 0);
        lock.tight(0, true);
        due("ACROSS", lock.held(0), 1);
        due("a round one wants both", lock.holding(), 0);
        lock.tight(1, true);
        due("both", lock.held(1), 3);
        due("holding()", lock.holding(), 2);
        lock.tight(0, false);
        due("ALONG", lock.held(1), 2);
        due("holding()", lock.holding(), 0);
        lock.tight(2, true);
        due("from east", lock.held(0), 3);
        due("from east", lock.held(1), 2);
        due("holding()", lock.holding(), 1);
        due("no such one", lock.held(2), -1);
        for (int odd : ODD) {
            due("held(odd)", lock.held(odd), -1);
        }
        lock = Due.lock("frame 4 4;piece p 4 2 2;wedge south 0 4;");
        lay(lock, 0, 0, 0, 0, 0, 0, 2, 0);
        lock.tight(0, true);
        due("from south", lock.held(0), 2);
        due("one of the two will do", lock.holding(), 2);
        // A push that reaches no other side holds nothing.
        lock.take(0);
        due("not borne at north", lock.held(0), 0);
        due("pushed all the same", lock.pushed(0, 2), 1);
    }

    /** 1 is HELD along by 0, a round one that is not HELD itself; 2 is held by 1 and 0. */
    private static TypeLock falling() {
        TypeLock lock = Due.lock("frame 6 6;piece round r 2 2 2;piece p 2 2 4;wedge north 0 2;wedge west 2 6;enough 50;");
        lay(lock, 0, 0, 0, 0, 1, 0, 2, 0, 1, 0, 4, 0, 1, 2, 4, 0);
        lock.tight(0, true);
        return lock;
    }

    private static void drops() {
        TypeLock lock = falling();
        due("held(0)", lock.held(0), 2);
        due("held(1)", lock.held(1), 2);
        due("held(2)", lock.held(2), 2);
        due("held(3)", lock.held(3), 0);
        due("holding()", lock.holding(), 2);
        due("drops(0)", lock.drops(0), 1);
        due("drops(3)", lock.drops(3), 1);
        due("drops(1)", lock.drops(1), 2);
        due("drops(2)", lock.drops(2), 2);
        due("round(0)", lock.round(0), 4);
        due("round(1)", lock.round(1), 2);
        due("round(2)", lock.round(2), 2);
        due("round(3)", lock.round(3), 0);
        due("round(40)", lock.round(40), 0);
        due("round(41)", lock.round(41), 0);
        due("round(MAX)", lock.round(Integer.MAX_VALUE), 0);
        due("round(-1)", lock.round(-1), -1);
        due("round(MIN)", lock.round(Integer.MIN_VALUE), -1);
        due("drops(4)", lock.drops(4), -1);
        for (int odd : ODD) {
            due("drops(odd)", lock.drops(odd), -1);
        }
        lock.tight(1, true);
        due("nothing bears it at east", lock.drops(1), 2);
        due("lay", lock.lay(1, 4, 4, false), 4);
        due("across: 2, 3, 4", lock.holding(), 4);
        due("2 stays", lock.drops(2), 0);
        due("3 stays", lock.drops(3), 0);
        due("0 drops", lock.drops(0), 1);
        due("1 drops", lock.drops(1), 2);
        due("in all", lock.round(0), 2);
    }

    private static void keeps() {
        TypeLock lock = falling();
        due("a loose one keeps", lock.keeps(0), 2);
        due("keeps(1)", lock.keeps(1), 1);
        due("keeps(2)", lock.keeps(2), 1);
        due("keeps(3)", lock.keeps(3), 0);
        due("key()", lock.key(), 0);
        due("seeming(0)", lock.seeming(0), 0);
        due("seeming(1)", lock.seeming(1), -1);
        due("keeps(4)", lock.keeps(4), -1);
        for (int odd : ODD) {
            due("keeps(odd)", lock.keeps(odd), -1);
            due("seeming(odd)", lock.seeming(odd), -1);
        }
        lock.tight(1, true);
        due("lay", lock.lay(1, 4, 4, false), 4);
        due("0 keeps 1 alone: 2 is HELD across", lock.keeps(0), 1);
        due("2 keeps 1, 3, 4", lock.keeps(2), 3);
        due("3 keeps 4, 2 stays along", lock.keeps(3), 1);
        due("key()", lock.key(), 2);
        due("of alike ones the first", Due.lock("block a 1 1;").key(), -2);
        TypeLock loose = Due.lock("block a 1 1;block b 1 1;");
        lay(loose, 0, 4, 4, 0, 1, 8, 8, 0);
        due("all KEEP 0", loose.key(), 0);
        TypeLock two = Due.lock("frame 2 4;piece round r 1 2 2;piece p 1 2 2;wedge north 0 2;");
        lay(two, 1, 0, 2, 0, 0, 0, 0, 0, 1, 1, 2, 0, 0, 1, 0, 0);
        two.tight(0, true);
        due("seeming(0)", two.seeming(0), 1);
        due("seeming(1)", two.seeming(1), 3);
        due("seeming(2)", two.seeming(2), -1);
        due("key()", two.key(), 0 + 1);
    }

    private static void joints() {
        TypeLock lock = Due.lock("frame 10 8;block a 4 4;block b 4 3;block c 2 8;");
        lay(lock, 0, 0, 0, 0, 1, 4, 0, 0, 2, 8, 0, 0);
        due("along 4: side by side, 4", lock.joint(true, 4), 4);
        due("along 8", lock.joint(true, 8), 8);
        due("along 3", lock.joint(true, 3), 0);
        due("across 4", lock.joint(false, 4), 4);
        due("across 3", lock.joint(false, 3), 4);
        due("across 7", lock.joint(false, 7), 0);
        due("along 0", lock.joint(true, 0), -1);
        due("along 9", lock.joint(true, 9), 0);
        due("along 10", lock.joint(true, 10), -1);
        due("across 8", lock.joint(false, 8), -1);
        due("longest()", lock.longest(), 800 + 8 + 10000);
        for (int odd : ODD) {
            due("joint(odd)", lock.joint(true, odd), -1);
            due("joint(odd)", lock.joint(false, odd), -1);
        }
        lock.take(2);
        due("across ahead of along, the least line", lock.longest(), 403);
        lock.take(1);
        due("4 each", lock.longest(), 404);
        TypeLock row = Due.lock("frame 9 4;piece p 3 2 9;block b 3 4;");
        lay(row, 0, 0, 0, 0, 0, 0, 2, 0, 1, 3, 0, 0, 0, 6, 0, 0, 0, 6, 2, 0);
        due("cut by one that reaches over it", row.joint(false, 2), 3);
        due("longest()", row.longest(), 400 + 3 + 10000);
    }

    private static void orders() {
        TypeLock lock = Due.lock("frame 6 6;piece p 2 2 9;wedge west 0 2;wedge north 0 6;wedge east 4 6;");
        // A row of three at north, one column at east.
        lay(lock, 0, 0, 0, 0, 0, 2, 0, 0, 0, 4, 0, 0, 0, 4, 2, 0, 0, 4, 4, 0);
        due("order(0)", lock.order(0), 0);
        due("ordered(0)", lock.ordered(0), 3);
        due("order(1)", lock.order(1), 1);
        due("ordered(1)", lock.ordered(1), 5);
        due("order(2)", lock.order(2), 2);
        due("ordered(2)", lock.ordered(2), 5);
        due("order(3)", lock.order(3), -1);
        due("ordered(3)", lock.ordered(3), -1);
        due("none is tight for that", lock.count(6), 0);
        lock.tight(2, true);
        due("nor does it matter", lock.ordered(0), 3);
        for (int odd : ODD) {
            due("order(odd)", lock.order(odd), -1);
            due("ordered(odd)", lock.ordered(odd), -1);
        }
        TypeLock late = Due.lock("frame 4 4;piece p 4 4 1;wedge north 0 1;wedge west 0 1;wedge west 1 2;wedge north 1 2;");
        lay(late, 0, 0, 0, 0);
        int[] order = {0, 3, 1, 2};
        int[] held = {0, 1, 1, 1};
        for (int i = 0; i < 4; i++) {
            due("order(" + i + ")", late.order(i), order[i]);
            due("ordered(" + i + ")", late.ordered(i), held[i]);
        }
        late.take(0);
        for (int i = 0; i < 4; i++) {
            due("by numbers", late.order(i), i);
            due("none HELD", late.ordered(i), 0);
        }
    }

    /** Two wedges that hold ten together, and nothing one by one, come behind the one that holds two alone. */
    private static void firstCountsMost() {
        TypeLock lock = Due.lock("frame 10 12;enough 100;piece p 1 10 10;piece q 5 2 2;"
                + "wedge west 0 5;wedge west 10 12;wedge west 5 10;");
        for (int x = 0; x < 10; x++) {
            due("lay", lock.lay(0, x, 0, false), x);
        }
        due("lay", lock.lay(1, 0, 10, false), 10);
        due("lay", lock.lay(1, 5, 10, false), 11);
        int[] order = {1, 0, 2};
        int[] held = {2, 2, 12};
        for (int i = 0; i < 3; i++) {
            due("order(" + i + ")", lock.order(i), order[i]);
            due("ordered(" + i + ")", lock.ordered(i), held[i]);
        }
    }

    private static void gives() {
        TypeLock lock = Due.lock("block a 2 3;piece wood w 4 5 9;wedge west 0 2;");
        lay(lock, 0, 7, 8, 0, 1, 20, 30, 1);
        due("0 if not told", lock.gives(0), 0);
        due("no such one", lock.gives(2), -1);
        for (int odd : ODD) {
            due("gives(odd)", lock.gives(odd), -1);
        }
        lock = Due.lock("give=5;give=x-3+wood*9+push;block a 2 3;piece wood w 4 5 9;wedge west 0 2;");
        lay(lock, 0, 7, 8, 0, 0 + 1, 20, 30, 1, 1, 0, 0, 0, 1, 10, 50, 0);
        due("the last GIVE told", lock.gives(0), 4);
        due("9 at most", lock.gives(1), 9);
        lock.tight(0, true);
        due("push", lock.gives(0), 5);
        lock = Due.lock("give=touch+held+high-wide;block a 2 3;block b 5 1;wedge west 0 60;enough 1;block c 60 1;");
        lay(lock, 0, 0, 0, 1, 1, 0, 2, 0, 2, 0, 3, 0);
        lock.tight(0, true);
        due("HELD it is", lock.held(2), 1);
        due("0 at least: as it lies", lock.gives(0), 0);
        due("touch and held are 0", lock.gives(2), 0);
        lock.take(0);
        lock.lay(0, 0, 5, false);
        due("as it lies", lock.gives(2), 1);
        lock = Due.lock("give=7/(x-x);block a 1 1;");
        lay(lock, 0, 0, 0, 0);
        due("divided by 0", lock.gives(0), 0);
        lock = Due.lock("give=7+(1+1/x)*0;block a 1 1;block b 1 1;");
        lay(lock, 0, 0, 0, 0, 1, 1, 0, 0);
        due("0 as a whole", lock.gives(0), 0);
        due("not divided by 0", lock.gives(1), 7);
    }

    private static void shiftAndBow() {
        TypeLock lock = Due.lock("frame 12 12;give=wide;block a 3 6;piece p 2 3 9;piece q 4 3 9;piece wood w 1 1 9;");
        // 0 | 1 over 2, behind 1 stands 3; w 4 touches 0 at one point, which does not count.
        lay(lock, 0, 0, 0, 0, 1, 3, 0, 0, 2, 3, 3, 0, 2, 5, 0, 0, 3, 0, 6, 0);
        due("3 gives 4", lock.shift(1, 1), 4);
        due("behind it none", lock.shift(3, 1), 0);
        due("4 + 2 above 4", lock.shift(0, 1), 6);
        due("2: none at east", lock.shift(2, 1), 0);
        due("to the west: 3", lock.shift(1, 3), 3);
        due("to the west: 3 + 2", lock.shift(3, 3), 5);
        due("to the north", lock.shift(2, 0), 4);
        due("to the south", lock.shift(3, 2), 4);
        due("one point of wood", lock.shift(4, 0), 0);
        due("one point of wood", lock.shift(0, 2), 0);
        due("bow of 0 towards west: what touches its east side shifts 3 and 3", lock.bow(0, 3), 0);
        due("bow of 3 towards south: 1 shifts 2 or more, one alone at north", lock.bow(3, 2), 0);
        TypeLock other = Due.lock("frame 12 12;give=wide;block a 3 6;piece p 2 3 9;piece q 4 3 9;piece s 2 6 1;");
        // East of 0 and 1 together stands 3; 4 stands west of 1.
        lay(other, 1, 2, 0, 0, 1, 2, 3, 0, 0, 4, 0, 0, 2, 7, 0, 0, 1, 0, 3, 0);
        due("0 to the west", other.shift(0, 3), 0);
        due("1 to the west", other.shift(1, 3), 2);
        due("2 is bowed towards east from 0 and 1, which shift alike", other.bow(2, 1), 0);
        due("2 to the west", other.shift(2, 3), 4);
        due("0 to the east", other.shift(0, 1), 3 + 4);
        due("2 bows towards west: 3 is alone at its east side", other.bow(2, 3), 0);
        other.take(3);
        due("lay", other.lay(2, 7, 1, true), 4);
        due("lay", other.lay(2, 7, 5, false), 5);
        due("what lies there", other.touch(2, 5), 1);
        due("4 to the west", other.shift(4, 3), 7);
        due("5 to the west", other.shift(5, 3), 7);
        for (int odd : ODD) {
            due("shift(odd, 0)", lock.shift(odd, 0), -1);
            due("shift(0, odd)", lock.shift(0, odd), -1);
            due("bow(odd, 0)", lock.bow(odd, 0), -1);
            due("bow(0, odd)", lock.bow(0, odd), -1);
        }
        due("no such THING", lock.shift(5, 0), -1);
        due("no such side", lock.shift(0, 4), -1);
        due("no such THING", lock.bow(5, 0), -1);
        due("no such side", lock.bow(0, 4), -1);
        bowOfUnlike();
    }

    /** West of a tall one stand three; behind two of them some give. It bows by what they shift. */
    private static void bowOfUnlike() {
        TypeLock lock = Due.lock("give=high;block t 2 9;piece p 3 3 9;piece q 2 2 9;");
        lay(lock, 0, 10, 10, 0, 1, 7, 10, 0, 1, 7, 13, 0, 1, 7, 16, 0, 1, 4, 10, 0, 2, 5, 13, 0, 2, 3, 13, 0);
        due("its western ones towards east", lock.shift(1, 1), 9);
        due("towards west", lock.shift(1, 3), 3);
        due("towards west, behind two", lock.shift(2, 3), 4);
        due("towards west, behind none", lock.shift(3, 3), 0);
        due("towards east the western ones shift alike", lock.bow(0, 1), 0);
        due("towards west nothing pushes from east", lock.bow(0, 3), 0);
        due("lay", lock.lay(1, 12, 10, false), 7);
        due("lay", lock.lay(2, 12, 14, false), 8);
        due("lay", lock.lay(2, 14, 14, false), 9);
        due("the eastern ones shift alike", lock.bow(0, 3), 0);
        due("7 to the west: 4 of the q, 3 and 9", lock.shift(7, 3), 16);
        due("lay", lock.lay(2, 14, 16, false), 10);
        due("9 is touched by 10", lock.touch(9, 10), 2);
        // Towards north: on 10 stands 9, on 9 none; 8 and 9 are on one line.
        due("10 to the north", lock.shift(10, 0), 2);
        due("lay", lock.lay(1, 13, 16, false), -3);
        due("lay", lock.lay(0 + 2, 12, 16, false), 11);
        due("lay", lock.lay(1, 12, 18, false), 12);
        due("11 to the north", lock.shift(11, 0), 2);
        due("12 stands below 10 and 11, which shift north alike", lock.bow(12, 2), 0);
        due("10 to the south", lock.shift(10, 2), 3);
        due("9 to the south", lock.shift(9, 2), 5);
        due("12 pushed from north towards south: 10 and 11 shift 3 each", lock.bow(12, 2), 0);
        due("take 8", lock.take(8), 12);
        due("10 is 11 now, and shifts to the north", lock.shift(10, 0), 0);
        due("9 is 10 now", lock.shift(9, 0), 2);
        due("one side of what stands on 11 shifts north by 2, one by 0", lock.bow(11, 0), 0);
        unlikeTowards();
    }

    /** Two stand east of one, and shift unlike towards west only if something else pushes one of them too. */
    private static void unlikeTowards() {
        TypeLock lock = Due.lock("give=wide;block t 2 6;piece p 4 3 9;block l 9 2;");
        // 0 at x 9..10, y 0..5; 1 and 2 east of it; 3, nine wide, west of 2 too, below 0.
        lay(lock, 0, 9, 0, 0, 1, 11, 0, 0, 1, 11, 4, 0, 2, 2, 6, 0);
        due("3 ends where 2 begins", lock.touch(2, 3), 1);
        due("1 to the west", lock.shift(1, 3), 2);
        due("2 to the west", lock.shift(2, 3), 9);
        due("0 bows towards west", lock.bow(0, 3), 7);
        due("0 does not bow towards east", lock.bow(0, 1), 0);
        due("towards north", lock.bow(0, 0), 0);
        bowTowardsEach();
    }

    /** The same towards each side: where the tall one, the two and the long one that is round lie, x and y each. */
    private static void bowTowardsEach() {
        int[][] spots = {{0, 9, 0, 11, 4, 11, 6, 2}, {9, 0, 5, 0, 5, 4, 9, 6},
            {0, 9, 0, 5, 4, 5, 6, 9}, {9, 0, 11, 0, 11, 4, 2, 6}};
        int[] kinds = {0, 1, 1, 2};
        for (int side = 0; side < 4; side++) {
            TypeLock lock = Due.lock("frame 20 20;give=2+round*7;block t 2 6;piece p 4 3 9;piece round l 9 2 1;");
            for (int i = 0; i < 4; i++) {
                due("lay", lock.lay(kinds[i], spots[side][2 * i], spots[side][2 * i + 1], side % 2 == 0), i);
            }
            due("by the tall one", lock.shift(1, side), 2);
            due("by the long one", lock.shift(2, side), 9);
            for (int towards = 0; towards < 4; towards++) {
                due("bow of the tall one towards " + towards, lock.bow(0, towards), towards == side ? 7 : 0);
            }
        }
    }

    private static void judge() {
        TypeLock lock = Due.lock("frame 10 10;block a 10 2;piece wood w 2 2 3;piece round r 2 2 3;wedge west 0 2;"
                + "rule if held==1 and touch<10;rule if wood==1;rule if x/y==2;rule if not x/y==2 and round==1;");
        due("none lies", lock.judge(), -2);
        lay(lock, 0, 0, 0, 0);
        lock.tight(0, true);
        due("touch: 10 + 2 + 2", lock.judge(), -2);
        due("breaks(0)", lock.breaks(0), 0);
        due("lay", lock.lay(2, 4, 2, false), 1);
        due("2 of round, x/y is 2", lock.judge(), 12);
        due("lay", lock.lay(1, 0, 5, false), 2);
        due("lay", lock.lay(2, 8, 4, false), 3);
        due("breaks(1)", lock.breaks(1), 1);
        due("breaks(2)", lock.breaks(2), 2);
        due("breaks(3)", lock.breaks(3), 0);
        due("take", lock.take(1), 3);
        due("the first THING, not the first RULE", lock.judge(), 11);
        due("take", lock.take(1), 2);
        due("judge()", lock.judge(), 12);
        due("lay", lock.lay(2, 0, 8, false), 2);
        due("breaks(3)", lock.breaks(3), 1);
        due("no such RULE", lock.breaks(4), -1);
        for (int odd : ODD) {
            due("breaks(odd)", lock.breaks(odd), -1);
        }
        TypeLock touched = Due.lock("frame 6 6;piece wood w 3 3 4;piece p 3 3 4;"
                + "rule if touch==4;rule if touch==2;rule if touch==8;");
        lay(touched, 0, 0, 0, 0);
        due("wood at two sides: 1 each", touched.judge(), 1);
        lay2(touched);
        due("beside another one: 1 more; that: 3 + 3 + 1", touched.breaks(0), 0);
        due("lay", touched.lay(1, 3, 3, false), 2);
        due("1: 3 + 3 + 1 + 3, 2: 3 + 3 + 3", touched.breaks(2), 0);
        due("lay", touched.lay(0, 0, 3, false), 3);
        due("0: 1 + 1 + 1 + 1; 3 likewise", touched.breaks(0), 2);
    }

    private static void lay2(TypeLock lock) {
        due("lay", lock.lay(1, 3, 0, false), 1);
    }

    /** Whether a RULE holds for a THING 3 by 5 at 7, 11 with one WEDGE of two tight. */
    private static boolean holds(String condition) {
        TypeLock lock = Due.lock("block a 3 5;wedge west 0 2;wedge east 0 2;rule if " + condition + ";");
        lay(lock, 0, 7, 11, 0);
        lock.tight(1, true);
        int judged = lock.judge();
        due("breaks(0) and judge()", lock.breaks(0) == 1, judged == 0);
        return judged == 0;
    }

    private static void dueHolds(String condition, boolean want) {
        due(condition, holds(condition), want);
    }

    private static void expressions() {
        dueHolds("x==7 and y==11 and wide==3 and high==5 and touch==0 and held==0 and push==1 and wood==0 and round==0",
                true);
        dueHolds("1+2*3==7", true);
        dueHolds("(1+2)*3==9", true);
        dueHolds("10-3-2==5", true);
        dueHolds("100/10/5==2", true);
        dueHolds("100/10*5==50", true);
        dueHolds("2-3*4/5-1==0-1", true);
        dueHolds("(0-7)/2==0-3", true);
        dueHolds("9999*9999*9999==" + wrapped(), true);
        dueHolds("0-9999*9999<0", true);
        dueHolds("x<7", false);
        dueHolds("x<=7", true);
        dueHolds("x!=7", false);
        dueHolds("x!=8", true);
        dueHolds("not x!=7", true);
        dueHolds("not not x!=7", false);
        dueHolds("x==7 or y==0 and x==0", true);
        dueHolds("x==0 and y==0 or x==7", true);
        dueHolds("x==7 and y==0 or x==0", false);
        dueHolds("not x==7 or y==11", true);
        dueHolds("not x==7 and y==11", false);
        dueHolds("x==0 or x==1 or x==2 and x==3 or x==7 and y==11", true);
        // A LIT that divides by 0 does not hold, its not does.
        dueHolds("1/0==0", false);
        dueHolds("0==1/0", false);
        dueHolds("not 1/0==0", true);
        dueHolds("1/0!=0", false);
        dueHolds("not not 1/0==0", false);
        dueHolds("1/0<9999", false);
        dueHolds("1/0==0 or x==7", true);
        dueHolds("x==7 or 1/0==0", true);
        dueHolds("x==7 and 1/0==0", false);
        dueHolds("1/(x-7)*0==(x-7)", false);
        dueHolds("7==7+0*(2/(1/2))", false);
        dueHolds("x/(0-1)==0-7", true);
        dueHolds("((((((1))))))+((((((x))))))==8", true);
        // The least number divided by -1 wraps.
        String least = "(0-2048*1024*1024)";
        dueHolds(least + "/(0-1)==" + least, true);
        dueHolds(least + "-1<0", false);
        StringBuilder deep = new StringBuilder("1+2*(1+2*(1+2*(1+2*(1+2*(1+2*(x+1*2))))))==");
        dueHolds(deep.toString() + (63 + 64 * 9), true);
    }

    private static String wrapped() {
        int product = 9999 * 9999 * 9999;
        // No INT has more than four digits.
        int positive = product < 0 ? -(product + 1) : product;
        String sum = "(" + positive / 100000000 + "*1000*1000*100+" + positive / 10000 % 10000 + "*5000*2+"
                + positive % 10000 + ")";
        return product < 0 ? "0-1-" + sum : sum;
    }

    private static void line() {
        TypeLock lock = Due.lock("block b 2 2;piece p 7 3 2;piece q 5 2 3;piece s 10 10 1;");
        due("10 is one s", lock.line(10, 0, 0), 1);
        due("which", lock.line(10, 0, 16), 1);
        due("not turned", lock.line(10, 0, 17), 0);
        due("not p", lock.line(10, 0, 12), 0);
        due("11 by a card", lock.line(11, 5, 0), 2);
        due("11 without a card: p as told, q turned twice; or p 3, 3 and q 5", lock.line(11, 0, 0), 3);
        due("the most p", lock.line(11, 0, 12), 0);
        due("the most p", lock.line(11, 0, 13), 2);
        due("11 with one card, 10 + 1 is two", lock.line(11, 1, 1), 1);
        due("12: 10 and 2, or 7 and 5; the fewest cards, then the most p", lock.line(12, 9, 12), 1);
        due("12", lock.line(12, 9, 14), 1);
        due("12", lock.line(12, 9, 1), 0);
        due("1 can't be", lock.line(1, 0, 0), -2);
        due("1 can't be", lock.line(1, 0, 12), -2);
        due("1 by a card", lock.line(1, 1, 1), 1);
        due("all: 7 7 5 5 5 10", lock.line(39, 0, 0), 6);
        due("40", lock.line(40, 0, 0), -2);
        due("nearest(40)", lock.nearest(40, 0), 39);
        due("nearest(240, 3)", lock.nearest(240, 3), 42);
        due("nearest(39)", lock.nearest(39, 0), 39);
        due("nearest(1)", lock.nearest(1, 0), 0);
        due("nearest(1, 1)", lock.nearest(1, 1), 1);
        due("nearest(4): 2 + 2", lock.nearest(4, 0), 4);
        due("a BLOCK", lock.line(10, 0, 10), -1);
        due("a BLOCK, turned", lock.line(10, 0, 11), -1);
        due("no such KIND", lock.line(10, 0, 18), -1);
        due("NONE ahead of -2", lock.line(1, 0, 18), -1);
        for (int what = 2; what < 10; what++) {
            due("no such what", lock.line(10, 0, what), -1);
        }
        due("n 241", lock.line(241, 0, 0), -1);
        due("n 0", lock.line(0, 9, 0), -1);
        due("c 100", lock.line(9, 100, 0), -1);
        due("n 241", lock.nearest(241, 0), -1);
        due("n 0", lock.nearest(0, 0), -1);
        due("c 100", lock.nearest(9, 100), -1);
        for (int odd : ODD) {
            due("line(odd)", lock.line(odd, 0, 0), -1);
            due("line(, odd)", lock.line(9, odd, 0), -1);
            due("line(,, odd)", lock.line(9, 0, odd), -1);
            due("nearest(odd)", lock.nearest(odd, 0), -1);
            due("nearest(, odd)", lock.nearest(9, odd), -1);
        }
        lay(lock, 3, 0, 0, 0);
        due("s is used up", lock.line(10, 0, 0), 2);
        due("two q", lock.line(10, 0, 14), 0);
        due("p 7 and p 3", lock.line(10, 0, 12), 1);
        due("p 7 and p 3", lock.line(10, 0, 13), 1);
        lock.take(0);
        due("s is back", lock.line(10, 0, 0), 1);
        due("square: the most as told", Due.lock("piece s 2 2 9;").line(8, 0, 10), 4);
        due("square: none turned", Due.lock("piece s 2 2 9;").line(8, 0, 11), 0);
        due("99 cards", new TypeLock().line(99, 99, 0), 99);
        due("100 points", new TypeLock().line(100, 99, 0), -2);
        due("nearest", new TypeLock().nearest(240, 99), 99);
        due("of 2 or cards as few: no cards", Due.lock("piece s 1 4 9;").line(2, 2, 1), 0);
        due("of 1 each", Due.lock("piece a 1 9 2;piece b 1 9 9;").line(5, 5, 12), 3);
        due("the longest", Due.lock("piece a 60 60 4;").line(240, 0, 0), 4);
    }

    private static void gap() {
        TypeLock lock = Due.lock("block b 2 2;piece p 6 2 9;piece q 4 3 9;piece wood s 1 1 99;");
        due("12 by 2: two p", lock.gap(12, 2, 0), 2);
        due("a ROW as told", lock.gap(12, 2, 12), 1);
        due("none turned", lock.gap(12, 2, 13), 0);
        due("12 by 3: three q", lock.gap(12, 3, 0), 3);
        due("12 by 6: p thrice, q twice or p turned: 6, 6, 6; the most ROWS of p as told", lock.gap(12, 6, 0), 6);
        due("p as told", lock.gap(12, 6, 12), 3);
        due("p turned", lock.gap(12, 6, 13), 0);
        due("q", lock.gap(12, 6, 14), 0);
        due("2 by 6: p turned", lock.gap(2, 6, 0), 1);
        due("2 by 6: p turned", lock.gap(2, 6, 13), 1);
        due("12 by 1: s", lock.gap(12, 1, 0), 12);
        due("12 by 20: p 8 of 9, then q", lock.gap(12, 20, 12), 4);
        due("12 by 20: q", lock.gap(12, 20, 14), 3);
        due("12 by 20: s", lock.gap(12, 20, 16), 3);
        due("12 by 20", lock.gap(12, 20, 0), 53);
        due("60 by 60", lock.gap(60, 60, 0), -2);
        due("5 by 1", lock.gap(5, 1, 16), 1);
        due("no what 1", lock.gap(12, 2, 1), -1);
        due("a BLOCK", lock.gap(12, 2, 10), -1);
        due("no such KIND", lock.gap(60, 60, 18), -1);
        due("w 61", lock.gap(61, 1, 0), -1);
        due("h 61", lock.gap(1, 61, 0), -1);
        due("w 0", lock.gap(0, 1, 0), -1);
        due("h 0", lock.gap(1, 0, 0), -1);
        for (int odd : ODD) {
            due("gap(odd)", lock.gap(odd, 1, 0), -1);
            due("gap(, odd)", lock.gap(1, odd, 0), -1);
            due("gap(,, odd)", lock.gap(1, 1, odd), -1);
        }
        for (int i = 0; i < 8; i++) {
            due("lay", lock.lay(1, 0, 2 * i, false), i);
        }
        due("one p is left", lock.gap(12, 2, 0), 24);
        due("60 by 60", Due.lock("piece a 60 30 2;").gap(60, 60, 0), 2);
        due("60 by 60, by the second KIND", Due.lock("piece z 7 7 1;piece a 60 30 2;").gap(60, 60, 12), 2);
        due("1 by 60", Due.lock("piece a 60 1 1;").gap(1, 60, 11), 1);
        due("60 by 1", Due.lock("piece a 60 1 1;").gap(60, 1, 10), 1);
        due("square: as told", Due.lock("piece s 2 2 9;").gap(2, 6, 10), 3);
        due("square: none turned", Due.lock("piece s 2 2 9;").gap(2, 6, 11), 0);
        due("told ahead of turned", Due.lock("piece s 2 3 99;").gap(6, 6, 10), 2);
        due("told ahead of turned", Due.lock("piece s 2 3 99;").gap(6, 6, 11) * 100
                + Due.lock("piece s 2 3 99;").gap(6, 6, 0), 6);
    }

    private static void logs() {
        TypeLock lock = new TypeLock();
        due("log", lock.log(0, 0, 0, false), 0);
        due("log", lock.log(99, 13, 99, true), 1);
        due("day 100", lock.log(100, 0, 1, true), -1);
        due("KIND 14", lock.log(0, 14, 1, true), -1);
        due("100 of it", lock.log(0, 0, 100, true), -1);
        for (int odd : ODD) {
            due("log(odd)", lock.log(odd, 0, 0, false), -1);
            due("log(, odd)", lock.log(0, odd, 0, false), -1);
            due("log(,, odd)", lock.log(0, 0, odd, false), -1);
            due("annul(odd)", lock.annul(odd), -1);
        }
        due("annul(2)", lock.annul(2), -1);
        due("annul(1)", lock.annul(1), 2);
        TypeLock first = new TypeLock();
        due("log", first.log(0, 0, 0, false), 0);
        due("annul(0)", first.annul(0), 1);
        due("annul(1), a VOID", first.annul(1), -1);
        due("a VOID", lock.annul(2), -1);
        due("annul(1) once more", lock.annul(1), 3);
        for (int i = 4; i < 60; i++) {
            due("log", lock.log(i, 1, 1, i % 2 == 0), i);
        }
        due("60 are there", lock.log(1, 1, 1, false), -1);
        due("60 are there", lock.annul(0), -1);
        due("count(4)", lock.count(4), 60);
    }

    private static void lack() {
        TypeLock lock = Due.lock("block b 1 1;piece p 1 1 5;piece q 1 1 0;");
        lock.log(10, 1, 4, false);
        lock.log(10, 1, 4, false);
        due("8 less 5", lock.lack(10, 1, 2), 3);
        due("4 less 5", lock.lack(10, 1, 1), 0);
        due("none KNOWN", lock.lack(10, 1, 0), 0);
        due("another DAY", lock.lack(11, 1, 2), 0);
        lock.log(11, 1, 9, true);
        due("bought later", lock.lack(10, 1, 3), 3);
        lock.log(9, 1, 1, true);
        due("bought ahead", lock.lack(10, 1, 4), 2);
        lock.log(10, 1, 1, true);
        due("bought on it", lock.lack(10, 1, 5), 1);
        due("as KNOWN ahead of that", lock.lack(10, 1, 4), 2);
        lock.log(50, 0, 3, false);
        due("there is one of a BLOCK", lock.lack(50, 0, 6), 2);
        due("worst(5)", lock.worst(5), 1);
        due("worst(6)", lock.worst(6), 0);
        lock.log(60, 2, 2, false);
        due("of alike ones the least", lock.worst(7), 0);
        lock.log(61, 2, 1, false);
        due("the sum over all DAYS", lock.worst(8), 2);
        due("worst(0)", lock.worst(0), -2);
        due("worst(9)", lock.worst(9), -1);
        due("the VOID", lock.annul(1), 8);
        due("who KNOWS it", lock.lack(10, 1, 9), 0);
        due("who does not", lock.lack(10, 1, 8), 1);
        due("VOID of BOUGHT", lock.annul(3), 9);
        due("4 less 5 less 1", lock.lack(10, 1, 10), 0);
        lay(lock, 1, 0, 0, 0);
        due("as the text tells, not what is left", lock.lack(10, 1, 4), 2);
        due("no such DAY", lock.lack(100, 1, 4), -1);
        due("no KIND that is there", lock.lack(10, 3, 4), -1);
        due("no such n", lock.lack(10, 1, 11), -1);
        for (int odd : ODD) {
            due("lack(odd)", lock.lack(odd, 1, 4), -1);
            due("lack(, odd)", lock.lack(10, odd, 4), -1);
            due("lack(,, odd)", lock.lack(10, 1, odd), -1);
            due("worst(odd)", lock.worst(odd), -1);
        }
        due("another text", Due.read(lock, "piece z 1 1 1;"), 0);
        due("3 are lacked", lock.lack(50, 0, 6), 2);
        due("KIND 1 is not there", lock.worst(10), 0);
        due("day 0", lock.log(0, 0, 99, false), 10);
        due("day 99", lock.log(99, 0, 99, true), 11);
        due("day 0", lock.lack(0, 0, 12), 98);
        due("bought on day 0", lock.log(0, 0, 90, true), 12);
        due("day 0", lock.lack(0, 0, 13), 8);
        due("needed on day 1", lock.log(1, 0, 95, false), 13);
        due("day 1", lock.lack(1, 0, 14), 4);
        due("the last day", lock.log(99, 0, 99, false), 14);
        due("the last day", lock.lack(99, 0, 15), 0);
    }

    private static void pages() {
        // Folded once: the west leaf on top, the east one mirrored beneath it.
        int[][] once = {{0, 0, 0, 0}, {0, 0, 1, 0}, {1, 0, 1, 0}, {1, 0, 0, 0}};
        // Folded twice: what lay in the south comes beneath, upside down.
        int[][] twice = {{0, 0, 0, 0}, {0, 0, 1, 0}, {1, 0, 1, 0}, {1, 0, 0, 0},
            {1, 1, 0, 1}, {1, 1, 1, 1}, {0, 1, 1, 1}, {0, 1, 0, 1}};
        duePages(0, new int[][] {{0, 0, 0, 0}, {0, 0, 1, 0}});
        duePages(1, once);
        duePages(2, twice);
        TypeLock lock = new TypeLock();
        // The leaf below all others lay above all others in its column, when that was folded beneath.
        due("page(3, 15, 0)", lock.page(3, 15, 0), 1);
        due("page(3, 15, 1)", lock.page(3, 15, 1), 0);
        due("page(3, 15, 2)", lock.page(3, 15, 2), 0);
        due("page(3, 15, 3)", lock.page(3, 15, 3), 0);
        due("page(5, 0, 0)", lock.page(5, 0, 0), -1);
        due("page(4, 32, 0)", lock.page(4, 32, 0), -1);
        due("lies(3, 3, 1, 0)", lock.lies(3, 3, 1, 0) >= 0, true);
        due("lies(3, 3, 2, 0)", lock.lies(3, 3, 2, 0), -1);
        due("lies(3, 4, 0, 0)", lock.lies(3, 4, 0, 0), -1);
        due("lies(5, 0, 0, 0)", lock.lies(5, 0, 0, 0), -1);
        due("lies(0, 1, 0, 0)", lock.lies(0, 1, 0, 0), -1);
        due("lies(1, 0, 1, 0)", lock.lies(1, 0, 1, 0), -1);
        due("lies(1, 0, 0, 2)", lock.lies(1, 0, 0, 2), -1);
        due("lies(2, 2, 0, 0)", lock.lies(2, 2, 0, 0), -1);
        for (int f = 0; f <= 4; f++) {
            due("lies(f, 8, 0, 0)", lock.lies(f, 8, 0, 0), -1);
            due("lies(f, 0, 8, 0)", lock.lies(f, 0, 8, 0), -1);
            due("lies(f, 16, 0, 1)", lock.lies(f, 16, 0, 1), -1);
        }
        due("lies(4, 4, 3, 0)", lock.lies(4, 4, 3, 0), -1);
        due("lies(4, 3, 4, 0)", lock.lies(4, 3, 4, 0), -1);
        for (int odd : ODD) {
            due("page(odd)", lock.page(odd, 0, 0), -1);
            due("page(, odd)", lock.page(4, odd, 0), -1);
            due("page(,, odd)", lock.page(4, 0, odd), -1);
            due("lies(odd)", lock.lies(odd, 0, 0, 0), -1);
            due("lies(, odd)", lock.lies(4, odd, 0, 0), -1);
            due("lies(,, odd)", lock.lies(4, 0, odd, 0), -1);
            due("lies(,,, odd)", lock.lies(4, 0, 0, odd), -1);
        }
    }

    private static void duePages(int f, int[][] want) {
        TypeLock lock = new TypeLock();
        for (int page = 0; page < want.length; page++) {
            for (int what = 0; what < 4; what++) {
                due("page(" + f + ", " + page + ", " + what + ")", lock.page(f, page, what), want[page][what]);
            }
            due("lies", lock.lies(f, want[page][0], want[page][1], want[page][2]), page);
            due("no what 4", lock.page(f, page, 4), -1);
        }
        due("no such page", lock.page(f, want.length, 0), -1);
    }

    private static void tuesday() {
        TypeLock lock = Due.lock("block a 2 2;piece p 3 1 9;piece q 1 1 9;");
        due("nothing is held", lock.tuesday(0, 0), -1);
        lay(lock, 0, 0, 0, 0, 1, 10, 0, 0, 1, 20, 0, 1, 1, 30, 0, 0, 2, 40, 0, 0);
        lock.hold(0);
        due("all STAY", lock.tuesday(0, 0), 5);
        due("none MOVED", lock.tuesday(0, 1), 0);
        due("none NEW", lock.tuesday(0, 2), 0);
        lock.take(1);
        due("STAY", lock.tuesday(0, 0), 4);
        due("MOVED", lock.tuesday(0, 1), 0);
        due("NEW", lock.tuesday(0, 2), 1);
        lock.lay(1, 11, 0, false);
        due("STAY", lock.tuesday(0, 0), 4);
        due("MOVED", lock.tuesday(0, 1), 1);
        due("NEW", lock.tuesday(0, 2), 0);
        lock.lay(1, 10, 30, false);
        due("one MOVED", lock.tuesday(0, 1), 1);
        lock.take(1);
        due("20, 0 went", lock.tuesday(0, 0), 3);
        due("MOVED as many as there are of both", lock.tuesday(0, 1), 2);
        lock.take(2);
        due("q went", lock.tuesday(0, 0), 2);
        due("MOVED", lock.tuesday(0, 1), 2);
        due("NEW", lock.tuesday(0, 2), 1);
        lock.take(0);
        lock.lay(0, 0, 0, true);
        due("turned is not the same", lock.tuesday(0, 0), 1);
        due("MOVED", lock.tuesday(0, 1), 3);
        due("no such SLOT", lock.tuesday(3, 0), -1);
        due("no such what", lock.tuesday(0, 3), -1);
        due("nothing is held", lock.tuesday(1, 0), -1);
        for (int odd : ODD) {
            due("tuesday(odd)", lock.tuesday(odd, 0), -1);
            due("tuesday(, odd)", lock.tuesday(0, odd), -1);
        }
        due("another text", Due.read(lock, "piece z 9 9 9;"), 0);
        due("KINDS by numbers", lock.tuesday(0, 2), 5);
        lock.lay(0, 0, 0, false);
        due("KINDS by numbers", lock.tuesday(0, 0), 1);
    }

    private static void slots() {
        TypeLock lock = Due.lock("block a 2 2;piece p 3 1 9;wedge north 0 60;wedge south 0 60;");
        lay(lock, 0, 0, 0, 0, 1, 10, 5, 1);
        lock.tight(1, true);
        due("hold(0)", lock.hold(0), true);
        due("count(7)", lock.count(7), 1);
        due("hold(2)", lock.hold(2), true);
        due("count(7)", lock.count(7), 2);
        due("hold(3)", lock.hold(3), false);
        for (int odd : ODD) {
            due("hold(odd)", lock.hold(odd), false);
            due("again(odd)", lock.again(odd), false);
        }
        due("nothing is held", lock.again(1), false);
        due("no such one", lock.again(3), false);
        lock.take(0);
        lock.tight(0, true);
        lock.tight(1, false);
        lock.hold(2);
        due("again(0)", lock.again(0), true);
        due("THINGS", lock.count(3), 2);
        due("tight", lock.count(6), 1);
        due("pushed from south", lock.pushed(0, 2), 0);
        due("thing(1, 0)", lock.thing(1, 0), 1);
        due("thing(1, 4)", lock.thing(1, 4), 3);
        due("thing(1, 5)", lock.thing(1, 5), 1);
        due("p left", lock.count(21), 8);
        due("a left", lock.count(20), 0);
        lock.take(0);
        lock.take(0);
        due("it stays there", lock.again(0), true);
        due("THINGS", lock.count(3), 2);
        due("again(2)", lock.again(2), true);
        due("THINGS", lock.count(3), 1);
        due("thing(0, 0)", lock.thing(0, 0), 1);
        due("the other WEDGE", lock.count(6), 1);
        due("a FAULT changes nothing", Due.read(lock, "!"), 1);
        due("again(0)", lock.again(0), true);
        due("another text", Due.read(lock, "block a 2 2;piece p 3 1 9;wedge north 0 60;wedge south 0 60;"), 0);
        due("laid by another text", lock.again(0), false);
        due("nothing happens", lock.count(3), 0);
        due("hold(0)", lock.hold(0), true);
        due("again(0)", lock.again(0), true);
        due("count(7)", lock.count(7), 2);
    }

    private static void counts() {
        TypeLock lock = Due.lock("frame 7 8;block a 1 1;piece p 1 1 5;piece q 2 2 0;wedge west 0 1;rule if x<0;");
        lay(lock, 0, 0, 0, 0, 1, 1, 0, 0, 1, 2, 0, 0);
        lock.feed(0, 0, 0, 0, 0);
        lock.back(3);
        lock.tight(0, true);
        lock.log(0, 0, 0, true);
        lock.hold(1);
        int[] want = {3, 1, 1, 3, 1, 17, 1, 1, 7, 8, 50};
        for (int i = 0; i < want.length; i++) {
            due("count(" + i + ")", lock.count(i), want[i]);
        }
        for (int what = 11; what < 20; what++) {
            due("count(" + what + ")", lock.count(what), -1);
        }
        due("count(20)", lock.count(20), 0);
        due("count(21)", lock.count(21), 3);
        due("count(22)", lock.count(22), 0);
        due("count(23)", lock.count(23), -1);
        for (int odd : ODD) {
            due("count(odd)", lock.count(odd), -1);
        }
    }
}
