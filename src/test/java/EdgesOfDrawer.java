import java.util.Arrays;

/** The edges of Terms IV and of promises 32 to 38: LINES, GAPS, and what the drawer lacks. */
final class EdgesOfDrawer extends Edge {
    private EdgesOfDrawer() {
    }

    static void all() {
        linePoints();
        lineCards();
        lineLeft();
        lineSides();
        lineFewest();
        lineAlike();
        nearestBelow();
        gapSize();
        gapRows();
        gapLeft();
        gapAlike();
        lackSum();
        lackNotBelow();
        worstSum();
        sixtyLogs();
        logParts();
        voids();
        line();
        lineNever();
        lineNone();
        nearest();
        gap();
        gapNever();
        gapNone();
        log();
        logNone();
        annul();
        lack();
        worst();
    }

    // ---- Terms IV: LINES

    private static void linePoints() {
        edge("Terms IV", "A LINE of n points (1 .. 240) filled with PIECES");
        TypeLock lock = told("piece p 1 1 99;piece q 47 60 3;");
        for (int n : new int[] {1, 2, 98, 99, 100, 239, 240}) {
            due("line(" + n + ", 0, 0)", lock.line(n, 0, 0), least(n, 0));
            due("line(" + n + ", 99, 0)", lock.line(n, 99, 0), least(n, 99));
            due("nearest(" + n + ", 0)", lock.nearest(n, 0), n);
        }
        for (int n : new int[] {0, 241, 242, -1, -240, MIN, MAX}) {
            due("line(" + n + ", 0, 0)", lock.line(n, 0, 0), -1);
            due("line(" + n + ", 99, 0)", lock.line(n, 99, 0), -1);
            due("nearest(" + n + ", 0)", lock.nearest(n, 0), -1);
        }
        lock = told("piece p 60 60 4;");
        due("four of 60 are 240", lock.line(240, 0, 0), 4);
        due("239 of them", lock.line(239, 0, 0), -2);
        due("239 with 59 cards", lock.line(239, 59, 0), 62);
        due("239 with 58 cards", lock.line(239, 58, 0), -2);
        lock = told("piece p 2 2 99;piece q 3 3 14;");
        due("all there are: 99 and 14", lock.line(240, 0, 0), 113);
        lock = told("piece p 2 2 99;piece q 3 3 13;");
        due("one less", lock.line(240, 0, 0), -2);
        due("with three cards", lock.line(240, 3, 0), 115);
        due("with two", lock.line(240, 2, 0), -2);
    }

    /** The fewest of 1 point (99 of it), 47 and 60 (three together), and cards. */
    private static int least(int n, int cards) {
        int best = -2;
        for (int told = 0; told <= 3; told++) {
            for (int turned = 0; told + turned <= 3; turned++) {
                int rest = n - 47 * told - 60 * turned;
                if (rest >= 0 && rest <= 99 + cards && (best < 0 || told + turned + rest < best)) {
                    best = told + turned + rest;
                }
            }
        }
        return best;
    }

    private static void lineCards() {
        edge("Terms IV", "and cards (one point each, c at most, 0 .. 99):");
        TypeLock lock = new TypeLock();
        for (int c : new int[] {1, 2, 98, 99}) {
            due("as many points as cards, " + c, lock.line(c, c, 0), c);
            due("all cards", lock.line(c, c, 1), c);
            due("a card less", lock.line(c, c - 1, 0), -2);
            due("a point more", lock.line(c + 1, c, 0), -2);
        }
        due("no card, no PIECE", lock.line(1, 0, 0), -2);
        due("more cards than points", lock.line(1, 99, 1), 1);
        for (int c : new int[] {100, 101, -1, -99, MIN, MAX}) {
            due("line(5, " + c + ", 0)", lock.line(5, c, 0), -1);
            due("nearest(5, " + c + ")", lock.nearest(5, c), -1);
        }
        due("nearest(240, 99)", lock.nearest(240, 99), 99);
        due("nearest(99, 99)", lock.nearest(99, 99), 99);
        due("nearest(98, 99)", lock.nearest(98, 99), 98);
        TypeLock piece = told("piece p 10 7 1;");
        due("10 and 2 cards", piece.line(12, 2, 0), 3);
        due("2 cards", piece.line(12, 2, 1), 2);
        due("one card", piece.line(12, 1, 0), -2);
        due("7 and 1 card", piece.line(8, 1, 1), 1);
        due("all 109", piece.line(109, 99, 0), 100);
        due("110", piece.line(110, 99, 0), -2);
    }

    private static void lineLeft() {
        edge("Terms IV", "that are left in the drawer,");
        TypeLock lock = told("piece p 5 5 3;piece none 1 1 0;");
        due("three", lock.line(15, 0, 0), 3);
        due("no fourth one", lock.line(20, 0, 0), -2);
        due("nothing of none", lock.line(1, 0, 0), -2);
        lay(lock, 0, 0, 0, 0);
        due("two are left", lock.line(15, 0, 0), -2);
        due("two are left", lock.line(10, 0, 10), 2);
        lay(lock, 0, 10, 0, 0, 0, 20, 0, 0);
        due("none is left", lock.line(5, 0, 0), -2);
        due("none is left, but cards", lock.line(5, 5, 10), 0);
        due("take", lock.take(1), 2);
        due("one is left again", lock.line(5, 0, 0), 1);
        due("hold", lock.hold(0), true);
        due("take", lock.take(1), 1);
        due("two are left", lock.line(10, 0, 0), 2);
        due("again", lock.again(0), true);
        due("one is left", lock.line(10, 0, 0), -2);
    }

    private static void lineSides() {
        edge("Terms IV", "laid one behind the other with their long sides, or broad sides (turned),");
        TypeLock lock = told("piece p 7 4 2;");
        int[] points = {4, 7, 8, 11, 14};
        int[] told = {0, 1, 0, 1, 2};
        int[] turned = {1, 0, 2, 1, 0};
        for (int n = 1; n <= 20; n++) {
            int at = Arrays.binarySearch(points, n);
            due("line(" + n + ", 0, 0)", lock.line(n, 0, 0), at < 0 ? -2 : told[at] + turned[at]);
            due("line(" + n + ", 0, 10)", lock.line(n, 0, 10), at < 0 ? -2 : told[at]);
            due("line(" + n + ", 0, 11)", lock.line(n, 0, 11), at < 0 ? -2 : turned[at]);
        }
        lock = told("piece p 60 1 4;");
        due("broad sides of 1", lock.line(4, 0, 11), 4);
        due("long sides of 60", lock.line(240, 0, 10), 4);
        due("both", lock.line(122, 0, 11), 2);
        lock = told("piece p 3 8 1;");
        due("long may be the shorter one", lock.line(3, 0, 10), 1);
        due("broad may be the longer one", lock.line(8, 0, 11), 1);
    }

    private static void lineFewest() {
        edge("Terms IV", "with the fewest PIECES and cards;");
        TypeLock lock = told("piece a 5 5 9;piece b 4 4 9;piece c 1 1 9;");
        due("8: 4 and 4, not 5 and three of 1", lock.line(8, 0, 0), 2);
        due("8 with cards likewise", lock.line(8, 9, 1), 0);
        due("6: 5 and 1", lock.line(6, 0, 0), 2);
        due("a card is no less than a PIECE", lock.line(6, 9, 0), 2);
        lock = told("piece a 5 5 9;piece b 3 3 9;");
        due("7: 5 and two cards, or 3, 3 and one: three either way", lock.line(7, 9, 0), 3);
        due("9: 3, 3, 3, or 5, 3 and a card: three either way", lock.line(9, 9, 0), 3);
        due("12: 5, 5 and two cards, or 3 four times, or 5, 3, 3 and a card", lock.line(12, 9, 0), 4);
    }

    private static void lineAlike() {
        edge("Terms IV", "of alike ones with the fewest cards, then the most of the first KIND, of that the most as told, and so on.");
        TypeLock lock = told("piece a 5 5 9;piece b 3 3 9;");
        due("7: one card", lock.line(7, 9, 1), 1);
        due("7: b twice", lock.line(7, 9, 12), 2);
        due("9: no card", lock.line(9, 9, 1), 0);
        due("12: no card", lock.line(12, 9, 1), 0);
        due("12: b four times", lock.line(12, 9, 12), 4);
        // 10 by three: 6 3 1, 5 4 1, 4 4 2, 6 2 2, 4 3 3, 5 3 2: the most of a, as told, then of b.
        lock = told("piece a 4 2 9;piece b 6 3 9;piece c 5 1 9;");
        due("10 by two: 4 and 6", lock.line(10, 0, 0), 2);
        due("c as told twice is less of a", lock.line(10, 0, 14), 0);
        due("a as told", lock.line(10, 0, 10), 1);
        due("a turned", lock.line(10, 0, 11), 0);
        due("b as told", lock.line(10, 0, 12), 1);
        // 6 is one b as told; 8 is 4 4 or 6 2: two of a ahead of one.
        due("8: a twice", lock.line(8, 0, 10), 2);
        due("8: no b", lock.line(8, 0, 12), 0);
        // Of alike many of a: the most as told, 4 and 1 ahead of 2 and 3.
        due("5: one c", lock.line(5, 0, 14), 1);
        lock = told("piece a 4 2 9;piece b 1 3 9;");
        due("5 by two", lock.line(5, 0, 0), 2);
        due("a as told", lock.line(5, 0, 10), 1);
        due("a turned", lock.line(5, 0, 11), 0);
        due("b as told", lock.line(5, 0, 12), 1);
        due("b turned", lock.line(5, 0, 13), 0);
        lock = told("piece a 2 4 9;piece b 1 3 9;");
        due("a as told", lock.line(5, 0, 10), 1);
        due("b turned", lock.line(5, 0, 13), 1);
        due("8: a turned twice", lock.line(8, 0, 11), 2);
        due("8: none as told", lock.line(8, 0, 10), 0);
        due("8: none of b as told", lock.line(8, 0, 12), 0);
        due("8: none of b turned", lock.line(8, 0, 13), 0);
        // Of a there are two for all of the LINE: 4 and 2, and not 4, 4 and one more.
        lock = told("piece a 4 2 2;piece b 4 4 9;");
        due("10 by three", lock.line(10, 0, 0), 3);
        due("10: a once as told", lock.line(10, 0, 10), 1);
        due("10: a once turned", lock.line(10, 0, 11), 1);
        due("10: b once", lock.line(10, 0, 12), 1);
        // Both alike in each way: the first KIND, as far as it goes, and as told.
        lock = told("piece a 3 3 2;piece b 3 3 9;");
        due("12: two a", lock.line(12, 0, 10), 2);
        due("12: none turned", lock.line(12, 0, 11), 0);
        due("12: two b", lock.line(12, 0, 12), 2);
        due("12: none turned", lock.line(12, 0, 13), 0);
        fourteen();
    }

    /** Fourteen KINDS alike but for the BLOCKS among them: the first PIECES are taken. */
    private static void fourteen() {
        StringBuilder text = new StringBuilder();
        for (int i = 0; i < 14; i++) {
            text.append(i % 2 == 0 ? "block " : "piece ").append((char) ('a' + i)).append(i % 2 == 0 ? " 2 2;" : " 2 2 2;");
        }
        TypeLock lock = told(text.toString());
        due("seven PIECES, two each", lock.line(28, 0, 0), 14);
        due("no fifteenth", lock.line(30, 0, 0), -2);
        for (int kind = 0; kind < 14; kind++) {
            int want = kind % 2 == 0 ? -1 : kind < 6 ? 2 : kind == 7 ? 1 : 0;
            due("of KIND " + kind, lock.line(14, 0, 10 + 2 * kind), want);
            due("turned", lock.line(14, 0, 11 + 2 * kind), kind % 2 == 0 ? -1 : 0);
        }
        due("KIND 14", lock.line(14, 0, 38), -1);
        due("KIND 14", lock.line(14, 0, 39), -1);
    }

    private static void nearestBelow() {
        edge("Terms IV", "If it can't be: NEAREST is the greatest n below that can.");
        TypeLock lock = told("piece p 7 4 2;");
        int[] want = {0, 0, 0, 4, 4, 4, 7, 8, 8, 8, 11, 11, 11, 14, 14};
        for (int n = 1; n <= want.length; n++) {
            due("nearest(" + n + ", 0)", lock.nearest(n, 0), want[n - 1]);
        }
        due("nearest(240, 0)", lock.nearest(240, 0), 14);
        due("nearest(240, 1)", lock.nearest(240, 1), 15);
        due("nearest(240, 99)", lock.nearest(240, 99), 113);
        due("nearest(6, 1): 4 and 1", lock.nearest(6, 1), 5);
        due("nearest(6, 2)", lock.nearest(6, 2), 6);
        due("nearest(3, 2): cards alone", lock.nearest(3, 2), 2);
        due("nearest(3, 3)", lock.nearest(3, 3), 3);
        due("of a new object", new TypeLock().nearest(240, 0), 0);
        due("of a new object", new TypeLock().nearest(1, 0), 0);
    }

    // ---- Terms IV: GAPS

    private static void gapSize() {
        edge("Terms IV", "A GAP w by h (1 .. 60) filled with ROWS from north to south:");
        TypeLock lock = told("piece p 1 1 99;piece q 60 30 2;piece r 60 1 99;");
        due("1 by 1", lock.gap(1, 1, 0), 1);
        due("60 by 60", lock.gap(60, 60, 0), 2);
        due("60 by 1", lock.gap(60, 1, 0), 1);
        due("1 by 60: r turned", lock.gap(1, 60, 15), 1);
        for (int out : new int[] {0, 61, 62, -1, MIN, MAX}) {
            due("gap(" + out + ", 1, 0)", lock.gap(out, 1, 0), -1);
            due("gap(1, " + out + ", 0)", lock.gap(1, out, 0), -1);
            due("gap(" + out + ", " + out + ", 10)", lock.gap(out, out, 10), -1);
        }
    }

    private static void gapRows() {
        edge("Terms IV", "each ROW is of one KIND of PIECES, as told or turned, side by side over all of w:");
        TypeLock lock = told("piece p 6 4 30;");
        for (int w = 1; w <= 60; w++) {
            due("a ROW as told over " + w, lock.gap(w, 4, 10), w % 6 == 0 ? 1 : -2);
            due("a ROW turned over " + w, lock.gap(w, 6, 11), w % 4 == 0 ? 1 : -2);
            due("so many", lock.gap(w, 4, 0), w % 6 == 0 ? w / 6 : -2);
        }
        for (int h = 1; h <= 15; h++) {
            due("ROWS of four", lock.gap(6, h, 0), h % 4 == 0 ? h / 4 : -2);
            due("ROWS of six", lock.gap(4, h, 0), h % 6 == 0 ? h / 6 : -2);
        }
        // Two KINDS do not make one ROW.
        lock = told("piece a 3 1 9;piece b 2 1 9;");
        due("5 by 1", lock.gap(5, 1, 0), -2);
        due("3 by 1", lock.gap(3, 1, 0), 1);
        due("6 by 2: two a and two a", lock.gap(6, 2, 0), 4);
        lock = told("piece a 3 2 9;");
        due("nor as told and turned: 5 by 2", lock.gap(5, 2, 0), -2);
        due("nor 5 by 3", lock.gap(5, 3, 0), -2);
        due("but ROWS of both: 6 by 5", lock.gap(6, 5, 0), 5);
    }

    private static void gapLeft() {
        edge("Terms IV", "with the fewest PIECES that are left;");
        TypeLock lock = told("piece p 2 1 6;piece none 1 1 0;");
        due("three ROWS of two", lock.gap(4, 3, 0), 6);
        due("four ROWS", lock.gap(4, 4, 0), -2);
        due("nothing of none", lock.gap(1, 1, 0), -2);
        lay(lock, 0, 0, 0, 0);
        due("five are left: two ROWS", lock.gap(4, 2, 0), 4);
        due("not three", lock.gap(4, 3, 0), -2);
        due("five in a row", lock.gap(2, 5, 0), 5);
        due("no sixth", lock.gap(2, 6, 0), -2);
        due("five side by side", lock.gap(10, 1, 10), 1);
        due("no sixth", lock.gap(12, 1, 10), -2);
        due("take", lock.take(0), 0);
        due("six", lock.gap(12, 1, 10), 1);
        due("six, by the same w", lock.gap(4, 3, 0), 6);
        // The drawer is one for all ROWS, as told and turned.
        lock = told("piece p 2 4 6;");
        due("4 by 4 as told: two; 4 by 2 turned: one", lock.gap(4, 6, 0), 3);
        due("4 by 12: all six", lock.gap(4, 12, 10), 3);
        due("4 by 14: six of seven", lock.gap(4, 14, 0), -2);
        due("2 by 24: all six", lock.gap(2, 24, 10), 6);
        due("2 by 28: six of seven", lock.gap(2, 28, 10), -2);
        due("8 by 6: four and two", lock.gap(8, 6, 0), 6);
        due("8 by 8: eight", lock.gap(8, 8, 0), -2);
        lock = told("piece p 1 1 99;");
        due("9 by 11: all of 99", lock.gap(9, 11, 0), 99);
        due("10 by 10", lock.gap(10, 10, 0), -2);
        due("50 by 2", lock.gap(50, 2, 0), -2);
        due("60 by 1", lock.gap(60, 1, 0), 60);
    }

    private static void gapAlike() {
        edge("Terms IV", "of alike ones with the most ROWS of the first KIND as told, then turned, then of the second one, and so on.");
        // Over 6: as told 2 pieces for 2 points, turned 3 for 3: one for each point, either way.
        TypeLock lock = told("piece a 3 2 99;");
        int[] told = {0, 1, 0, 2, 1, 3, 2, 4};
        int[] turned = {0, 0, 1, 0, 1, 0, 1, 0};
        for (int h = 2; h <= 8; h++) {
            due("6 by " + h, lock.gap(6, h, 0), h);
            due("as told, 6 by " + h, lock.gap(6, h, 10), told[h - 1]);
            due("turned, 6 by " + h, lock.gap(6, h, 11), turned[h - 1]);
        }
        // The first KIND turned goes ahead of the second one as told.
        lock = told("piece a 2 6 9;piece b 6 2 9;");
        due("6 by 2: a turned", lock.gap(6, 2, 11), 1);
        due("not b", lock.gap(6, 2, 12), 0);
        lock = told("piece z 7 7 9;piece a 2 6 1;piece b 6 2 9;");
        due("6 by 6: a once, turned", lock.gap(6, 6, 13), 1);
        due("b twice, as told", lock.gap(6, 6, 14), 2);
        due("not turned", lock.gap(6, 6, 15), 0);
        due("nothing of z", lock.gap(6, 6, 10), 0);
        // A square one is laid as told.
        lock = told("piece s 3 3 9;piece t 3 3 9;");
        due("s as told", lock.gap(3, 27, 10), 9);
        due("none turned", lock.gap(3, 27, 11), 0);
        due("none of t", lock.gap(3, 27, 12), 0);
        due("t behind s", lock.gap(3, 30, 12), 1);
        due("t turned not", lock.gap(3, 30, 13), 0);
        // Fewer PIECES go ahead of the first KIND.
        lock = told("piece a 1 1 99;piece b 6 1 9;");
        due("b", lock.gap(6, 2, 12), 2);
        due("no a", lock.gap(6, 2, 10), 0);
    }

    // ---- Terms IV: BUY

    private static void lackSum() {
        edge("Terms IV", "LACK of a KIND on a DAY: what was NEEDED on it, in all, less what the drawer has (as the text tells) and what was"
                + " BOUGHT on that DAY or ahead,");
        TypeLock lock = told("piece p 1 1 10;piece q 1 1 0;piece r 1 1 99;");
        lock.log(50, 0, 9, false);
        lock.log(50, 0, 9, false);
        lock.log(50, 0, 0, false);
        due("18 less 10", lock.lack(50, 0, 3), 8);
        due("on the DAY ahead", lock.lack(49, 0, 3), 0);
        due("on the DAY behind", lock.lack(51, 0, 3), 0);
        lock.log(51, 0, 5, true);
        due("bought a DAY behind", lock.lack(50, 0, 4), 8);
        lock.log(50, 0, 1, true);
        due("bought on the DAY", lock.lack(50, 0, 5), 7);
        lock.log(49, 0, 1, true);
        due("bought a DAY ahead", lock.lack(50, 0, 6), 6);
        due("on that DAY too", lock.lack(49, 0, 6), 0);
        lock.log(0, 0, 1, true);
        due("bought on the first DAY", lock.lack(50, 0, 7), 5);
        lock.log(99, 0, 9, true);
        due("bought on the last DAY", lock.lack(50, 0, 8), 5);
        lock.log(50, 1, 3, true);
        due("of another KIND", lock.lack(50, 0, 9), 5);
        lay(lock, 0, 0, 0, 0, 0, 1, 0, 0);
        due("what lies makes no difference", lock.lack(50, 0, 9), 5);
        // What was needed on other DAYS makes none either.
        lock.log(49, 0, 99, false);
        due("as before", lock.lack(50, 0, 10), 5);
        due("99 less 10, less 2", lock.lack(49, 0, 10), 87);
        lock.log(49, 0, 4, true);
        lock.log(0, 0, 1, true);
        due("bought twice on each DAY", lock.lack(49, 0, 12), 82);
        TypeLock ends = told("piece p 1 1 0;block b 1 1;");
        ends.log(0, 0, 99, false);
        ends.log(99, 0, 99, false);
        due("the first DAY", ends.lack(0, 0, 2), 99);
        due("the last DAY", ends.lack(99, 0, 2), 99);
        ends.log(0, 0, 9, true);
        due("the first DAY", ends.lack(0, 0, 3), 90);
        due("the last DAY", ends.lack(99, 0, 3), 90);
        ends.log(99, 0, 9, true);
        due("the first DAY", ends.lack(0, 0, 4), 90);
        due("the last DAY", ends.lack(99, 0, 4), 81);
        ends.log(7, 1, 2, false);
        due("of a BLOCK the drawer has one", ends.lack(7, 1, 5), 1);
        for (int i = 5; i < 60; i++) {
            due("log", ends.log(3, 0, 99, false), i);
        }
        due("55 times 99, less 9", ends.lack(3, 0, 60), 55 * 99 - 9);
    }

    private static void lackNotBelow() {
        edge("Terms IV", "0 at least.");
        TypeLock lock = told("piece p 1 1 5;");
        lock.log(1, 0, 4, false);
        due("4 less 5", lock.lack(1, 0, 1), 0);
        lock.log(1, 0, 1, false);
        due("5 less 5", lock.lack(1, 0, 2), 0);
        lock.log(1, 0, 1, false);
        due("6 less 5", lock.lack(1, 0, 3), 1);
        lock.log(1, 0, 99, true);
        due("6 less 104", lock.lack(1, 0, 4), 0);
        due("nothing was needed", lock.lack(2, 0, 4), 0);
        due("nothing is lacked", lock.worst(4), -2);
        due("1 was", lock.worst(3), 0);
    }

    private static void worstSum() {
        edge("Terms IV", "WORST: the KIND with the greatest sum of LACKS over all DAYS; of alike ones the least.");
        TypeLock lock = told("piece a 1 1 5;piece b 1 1 0;piece c 1 1 0;");
        lock.log(0, 0, 10, false);
        lock.log(99, 0, 10, false);
        due("5 and 5", lock.worst(2), 0);
        due("the first DAY alone", lock.worst(1), 0);
        lock.log(3, 1, 10, false);
        due("10 and 10: the least", lock.worst(3), 0);
        lock.log(3, 1, 1, false);
        due("11", lock.worst(4), 1);
        lock.log(98, 2, 11, false);
        due("11 and 11: the least", lock.worst(5), 1);
        lock.log(3, 1, 1, true);
        due("10, 10 and 11", lock.worst(6), 2);
        // One DAY's plenty makes no other DAY's lack less.
        lock.log(99, 0, 1, false);
        due("11, 10, 11", lock.worst(7), 0);
    }

    private static void sixtyLogs() {
        edge("Terms IV", "LOGS, 60 at most, numbered from 0 on:");
        TypeLock lock = told("piece p 1 1 0;");
        for (int i = 0; i < 60; i++) {
            due("lack of none of them", lock.lack(0, 0, i + 1), -1);
            due("log " + i, lock.log(0, 0, 1, false), i);
            due("LOGS", lock.count(4), i + 1);
        }
        due("a 61st", lock.log(0, 0, 1, false), -1);
        due("a 61st, BOUGHT", lock.log(0, 0, 1, true), -1);
        due("a 61st, VOID", lock.annul(0), -1);
        due("60", lock.count(4), 60);
        due("all of them", lock.lack(0, 0, 60), 60);
        due("the first 59", lock.lack(0, 0, 59), 59);
        due("the first", lock.lack(0, 0, 1), 1);
        due("none", lock.lack(0, 0, 0), 0);
        due("more", lock.lack(0, 0, 61), -1);
        lock = told("piece p 1 1 0;");
        for (int i = 0; i < 30; i++) {
            due("log", lock.log(0, 0, 1, false), 2 * i);
            due("annul", lock.annul(2 * i), 2 * i + 1);
        }
        due("a 61st", lock.annul(58), -1);
        due("all VOID", lock.lack(0, 0, 60), 0);
        due("but the last one, to those who don't KNOW", lock.lack(0, 0, 59), 1);
    }

    private static void logParts() {
        edge("Terms IV", "NEEDED, BOUGHT: a DAY (0 .. 99), a KIND, how many (0 .. 99);");
        TypeLock lock = told("piece p 1 1 0;");
        due("DAY 0, KIND 0, none", lock.log(0, 0, 0, false), 0);
        due("DAY 99, KIND 13, 99", lock.log(99, 13, 99, true), 1);
        for (int out : new int[] {100, 101, -1, MIN, MAX}) {
            due("DAY " + out, lock.log(out, 0, 0, false), -1);
            due("how many " + out, lock.log(0, 0, out, true), -1);
        }
        for (int out : new int[] {14, 15, -1, MIN, MAX}) {
            due("KIND " + out, lock.log(0, out, 0, false), -1);
        }
        due("two LOGS", lock.count(4), 2);
    }

    private static void voids() {
        edge("Terms IV", "VOID: of another LOG (no VOID), which is none then for those who KNOW the VOID (the first n).");
        TypeLock lock = told("piece p 1 1 0;");
        lock.log(5, 0, 7, false);
        lock.log(5, 0, 3, true);
        due("annul(0)", lock.annul(0), 2);
        due("annul(1)", lock.annul(1), 3);
        due("a VOID", lock.annul(2), -1);
        due("a VOID", lock.annul(3), -1);
        due("itself", lock.annul(4), -1);
        int[] want = {0, 7, 4, 0, 0};
        for (int n = 0; n <= 4; n++) {
            due("as KNOWN by " + n, lock.lack(5, 0, n), want[n]);
            due("WORST as KNOWN by " + n, lock.worst(n), want[n] > 0 ? 0 : -2);
        }
        due("as KNOWN by 5", lock.lack(5, 0, 5), -1);
        lock.log(5, 0, 2, false);
        due("2 needed, the 3 bought being VOID", lock.lack(5, 0, 5), 2);
        TypeLock bought = told("piece p 1 1 0;");
        bought.log(5, 0, 3, true);
        bought.log(5, 0, 7, false);
        due("annul(0)", bought.annul(0), 2);
        due("as KNOWN by 2", bought.lack(5, 0, 2), 4);
        due("as KNOWN by 3", bought.lack(5, 0, 3), 7);
    }

    // ---- Promises 32 to 34

    private static void line() {
        edge("Promise 32", "A LINE with c cards: what 0 how many PIECES and cards, 1 how many cards, 10 + 2 * KIND how many of it as told,"
                + " 11 + 2 * KIND turned.");
        TypeLock lock = told("block b 1 1;piece p 9 2 1;piece q 3 4 2;");
        // 9, 4, 4 and a card; and 9, 3, 4 needs two.
        int[] want = {4, 1, -1, -1, -1, -1, -1, -1, -1, -1, -1, -1, 1, 0, 0, 2, -1, -1};
        for (int what = 0; what < want.length; what++) {
            due("line(18, 9, " + what + ")", lock.line(18, 9, what), want[what]);
        }
        TypeLock last = told(EdgesOfText.kinds(14));
        due("the last KIND, 14 long", last.line(14, 0, 36), 1);
        due("the last KIND, turned", last.line(14, 0, 37), 0);
        due("the first PIECE", last.line(14, 0, 12), 0);
    }

    private static void lineNever() {
        edge("Promise 32", "-2: it can't be;");
        TypeLock lock = told("piece p 9 2 1;");
        for (int what : new int[] {0, 1, 10, 11}) {
            due("line(1, 0, " + what + ")", lock.line(1, 0, what), -2);
            due("line(240, 99, " + what + ")", lock.line(240, 99, what), -2);
            due("line(8, 5, " + what + ")", lock.line(8, 5, what), -2);
            due("line(8, 6, " + what + ")", lock.line(8, 6, what) >= 0, true);
        }
        due("of a new object", new TypeLock().line(1, 0, 0), -2);
        due("of a BLOCK alone", told("block b 5 5;").line(5, 0, 0), -2);
    }

    private static void lineNone() {
        edge("Promise 32", "NONE: no such ones (a BLOCK, too).");
        TypeLock lock = told("block b 1 1;piece p 9 2 1;block c 2 2;");
        int[] no = {-1, -2, 2, 3, 8, 9, 10, 11, 14, 15, 16, 17, 38, 39, MIN, MIN + 9, MAX, MAX - 1};
        for (int what : no) {
            due("line(9, 0, " + what + ")", lock.line(9, 0, what), -1);
            due("line(1, 0, " + what + ")", lock.line(1, 0, what), -1);
        }
        for (int what : new int[] {0, 1, 12, 13}) {
            due("line(9, 0, " + what + ")", lock.line(9, 0, what) >= 0, true);
            due("line(0, 0, " + what + ")", lock.line(0, 0, what), -1);
            due("line(241, 0, " + what + ")", lock.line(241, 0, what), -1);
            due("line(9, -1, " + what + ")", lock.line(9, -1, what), -1);
            due("line(9, 100, " + what + ")", lock.line(9, 100, what), -1);
        }
        TypeLock first = told("piece p 9 2 1;");
        for (int what = -3; what <= 13; what++) {
            boolean is = what == 0 || what == 1 || what == 10 || what == 11;
            due("KIND 0 a PIECE: line(9, 0, " + what + ")", first.line(9, 0, what) >= 0, is);
            due("KIND 0 a PIECE: line(1, 0, " + what + ")", first.line(1, 0, what), is ? -2 : -1);
        }
        due("of a new object", new TypeLock().line(1, 1, 10), -1);
    }

    private static void nearest() {
        edge("Promise 33", "NEAREST (n itself if it can be; 0 at least); NONE: no such ones.");
        TypeLock lock = told("piece p 9 2 1;");
        int[] want = {0, 2, 2, 2, 2, 2, 2, 2, 9, 9};
        for (int n = 1; n <= 10; n++) {
            due("nearest(" + n + ", 0)", lock.nearest(n, 0), want[n - 1]);
        }
        due("nearest(240, 99)", lock.nearest(240, 99), 108);
        due("nearest(108, 99)", lock.nearest(108, 99), 108);
        due("nearest(109, 99)", lock.nearest(109, 99), 108);
        for (int out : new int[] {0, 241, -1, MIN, MAX}) {
            due("nearest(" + out + ", 0)", lock.nearest(out, 0), -1);
        }
        for (int out : new int[] {100, -1, MIN, MAX}) {
            due("nearest(9, " + out + ")", lock.nearest(9, out), -1);
        }
    }

    private static void gap() {
        edge("Promise 34", "A GAP: what 0 how many PIECES, 10 + 2 * KIND how many ROWS of it as told, 11 + 2 * KIND turned.");
        TypeLock lock = told("block b 1 1;piece p 6 2 9;piece q 3 4 9;");
        // 6 by 9 is q as told (two, 4), p turned (three, 6) or p as told (one, 2).
        int[] want = {3, -1, -1, -1, -1, -1, -1, -1, -1, -1, -1, -1, 3, 0, 0, 0, -1, -1};
        for (int what = 0; what < want.length; what++) {
            due("gap(6, 6, " + what + ")", lock.gap(6, 6, what), want[what]);
        }
        due("3 by 4: q", lock.gap(3, 4, 14), 1);
        due("4 by 3: q turned", lock.gap(4, 3, 15), 1);
        due("2 by 6: p turned", lock.gap(2, 6, 13), 1);
        TypeLock last = told(EdgesOfText.kinds(14));
        due("the last KIND, 14 wide", last.gap(14, 1, 36), 1);
        due("the last KIND, turned", last.gap(1, 14, 37), 1);
        due("the first PIECE", last.gap(14, 1, 12), 0);
    }

    private static void gapNever() {
        edge("Promise 34", "-2: it can't be;");
        TypeLock lock = told("piece p 6 2 1;");
        for (int what : new int[] {0, 10, 11}) {
            due("gap(5, 2, " + what + ")", lock.gap(5, 2, what), -2);
            due("gap(6, 3, " + what + ")", lock.gap(6, 3, what), -2);
            due("gap(6, 4, " + what + ")", lock.gap(6, 4, what), -2);
            due("gap(12, 2, " + what + ")", lock.gap(12, 2, what), -2);
            due("gap(60, 60, " + what + ")", lock.gap(60, 60, what), -2);
            due("gap(6, 2, " + what + ")", lock.gap(6, 2, what) >= 0, true);
        }
        due("of a new object", new TypeLock().gap(1, 1, 0), -2);
        due("of a BLOCK alone", told("block b 5 5;").gap(5, 5, 0), -2);
    }

    private static void gapNone() {
        edge("Promise 34", "NONE: no such ones (a BLOCK, too).");
        TypeLock lock = told("block b 1 1;piece p 6 2 1;block c 2 2;");
        int[] no = {-1, -2, 1, 2, 9, 10, 11, 14, 15, 16, 17, 38, 39, MIN, MIN + 9, MAX, MAX - 1};
        for (int what : no) {
            due("gap(6, 2, " + what + ")", lock.gap(6, 2, what), -1);
            due("gap(5, 2, " + what + ")", lock.gap(5, 2, what), -1);
        }
        for (int what : new int[] {0, 12, 13}) {
            due("gap(6, 2, " + what + ")", lock.gap(6, 2, what) >= 0, true);
            due("gap(0, 2, " + what + ")", lock.gap(0, 2, what), -1);
            due("gap(6, 0, " + what + ")", lock.gap(6, 0, what), -1);
            due("gap(61, 2, " + what + ")", lock.gap(61, 2, what), -1);
            due("gap(6, 61, " + what + ")", lock.gap(6, 61, what), -1);
        }
        TypeLock first = told("piece p 6 2 1;");
        for (int what = -3; what <= 13; what++) {
            boolean is = what == 0 || what == 10 || what == 11;
            due("KIND 0 a PIECE: gap(6, 2, " + what + ")", first.gap(6, 2, what) >= 0, is);
            due("KIND 0 a PIECE: gap(5, 2, " + what + ")", first.gap(5, 2, what), is ? -2 : -1);
        }
        due("of a new object", new TypeLock().gap(1, 1, 10), -1);
    }

    // ---- Promises 35 to 38

    private static void log() {
        edge("Promise 35", "A LOG of what was NEEDED (bought: BOUGHT): its number.");
        TypeLock lock = told("piece p 1 1 3;");
        due("NEEDED", lock.log(4, 0, 5, false), 0);
        due("LACK", lock.lack(4, 0, 1), 2);
        due("BOUGHT", lock.log(4, 0, 1, true), 1);
        due("LACK", lock.lack(4, 0, 2), 1);
        due("of a new object", new TypeLock().log(0, 0, 0, false), 0);
        due("BOUGHT, none", new TypeLock().log(99, 13, 0, true), 0);
    }

    private static void logNone() {
        edge("Promise 35", "NONE, and nothing happens: 60 are there, no such ones (KIND 0 .. 13, there or not).");
        TypeLock lock = told("piece p 1 1 3;");
        lock.log(0, 0, 9, false);
        String before = state(lock);
        int[][] no = {{100, 0, 1}, {-1, 0, 1}, {0, 14, 1}, {0, -1, 1}, {0, 0, 100}, {0, 0, -1}, {MIN, 0, 1}, {MAX, 0, 1},
            {0, MIN, 1}, {0, MAX, 1}, {0, 0, MIN}, {0, 0, MAX}, {100, 14, 100}};
        for (int[] log : no) {
            due("log(" + log[0] + ", " + log[1] + ", " + log[2] + ", false)", lock.log(log[0], log[1], log[2], false), -1);
            due("log(" + log[0] + ", " + log[1] + ", " + log[2] + ", true)", lock.log(log[0], log[1], log[2], true), -1);
        }
        dueSame("a refused log", lock, before);
        for (int kind = 0; kind < 14; kind++) {
            due("KIND " + kind + ", there or not", lock.log(0, kind, 1, false), kind + 1);
        }
        // It counts when a text tells that KIND.
        due("read()", Due.read(lock, EdgesOfText.kinds(14)), 0);
        due("KIND 13: 1 less 1", lock.lack(0, 13, 15), 0);
        due("one more", lock.log(0, 13, 1, false), 15);
        due("KIND 13: 2 less 1", lock.lack(0, 13, 16), 1);
        for (int i = 16; i < 60; i++) {
            due("log", lock.log(0, 1, 1, true), i);
        }
        before = state(lock);
        due("60 are there", lock.log(0, 0, 1, false), -1);
        due("60 are there", lock.log(0, 0, 1, true), -1);
        dueSame("a refused log", lock, before);
    }

    private static void annul() {
        edge("Promise 36", "A VOID: its number; NONE likewise, a VOID.");
        TypeLock lock = told("piece p 1 1 3;");
        due("of none", lock.annul(0), -1);
        lock.log(0, 0, 9, false);
        lock.log(0, 0, 2, true);
        String before = state(lock);
        for (int out : new int[] {2, 3, 59, 60, 63, 64, -1, MIN, MAX}) {
            due("annul(" + out + ")", lock.annul(out), -1);
        }
        dueSame("a refused annul", lock, before);
        due("the last LOG", lock.annul(1), 2);
        due("the first LOG", lock.annul(0), 3);
        before = state(lock);
        due("a VOID", lock.annul(2), -1);
        due("a VOID", lock.annul(3), -1);
        dueSame("a refused annul", lock, before);
        for (int i = 4; i < 59; i++) {
            due("log", lock.log(1, 0, 1, false), i);
        }
        due("the 60th", lock.annul(58), 59);
        before = state(lock);
        due("60 are there", lock.annul(57), -1);
        due("60 are there", lock.annul(59), -1);
        dueSame("a refused annul", lock, before);
    }

    private static void lack() {
        edge("Promise 37", "LACK, as KNOWN by n; NONE: no such ones, no KIND that is there.");
        TypeLock lock = told("piece p 1 1 3;block b 1 1;");
        due("as KNOWN by none", lock.lack(0, 0, 0), 0);
        due("as KNOWN by 1, none being there", lock.lack(0, 0, 1), -1);
        lock.log(0, 0, 9, false);
        lock.log(99, 1, 9, false);
        lock.log(50, 2, 9, false);
        due("DAY 0, KIND 0, n 3", lock.lack(0, 0, 3), 6);
        due("DAY 99, KIND 1, n 3", lock.lack(99, 1, 3), 8);
        due("DAY 99, KIND 1, n 1", lock.lack(99, 1, 1), 0);
        due("n 4", lock.lack(0, 0, 4), -1);
        due("KIND 2 is not there", lock.lack(50, 2, 3), -1);
        for (int out : new int[] {100, 101, -1, MIN, MAX}) {
            due("DAY " + out, lock.lack(out, 0, 3), -1);
        }
        for (int out : new int[] {3, 13, 14, -1, MIN, MAX}) {
            due("KIND " + out, lock.lack(0, out, 3), -1);
        }
        for (int out : new int[] {4, 60, 61, -1, MIN, MAX}) {
            due("n " + out, lock.lack(0, 0, out), -1);
        }
        due("of a new object", new TypeLock().lack(0, 0, 0), -1);
    }

    private static void worst() {
        edge("Promise 38", "WORST; -2: nothing is lacked; NONE: no such n.");
        TypeLock lock = told("piece p 1 1 3;block b 1 1;");
        due("as KNOWN by none", lock.worst(0), -2);
        due("as KNOWN by 1", lock.worst(1), -1);
        lock.log(0, 0, 3, false);
        due("3 less 3", lock.worst(1), -2);
        lock.log(0, 1, 2, false);
        due("2 less 1", lock.worst(2), 1);
        due("as KNOWN by 1", lock.worst(1), -2);
        lock.log(0, 2, 99, false);
        due("a KIND that is not there", lock.worst(3), 1);
        for (int out : new int[] {4, 5, 60, 61, -1, MIN, MAX}) {
            due("worst(" + out + ")", lock.worst(out), -1);
        }
        TypeLock none = new TypeLock();
        none.log(0, 0, 99, false);
        due("no KIND is there", none.worst(1), -2);
        TypeLock last = told(EdgesOfText.kinds(14));
        last.log(99, 13, 2, false);
        due("the last KIND", last.worst(1), 13);
    }
}
