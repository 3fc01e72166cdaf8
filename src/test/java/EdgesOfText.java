/** The edges of Terms I and of promises 1 to 6: what a text may hold, which FAULT comes where, what VARS answer. */
final class EdgesOfText extends Edge {
    private static final String[] WORDS = ("frame block piece wood round wedge north east south west enough give rule if or "
            + "and not x y wide high touch held push").split(" ");
    private static final String VARS = " x y wide high touch held push wood round ";
    private static final String[] TELLS = {"frame 1 1 ;", "block a 1 1 ;", "piece a 1 1 0 ;", "piece wood a 1 1 0 ;",
        "piece round a 1 1 0 ;", "wedge north 0 1 ;", "wedge east 0 1 ;", "wedge south 0 1 ;", "wedge west 0 1 ;",
        "enough 1 ;", "give = x ;", "give = ( x + 1 ) * ( 2 - 3 ) / 4 ;", "rule if x == 1 ;",
        "rule if not not x != 1 and y < 2 or not ( wide ) <= 3 + high ;"};
    /** Four TOKENS in ten bytes. */
    private static final String FOUR = "frame 1 1;";

    private EdgesOfText() {
    }

    static void all() {
        calls();
        constant();
        bytes();
        blanks();
        names();
        ints();
        signs();
        longer();
        grammar();
        frame();
        frameSides();
        blocks();
        pieces();
        kindNumbers();
        wedges();
        enough();
        give();
        lastTold();
        firstFault();
        syntax();
        tokenRoom();
        kindRoom();
        openRoom();
        twice();
        wrong();
        changesNothing();
        inPlace();
        stays();
        wraps();
        rounded();
        divided();
        dividedAsAWhole();
        corner();
        touchVar();
        heldVar();
        pushVar();
        giveVars();
        newObject();
        feedTwenty();
        feedFull();
        back();
        backRefused();
        read();
        place();
        kind();
        kindOthers();
    }

    // ---- The object

    private static void calls() {
        edge("What it is", "at most 512 calls after it has been made");
        TypeLock lock = new TypeLock();
        due("call 1, feed", feed(lock, "piece a 1 1 40;     "), 20);
        due("call 2, read()", lock.read(), 0);
        for (int call = 3; call <= 510; call += 2) {
            due("call " + call + ", lay", lock.lay(0, call % 60, 0, false), 0);
            due("call " + (call + 1) + ", take", lock.take(0), 0);
        }
        due("call 511, lay", lock.lay(0, 59, 59, true), 0);
        due("call 512, borne", lock.borne(0, EAST), 1);
        lock = new TypeLock();
        for (int call = 1; call <= 511; call += 2) {
            due("call " + call + ", feed", feed(lock, "block a 2 2;enough 7"), 20);
            due("call " + (call + 1) + ", read()", lock.read(), 1);
        }
        lock = new TypeLock();
        for (int call = 1; call <= 511; call += 2) {
            due("call " + call + ", feed", feed(lock, "block a 1 1;enough " + call % 10), 20);
            due("call " + (call + 1) + ", back", lock.back(20), 0);
        }
        lock = new TypeLock();
        for (int call = 1; call <= 511; call += 2) {
            due("call " + call + ", hold", lock.hold(call % 3), true);
            due("call " + (call + 1) + ", again", lock.again(call % 3), true);
        }
    }

    private static void constant() {
        edge("The public face", "public static final int NONE = -1;");
        due("NONE", TypeLock.NONE, -1);
    }

    // ---- TOKENS

    private static void bytes() {
        edge("Terms I", "A TEXT has 2,000 bytes at most.");
        good(" ".repeat(2000));
        fault(" ".repeat(1999) + "!", 1, 1999);
        fault(" ".repeat(1999) + ";", 1, 1999);
        fault(" ".repeat(1999) + "x", 1, 1999);
        fault(" ".repeat(1999) + "<", 1, 1999);
        fault("enough 7" + " ".repeat(1992), 1, 2000);
        fault("enough" + " ".repeat(1993) + "7", 1, 2000);
        fault(" ".repeat(1994) + "enough", 1, 2000);
        fault("rule if x" + " ".repeat(1990) + "<", 1, 2000);
        fault(" ".repeat(1000) + "e".repeat(1000), 1, 1000);
        fault("enough " + "0".repeat(1993), 1, 7);
        TypeLock lock = told("enough 7" + " ".repeat(1991) + ";");
        due("the 2,000th byte ends it", lock.count(10), 7);
        // The 2,000 that stood there are no part of the next text.
        due("read() of a shorter one", Due.read(lock, "enough 8"), 1);
        due("its end", lock.place(), 8);
        due("read() of a shorter one", Due.read(lock, "enough 8;"), 0);
        due("ENOUGH", lock.count(10), 8);
        lock = new TypeLock();
        Due.tape(lock, Due.bytes("enough 7" + " ".repeat(1992)));
        due("a 2,001st byte does not come", feed(lock, ";                   "), -1);
        due("so this is read without", lock.read(), 1);
        due("its end", lock.place(), 2000);
    }

    private static boolean isBlank(int b) {
        return b == 9 || b == 10 || b == 13 || b == 32;
    }

    private static boolean isDigit(int b) {
        return b >= '0' && b <= '9';
    }

    private static boolean isLetter(int b) {
        return b >= 'a' && b <= 'z';
    }

    private static void blanks() {
        edge("Terms I", "with blanks (9, 10, 13, 32) between or not:");
        for (int b = 0; b < 256; b++) {
            TypeLock lock = new TypeLock();
            boolean isGood = isBlank(b) || isDigit(b);
            due("read() with a byte " + b, Due.read(lock, "enough" + (char) b + "7;"), isGood ? 0 : 1);
            due("place() with " + b, lock.place(), isGood ? -1 : isLetter(b) ? 0 : 6);
            due("ENOUGH with " + b, lock.count(10), isBlank(b) ? 7 : isDigit(b) ? 10 * (b - '0') + 7 : 50);
        }
        good("frame1 1;enough7;give=x;block a1 1;wedge west0 1;rule if x==1and y!=2or not 3<=4;");
        good("\t\n\r frame\t\n\r 1\t\n\r 1\t\n\r ;\t\n\r ");
        // Within a TOKEN there is none.
        fault("en ough 7;", 1, 0);
        fault("enough 1 2;", 1, 9);
        fault("rule if x= =1;", 1, 9);
        fault("rule if x< =1;", 1, 11);
        fault("rule if x! =1;", 1, 9);
        fault("block a b 1 1;", 1, 8);
    }

    private static void names() {
        edge("Terms I", "NAMES (letters a .. z, 8 at most, none of the words in quotes)");
        for (int length = 1; length <= 12; length++) {
            fault("block " + "q".repeat(length) + " 1 1;", length <= 8 ? 0 : 1, length <= 8 ? -1 : 6);
            fault("piece wood " + "abcdefghijkl".substring(0, length) + " 1 1 0;", length <= 8 ? 0 : 1, length <= 8 ? -1 : 11);
        }
        for (int b = 0; b < 256; b++) {
            boolean isName = isLetter(b) && b != 'x' && b != 'y';
            fault("block " + (char) b + " 1 1;", isName ? 0 : 1, isName ? -1 : isBlank(b) ? 8 : 6);
        }
        for (String word : WORDS) {
            fault("block " + word + " 1 1;", 1, 6);
            boolean isSort = word.equals("wood") || word.equals("round");
            fault("piece " + word + " 1 1 0;", 1, isSort ? 7 + word.length() : 6);
            fault("piece wood " + word + " 1 1 0;", 1, 11);
            good("block " + word + "s 1 1;");
            good("block s" + word + " 1 1;");
            if (word.length() > 1) {
                good("block " + word.substring(1) + "z 1 1;block " + word.substring(0, word.length() - 1) + " 1 1;");
            }
        }
        // Letters alike in all but the last, the eighth, are other NAMES.
        good("block aaaaaaaa 1 1;block aaaaaaab 1 1;block baaaaaaa 1 1;block aaaaaaa 1 1;block zzzzzzzz 1 1;");
    }

    private static void ints() {
        edge("Terms I", "INTS (1 to 4 digits)");
        for (String number : new String[] {"7", "07", "007", "0007"}) {
            TypeLock lock = told("enough " + number + ";");
            due("ENOUGH " + number, lock.count(10), 7);
        }
        fault("enough 00007;", 1, 7);
        fault("enough 00000000000000000000007;", 1, 7);
        holds("9999==9998+1", true);
        holds("0000==0", true);
        fault("rule if 10000==0;", 1, 8);
        fault("rule if 0==10000;", 1, 11);
        // The signs beside 0 and 9.
        fault("enough 1:;", 1, 8);
        fault("enough 1/;", 1, 8);
        fault("enough :1;", 1, 7);
        fault("enough /1;", 1, 7);
        fault("enough ;", 1, 7);
    }

    private static void signs() {
        edge("Terms I", "SIGNS ; = + - * / == != < <= ( ) .");
        for (int b = 0; b < 256; b++) {
            String text = "give=8" + (char) b + "2;";
            boolean isGood = isDigit(b) || b == '+' || b == '-' || b == '*' || b == '/';
            fault(text, isGood ? 0 : 1, isGood ? -1 : isBlank(b) || b == ';' ? 7 : 6);
            text = "rule if 8" + (char) b + "2;";
            boolean goesOn = isDigit(b) || "+-*/".indexOf(b) >= 0;
            fault(text, b == '<' ? 0 : 1, b == '<' ? -1 : goesOn ? 11 : isBlank(b) ? 10 : 9);
            text = "rule if 8" + (char) b + "=2;";
            isGood = b == '=' || b == '!' || b == '<';
            fault(text, isGood ? 0 : 1, isGood ? -1 : goesOn || isBlank(b) ? 10 : 9);
        }
        good("give=((8)+(2)-1*3/(4));");
        longest();
    }

    private static void longest() {
        edge("Terms I", "TOKENS, the longest that can be,");
        fault("rule if x==", 1, 11);
        fault("rule if x<=", 1, 11);
        fault("rule if x!=", 1, 11);
        fault("rule if x<", 1, 10);
        fault("rule if x===1;", 1, 11);
        fault("rule if x<==1;", 1, 11);
        fault("rule if x!==1;", 1, 11);
        fault("rule if x<<1;", 1, 10);
        fault("give==1;", 1, 4);
        fault("give=== 1;", 1, 4);
        fault("framea 1 1;", 1, 0);
        fault("rule ifx==1;", 1, 5);
        fault("rule if notx==1;", 1, 8);
        fault("rule if x==1orx==1;", 1, 12);
        holds("x<=7", true);
        holds("x<7", false);
        good("block xx 1 1;block yx 1 1;block ifx 1 1;");
    }

    private static void longer() {
        edge("Terms I", "A longer one, all else, is no TOKEN.");
        fault("block abcdefghi 1 1;", 1, 6);
        fault("block frameframe 1 1;", 1, 6);
        fault("frameframe 1 1;", 1, 0);
        fault("frame 12345 1;", 1, 6);
        fault("frame 1 1;Frame 1 1;", 1, 10);
        fault("frame 1 1;frame" + (char) 225 + " 1 1;", 1, 15);
        for (int b : new int[] {0, 8, 11, 12, 14, 31, '!', '>', '_', 127, 128, 160, 255}) {
            fault("frame 1 1;" + (char) b, 1, 10);
        }
    }

    private static void grammar() {
        edge("Terms I", "text: {TELL}. TELL: 'frame' INT INT ';'");
        good("");
        for (String tell : TELLS) {
            String[] tokens = tell.split(" ");
            good(tell);
            good("frame 1 1;" + tell + "frame 1 1;" + "enough 1;");
            StringBuilder ahead = new StringBuilder();
            for (int i = 0; i < tokens.length; i++) {
                String rest = tell.substring(ahead.length() + tokens[i].length());
                if (i > 0) {
                    fault(ahead.toString(), 1, ahead.length());
                    fault(ahead + "frame" + rest, 1, ahead.length());
                }
                fault(ahead + "?" + rest, 1, ahead.length());
                ahead.append(tokens[i]).append(' ');
            }
            fault(tell + ";", 1, tell.length());
        }
        kindGrammar();
        unitGrammar();
    }

    private static void kindGrammar() {
        edge("Terms I", "'block' NAME INT INT ';' | 'piece' ['wood' | 'round'] NAME INT INT INT ';'");
        fault("piece wood wood a 1 1 1;", 1, 11);
        fault("piece wood round a 1 1 1;", 1, 11);
        fault("piece round wood a 1 1 1;", 1, 12);
        fault("block wood a 1 1;", 1, 6);
        fault("block a 1 1 1;", 1, 12);
        fault("block a 1;", 1, 9);
        fault("piece a 1 1;", 1, 11);
        fault("piece a 1 1 1 1;", 1, 14);
        edge("Terms I", "'wedge' ('north' | 'east' | 'south' | 'west') INT INT ';'");
        fault("wedge;", 1, 5);
        fault("wedge 0 1;", 1, 6);
        fault("wedge north;", 1, 11);
        fault("wedge north east 0 1;", 1, 12);
        fault("wedge north 0;", 1, 13);
        fault("wedge north 0 1 2;", 1, 16);
        for (String word : WORDS) {
            boolean isSide = " north east south west ".contains(" " + word + " ");
            fault("wedge " + word + " 0 1;", isSide ? 0 : 1, isSide ? -1 : 6);
        }
    }

    private static void unitGrammar() {
        edge("Terms I", "COND: ALL {'or' ALL}. ALL: LIT {'and' LIT}. LIT: 'not' LIT | E ('==' | '!=' | '<' | '<=') E.");
        fault("rule if;", 1, 7);
        fault("rule if x;", 1, 9);
        fault("rule if or x==1;", 1, 8);
        fault("rule if x==1 or;", 1, 15);
        fault("rule if x==1 and or x==1;", 1, 17);
        fault("rule if x==1 x==1;", 1, 13);
        fault("rule if x==1 not x==1;", 1, 13);
        fault("rule if not;", 1, 11);
        fault("rule if x==1==1;", 1, 12);
        fault("rule if (x==1);", 1, 10);
        fault("rule if not (x==1);", 1, 14);
        good("rule if not(x)==1;");
        // One, two and three of each, the and ahead of the or.
        for (int set = 0; set < 16; set++) {
            String[] lit = new String[4];
            boolean[] is = new boolean[4];
            for (int i = 0; i < 4; i++) {
                is[i] = (set >> i & 1) == 1;
                lit[i] = is[i] ? "x==7" : "x<7";
            }
            holds(lit[0], is[0]);
            holds("not " + lit[0], !is[0]);
            holds("not not not " + lit[0] + " or not " + lit[1], !is[0] || !is[1]);
            holds("not " + lit[0] + " and not not " + lit[1], !is[0] && is[1]);
            holds(lit[0] + " or " + lit[1] + " and " + lit[2] + " and " + lit[3], is[0] || is[1] && is[2] && is[3]);
            holds(lit[0] + " and " + lit[1] + " or " + lit[2] + " and not " + lit[3], is[0] && is[1] || is[2] && !is[3]);
            holds(lit[0] + " or " + lit[1] + " or " + lit[2] + " and " + lit[3], is[0] || is[1] || is[2] && is[3]);
        }
        edge("Terms I", "E: PART {('+' | '-') PART}. PART: UNIT {('*' | '/') UNIT}. UNIT: INT | VAR | '(' E ')'.");
        fault("give=;", 1, 5);
        fault("give=1+;", 1, 7);
        fault("give=1 1;", 1, 7);
        fault("give=+1;", 1, 5);
        fault("give=1*/1;", 1, 7);
        fault("give=();", 1, 6);
        fault("give=(1;", 1, 7);
        fault("give=1);", 1, 6);
        fault("give=(1));", 1, 8);
        fault("give=(1)(1);", 1, 8);
        fault("give=2(1);", 1, 6);
        for (String word : WORDS) {
            boolean isVar = VARS.contains(" " + word + " ");
            fault("give=" + word + ";", isVar ? 0 : 1, isVar ? -1 : 5);
            fault("give=(" + word + ");", isVar ? 0 : 1, isVar ? -1 : 6);
        }
        fault("give=a;", 1, 5);
    }

    // ---- What a text tells

    /** An INT with what stands ahead of it and behind it: WRONG, at its place, but from least to most. */
    private static void within(String ahead, String behind, int least, int most) {
        int[] some = {0, 1, 2, 59, 60, 61, 98, 99, 100, 101, 127, 128, 255, 256, 257, 9999};
        for (int number : some) {
            boolean isWithin = number >= least && number <= most;
            fault(ahead + number + behind, isWithin ? 0 : 5, isWithin ? -1 : ahead.length());
        }
    }

    private static void frame() {
        edge("Terms I", "FRAME: wide, high 1 .. 60 points (60 each if not told)");
        within("frame ", " 1;", 1, 60);
        within("frame 1 ", ";", 1, 60);
        fault("frame 0 0;", 5, 6);
        for (int[] size : new int[][] {{1, 1}, {60, 60}, {1, 60}, {60, 1}}) {
            TypeLock lock = told("frame " + size[0] + " " + size[1] + ";");
            due("wide", lock.count(8), size[0]);
            due("high", lock.count(9), size[1]);
            due("all empty", lock.empty(), size[0] * size[1]);
        }
        TypeLock lock = told("frame 3 4;");
        due("read() of a text without", Due.read(lock, "enough 3;"), 0);
        due("wide, not told", lock.count(8), 60);
        due("high, not told", lock.count(9), 60);
    }

    private static void frameSides() {
        edge("Terms I", "x from west (0) to east, y from north (0) to south.");
        TypeLock lock = told("frame 5 4;piece a 1 1 9;");
        lay(lock, 0, 0, 0, 0, 0, 4, 0, 0, 0, 0, 3, 0, 0, 4, 3, 0);
        int[][] at = {{1, 0, 0, 1}, {1, 1, 0, 0}, {0, 0, 1, 1}, {0, 1, 1, 0}};
        for (int i = 0; i < 4; i++) {
            for (int side = 0; side < 4; side++) {
                due("borne(" + i + ", " + side + ")", lock.borne(i, side), at[i][side]);
            }
        }
    }

    private static void blocks() {
        edge("Terms I", "BLOCKS (wide, high 1 .. 60; there is one of each)");
        within("block a ", " 1;", 1, 60);
        within("block a 1 ", ";", 1, 60);
        TypeLock lock = told("block a 1 1;block b 60 59;");
        due("one", lock.kind(0, 3), 1);
        lay(lock, 0, 0, 0, 0);
        due("no second one", lock.lay(0, 5, 5, false), -4);
        due("none is left", lock.count(20), 0);
        due("one of the other", lock.count(21), 1);
        lay(lock, 1, 0, 1, 0);
        due("no second one of it, where it has room no more", lock.lay(1, 0, 1, false), -3);
        lock.take(0);
        due("one is left again", lock.count(20), 1);
        lay(lock, 0, 5, 0, 0);
        due("no second one", lock.lay(0, 0, 0, true), -4);
    }

    private static void pieces() {
        edge("Terms I", "PIECES (long, broad 1 .. 60, how many 0 .. 99 the drawer has; of wood or round or neither)");
        for (String sort : new String[] {"", "wood ", "round "}) {
            within("piece " + sort + "a ", " 1 1;", 1, 60);
            within("piece " + sort + "a 1 ", " 1;", 1, 60);
            within("piece " + sort + "a 1 1 ", ";", 0, 99);
        }
        TypeLock lock = told("piece a 1 1 0;piece wood b 60 60 99;piece round c 1 60 1;");
        int[][] want = {{1, 1, 1, 0}, {2, 60, 60, 99}, {3, 1, 60, 1}};
        for (int kind = 0; kind < 3; kind++) {
            for (int what = 0; what < 4; what++) {
                due("kind(" + kind + ", " + what + ")", lock.kind(kind, what), want[kind][what]);
            }
        }
        due("of none", lock.lay(0, 0, 0, false), -4);
        lay(lock, 2, 0, 0, 0);
        due("of one, a second", lock.lay(2, 1, 0, false), -4);
        due("98 and one", lock.count(21), 99);
    }

    private static void kindNumbers() {
        edge("Terms I", "are numbered in one row from 0 on as they stand.");
        TypeLock lock = told(kinds(14));
        for (int kind = 0; kind < 14; kind++) {
            due("kind(" + kind + ", 0)", lock.kind(kind, 0), kind % 2);
            due("kind(" + kind + ", 1)", lock.kind(kind, 1), kind + 1);
        }
        due("kind(14, 0)", lock.kind(14, 0), -1);
        due("kind(-1, 0)", lock.kind(-1, 0), -1);
        due("a 14th one lies", lock.lay(13, 0, 0, false), 0);
        due("its KIND", lock.thing(0, 0), 13);
    }

    /** So many KINDS, a BLOCK and a PIECE by turns, each one point wider than the last. */
    static String kinds(int many) {
        StringBuilder row = new StringBuilder();
        for (int i = 0; i < many; i++) {
            row.append(i % 2 == 0 ? "block " : "piece ").append((char) ('a' + i)).append(' ').append(i + 1)
                    .append(i % 2 == 0 ? " 1;" : " 1 1;");
        }
        return row.toString();
    }

    private static void wedges() {
        edge("Terms I", "WEDGES: a side, from a to b (0 .. 60, a below b) along it (x at north and south, y at west and east).");
        for (int side = 0; side < 4; side++) {
            String ahead = "wedge " + sideName(side) + " ";
            within(ahead + "0 ", ";", 1, 60);
            within(ahead + "59 ", ";", 60, 60);
            within(ahead + "60 ", ";", 61, 60);
            within(ahead + "1 ", ";", 2, 60);
            // Each THING is one point along the side: the wedge reaches those from a to b - 1.
            TypeLock lock = told(ahead + "0 1;" + ahead + "59 60;" + ahead + "20 23;piece p 2 1 40;");
            int[] spots = {0, 1, 58, 59, 19, 20, 22, 23};
            int[][] want = {{1, 0, 0, 0, 0, 0, 0, 0}, {0, 0, 0, 1, 0, 0, 0, 0}, {0, 0, 0, 0, 0, 1, 1, 0}};
            for (int spot : spots) {
                layAt(lock, side, 0, spot, 0);
            }
            for (int wedge = 0; wedge < 3; wedge++) {
                due("tight", lock.tight(wedge, true), true);
                for (int i = 0; i < spots.length; i++) {
                    due("wedge " + wedge + " at " + sideName(side) + " and what lies on point " + spots[i],
                            lock.pushed(i, side), want[wedge][i]);
                }
                due("loose", lock.tight(wedge, false), true);
            }
        }
    }

    private static void enough() {
        edge("Terms I", "ENOUGH 1 .. 100 of a hundred, 50 if not told;");
        within("enough ", ";", 1, 100);
        due("not told", told("frame 1 1;").count(10), 50);
        due("1", told("enough 1;").count(10), 1);
        due("100", told("enough 100;").count(10), 100);
        TypeLock lock = told("enough 3;");
        due("read() of a text without", Due.read(lock, "frame 1 1;"), 0);
        due("50 again", lock.count(10), 50);
    }

    private static void give() {
        edge("Terms I", "GIVE 0 if not told");
        TypeLock lock = told("block a 1 1;block b 60 9;");
        lay(lock, 0, 0, 0, 0, 1, 0, 9, 0);
        due("gives(0)", lock.gives(0), 0);
        due("gives(1)", lock.gives(1), 0);
        due("read() of a text with it", Due.read(lock, "give=3;block a 1 1;"), 0);
        lay(lock, 0, 0, 0, 0);
        due("told", lock.gives(0), 3);
        due("read() of a text without", Due.read(lock, "block a 1 1;"), 0);
        lay(lock, 0, 0, 0, 0);
        due("0 again", lock.gives(0), 0);
        due("read() of a text with it", Due.read(lock, "give=3;block a 1 1;"), 0);
        for (int i = 0; i < 3; i++) {
            due("read() of a text without", Due.read(lock, "rule if 7==7;block a 1 1;"), 0);
            lay(lock, 0, 0, 0, 0);
            due("0 once more", lock.gives(0), 0);
        }
    }

    private static void lastTold() {
        edge("Terms I", "(of several laws, frames, enoughs the last one told); RULES.");
        TypeLock lock = told("frame 60 60;give=8;enough 100;frame 1 1;enough 99;give=9;frame 4 5;enough 7;give=x+2;block a 1 1;");
        due("the last frame", lock.count(8), 4);
        due("the last frame", lock.count(9), 5);
        due("the last enough", lock.count(10), 7);
        lay(lock, 0, 3, 0, 0);
        due("the last law", lock.gives(0), 5);
        fault("frame 61 1;frame 1 1;", 5, 6);
        fault("enough 0;enough 1;", 5, 7);
        lock = told("block a 1 1;rule if x==9;rule if x==3;rule if x==3;");
        lay(lock, 0, 3, 0, 0);
        due("of RULES all, the first", lock.judge(), 1);
        due("of RULES all", lock.breaks(2), 1);
        lock = told("give=1;".repeat(60) + "give=7;" + "rule if 1==2;".repeat(2) + "rule if x==7;rule if 1/x==0;block a 1 1;");
        lay(lock, 0, 7, 0, 0);
        due("the last of 61 laws", lock.gives(0), 7);
        due("the third RULE", lock.judge(), 2);
        due("the second RULE", lock.breaks(1), 0);
        due("the fourth RULE", lock.breaks(3), 1);
    }

    // ---- FAULTS

    private static void firstFault() {
        edge("Terms I", "FAULTS, the first by its place (a byte; the text's end: its length), of one place the least:");
        fault("? ?", 1, 0);
        fault(" ?", 1, 1);
        fault("frame 1 1; ?", 1, 11);
        fault("frame 1 1", 1, 9);
        fault("frame 1 1  \n", 1, 12);
        // SYNTAX ahead of ROOM, and ROOM ahead of SYNTAX.
        fault("give=1 1;" + kinds(15), 1, 7);
        fault(kinds(14) + "block 1", 2, kinds(14).length());
        fault("give=(((((((;", 2, 11);
        // On one place: a 401st TOKEN or a 7th ( with which no text goes on.
        fault(FOUR.repeat(100) + ")", 1, 1000);
        fault(FOUR.repeat(99) + "enough 1;;", 1, 999);
        fault(FOUR.repeat(100) + "frame", 2, 1000);
        fault("give=((((((1(", 1, 12);
        fault("give=((((((x+(", 2, 13);
        // Those that count alone: the first, whichever it is.
        fault("block a 1 0;block a 1 1;", 5, 10);
        fault("block a 1 1;block a 0 1;", 3, 18);
        fault("enough 0;enough 0;", 5, 7);
        fault("block a 1 1;block b 1 1;block b 1 1;block a 1 1;", 3, 30);
    }

    private static void syntax() {
        edge("Terms I", "1 SYNTAX: a TOKEN, or what is none, with which no text goes on.");
        fault(";", 1, 0);
        fault("x", 1, 0);
        fault("7", 1, 0);
        fault("frame 1 1;frame;", 1, 15);
        fault("frame 60;", 1, 8);
        fault("frame a 1;", 1, 6);
        fault("frame 1 1 1;", 1, 10);
        fault("give 1;", 1, 5);
        fault("give=x==1;", 1, 6);
        fault("enough;", 1, 6);
        fault("enough 1 %;", 1, 9);
        fault("rule x==1;", 1, 5);
        // A late FAULT is none beside it, wherever it is.
        fault("frame 0 0;frame", 1, 15);
        fault("enough 101", 1, 10);
        fault("block a 1 1;block a 1 1", 1, 23);
    }

    private static void tokenRoom() {
        edge("Terms I", "2 ROOM: a 401st TOKEN;");
        good(FOUR.repeat(100));
        good(FOUR.repeat(100) + " \n ");
        fault(FOUR.repeat(100) + FOUR, 2, 1000);
        fault(FOUR.repeat(100) + "rule", 2, 1000);
        fault(FOUR.repeat(99) + "enough 1;give=1;", 2, 1003);
        fault(FOUR.repeat(100) + "  frame", 2, 1002);
        fault(FOUR.repeat(100) + "framf", 1, 1000);
        // "give = 1" are three TOKENS, each "+1" two, ";" one.
        good("give=1" + "+1".repeat(198) + ";");
        fault("give=1" + "+1".repeat(198) + "+1;", 2, 5 + 1 + 396 + 1);
        fault("give=1" + "+1".repeat(199) + ";", 2, 5 + 1 + 396 + 1);
        fault("give=1" + "+1".repeat(198) + ")", 1, 5 + 1 + 396);
        good("rule if x" + "+x".repeat(197) + "<1;");
        fault("rule if x" + "+x".repeat(197) + "<1", 1, 9 + 394 + 2);
        fault("rule if x" + "+x".repeat(198) + "<1;", 2, 9 + 396 + 1);
        good("rule if " + "not ".repeat(394) + "x<1;");
        fault("rule if " + "not ".repeat(395) + "x<1;", 2, 8 + 4 * 395 + 3);
        fault("rule if " + "not ".repeat(396) + "x<1;", 2, 8 + 4 * 396 + 2);
        // Those of 400 TOKENS are judged like others.
        TypeLock lock = told("block a 1 1;rule if x" + "+x".repeat(192) + "==386;");
        lay(lock, 0, 2, 0, 0);
        due("193 times 2", lock.judge(), 0);
        for (int i = 0; i < 5; i++) {
            due("read() once more", Due.read(lock, "block a 1 1;rule if x" + "+x".repeat(192) + "==386;"), 0);
            lay(lock, 0, 2, 0, 0);
            due("193 times 2 once more", lock.judge(), 0);
        }
        lock = told("block a 1 1;rule if " + "not ".repeat(389) + "x==2;");
        lay(lock, 0, 2, 0, 0);
        due("389 nots of what holds", lock.judge(), -2);
        lock.take(0);
        lay(lock, 0, 3, 0, 0);
        due("389 nots of what does not", lock.judge(), 0);
    }

    private static void kindRoom() {
        edge("Terms I", "a 15th KIND, a 7th wedge, a 7th rule (at its first TOKEN);");
        good(kinds(14));
        good(kinds(14) + "frame 1 1;wedge west 0 1;enough 1;give=1;rule if x<1;");
        int end = kinds(14).length();
        fault(kinds(14) + "block z 1 1;", 2, end);
        fault(kinds(14) + "piece z 1 1 1;", 2, end);
        fault(kinds(14) + "\n block a 0 0;", 2, end + 2);
        fault(kinds(14) + "piece", 2, end);
        fault(kinds(14) + "frame 1 1;piece wood", 2, end + 10);
        StringBuilder same = new StringBuilder();
        for (int i = 0; i < 14; i++) {
            same.append("block ").append((char) ('a' + i)).append(" 1 1;");
        }
        good(same.toString());
        fault(same + "block o 1 1;", 2, 14 * 12);
        for (String wedge : new String[] {"wedge west 0 1;", "wedge south 5 9;"}) {
            int length = 6 * wedge.length();
            good(wedge.repeat(6));
            good(wedge.repeat(6) + kinds(14));
            fault(wedge.repeat(7), 2, length);
            fault(wedge.repeat(6) + "wedge", 2, length);
            fault(wedge.repeat(6) + " wedge 7", 2, length + 1);
        }
        String rule = "rule if x<1;";
        good(rule.repeat(6));
        good(rule.repeat(6) + "wedge west 0 1;".repeat(6) + kinds(14));
        fault(rule.repeat(7), 2, 72);
        fault(rule.repeat(6) + "rule", 2, 72);
        fault(rule.repeat(6) + "\trule x", 2, 73);
        // Laws, frames and enoughs are as many as there is room for TOKENS.
        good("give=1;".repeat(20) + "enough 1;".repeat(20) + "frame 1 1;".repeat(20));
    }

    private static void openRoom() {
        edge("Terms I", "a 7th ( within one another (at it).");
        for (int open = 1; open <= 8; open++) {
            String text = "give=" + "(".repeat(open) + "1" + ")".repeat(open) + ";";
            fault(text, open <= 6 ? 0 : 2, open <= 6 ? -1 : 11);
            text = "rule if 0<" + "(".repeat(open) + "1" + ")".repeat(open) + ";";
            fault(text, open <= 6 ? 0 : 2, open <= 6 ? -1 : 16);
            text = "rule if " + "(".repeat(open) + "1" + ")".repeat(open) + "<2;";
            fault(text, open <= 6 ? 0 : 2, open <= 6 ? -1 : 14);
        }
        // One behind the other they are no more than six.
        good("give=" + "(1)+".repeat(20) + "1;");
        good("give=((((((1))))))*((((((2))))));");
        fault("give=((((((1+(2", 2, 13);
        fault("give=(1+(1+(1+(1+(1+(1+(1", 2, 23);
        good("give=((((((1)+(2))))));");
        good("rule if ((((((1))))))<((((((2)))))) and ((((((1))))))<((((((2))))));");
        fault("rule if ((((((1))))))<((((((2)))))) and (((((((1", 2, 46);
        holds("((((((x+1)*2+1)*2+1)*2+1)*2+1)*2+1)==287", true);
        holds("1+2*(1+2*(1+2*(1+2*(1+2*(1+2*(1+2*x))))))==1023", true);
        holds("1023-1*(2-2*(1-1*(1-1*(1-1*(1-1*(x-1*x))))))==1021", true);
    }

    private static void twice() {
        edge("Terms I", "If there is none, likewise: 3 TWICE: a NAME told already.");
        fault("block a 1 1;block a 1 1;", 3, 18);
        fault("block a 1 1;piece a 1 1 0;", 3, 18);
        fault("piece a 1 1 0;piece wood a 1 1 0;", 3, 25);
        fault("piece wood a 1 1 0;piece round a 1 1 0;", 3, 31);
        fault("block abcdefgh 1 1;block abcdefgh 1 1;", 3, 25);
        fault("block a 1 1;block a 1 1;block a 1 1;", 3, 18);
        good("block ab 1 1;block ba 1 1;block a 1 1;block b 1 1;");
        StringBuilder all = new StringBuilder();
        for (int i = 0; i < 13; i++) {
            all.append("block ").append((char) ('a' + i)).append(" 1 1;");
        }
        fault(all + "block m 1 1;", 3, 162);
        fault(all + "block a 1 1;", 3, 162);
        good(all + "block n 1 1;");
        // The NAMES of the text ahead are told no more.
        TypeLock lock = told("block a 1 1;");
        due("read() of it once more", Due.read(lock, "block a 1 1;"), 0);
        due("read() of a FAULT", Due.read(lock, "block b 1 1;block b 1 1;"), 3);
        due("place()", lock.place(), 18);
        due("read() of it", Due.read(lock, "block b 1 1;"), 0);
    }

    private static void wrong() {
        edge("Terms I", "5 WRONG (at the INT): wide, high, long, broad 0 or above 60, above 99 of a PIECE, a WEDGE's b above 60 or not"
                + " above a, ENOUGH 0 or above 100.");
        fault("frame\t0000 1;", 5, 6);
        fault("frame 1  0061;", 5, 9);
        fault("block a 60 60;block b 61 60;", 5, 22);
        fault("block a 60 61;", 5, 11);
        fault("piece a 60 60 100;", 5, 14);
        good("piece a 60 60 99;");
        good("piece a 60 60 0;");
        fault("piece a 0 61 100;", 5, 8);
        fault("piece a 1 61 100;", 5, 10);
        fault("wedge west 60 60;", 5, 14);
        fault("wedge west 60 61;", 5, 14);
        fault("wedge west 0 0;", 5, 13);
        fault("wedge west 61 62;", 5, 14);
        fault("wedge west 9999 9999;", 5, 16);
        fault("wedge west 9 8;", 5, 13);
        good("wedge west 9 10;");
        fault("enough 0;", 5, 7);
        fault("enough 101;", 5, 7);
        // What GIVE and RULES tell is never WRONG.
        good("give=0;give=9999;rule if 0<9999;");
    }

    private static TypeLock lying() {
        TypeLock lock = told("frame 6 6;enough 40;give=2;block a 2 2;piece p 1 2 5;wedge north 0 6;wedge west 0 6;rule if x==0;");
        lay(lock, 0, 0, 0, 0, 1, 2, 0, 0);
        due("tight(1)", lock.tight(1, true), true);
        due("log", lock.log(0, 1, 9, false), 0);
        due("hold(1)", lock.hold(1), true);
        return lock;
    }

    private static void changesNothing() {
        edge("Terms I", "A text with a FAULT changes nothing;");
        String[] texts = {"frame 3 3;enough", kinds(15), "frame 3 3;block a 1 1;block a 1 1;", "frame 3 3;enough 0;",
            "?", FOUR.repeat(101), "give=9;block p 5 5;piece a 3 3 3;wedge east 0 1;rule if 1==1;rule if 1==1"};
        int[] number = {1, 2, 3, 5, 1, 2, 1};
        for (int i = 0; i < texts.length; i++) {
            TypeLock lock = lying();
            String before = state(lock);
            due("read()", Due.read(lock, texts[i]), number[i]);
            dueSame("read() of a FAULT", lock, before);
            due("again(1)", lock.again(1), true);
            dueSame("what was held again", lock, before);
        }
        // Nor does it the text behind it, wherever it breaks off.
        String last = "give=5-(2-1)*2;block a 1 1;wedge west 0 60;rule if not x*2-1==7 and y==0;";
        String full = kinds(14) + "wedge east 0 60;".repeat(6) + "rule if x-1==x-1;".repeat(6) + "give=7-(2-(3*(x-1";
        TypeLock lock = new TypeLock();
        for (int i = 0; i <= full.length(); i += i < full.length() - 20 ? 17 : 1) {
            // The same object reads some of them, but no more calls than are promised.
            lock = i % 6 == 0 ? new TypeLock() : lock;
            Due.tape(lock, Due.bytes(full.substring(0, i)));
            lock.read();
            if (i % 3 == 0 || i > full.length() - 20) {
                due("read() of another", Due.read(lock, last), 0);
                due("KINDS", lock.count(0), 1);
                due("WEDGES", lock.count(1), 1);
                due("RULES", lock.count(2), 1);
                lay(lock, 0, 0, 0, 0);
                due("gives(0)", lock.gives(0), 3);
                due("judge()", lock.judge(), 0);
            }
        }
    }

    private static void inPlace() {
        edge("Terms I", "else it is in place of the one ahead: nothing is laid then, no WEDGE is tight.");
        for (String text : new String[] {"", "  ", "frame 6 6;enough 40;give=2;block a 2 2;piece p 1 2 5;wedge north 0 6;"}) {
            TypeLock lock = lying();
            due("read()", Due.read(lock, text), 0);
            due("THINGS", lock.count(3), 0);
            due("tight", lock.count(6), 0);
            due("KINDS", lock.count(0), text.length() > 5 ? 2 : 0);
            due("WEDGES", lock.count(1), text.length() > 5 ? 1 : 0);
            due("RULES", lock.count(2), 0);
            due("wide", lock.count(8), text.length() > 5 ? 6 : 60);
            due("ENOUGH", lock.count(10), text.length() > 5 ? 40 : 50);
            due("key()", lock.key(), -2);
            due("holding()", lock.holding(), 0);
            due("empty()", lock.empty(), text.length() > 5 ? 36 : 3600);
            due("p", lock.count(21), text.length() > 5 ? 5 : -1);
        }
        full();
        asked();
    }

    /** As much as a text may tell, once more and once more. */
    private static void full() {
        String[] ends = {"", "give=9;", "block", "frame 0 1;", "?"};
        TypeLock lock = new TypeLock();
        for (int i = 0; i < 10; i++) {
            String text = kinds(14) + "wedge east 0 60;".repeat(6) + "rule if x<60;".repeat(6) + ends[i % 5];
            int[] fault = {0, 0, 2, 5, 1};
            due("read()", Due.read(lock, text), fault[i % 5]);
            due("KINDS", lock.count(0), 14);
            due("WEDGES", lock.count(1), 6);
            due("RULES", lock.count(2), 6);
            lay(lock, 13, 0, i % 5, 0);
            due("gives", lock.gives(0), i % 5 == 0 ? 0 : 9);
            due("tight", lock.tight(5, true), true);
            due("all RULES", lock.breaks(5), lock.count(3));
            lock.take(0);
        }
    }

    /** What was answered by the text ahead is forgotten, with nothing laid or taken since. */
    private static void asked() {
        String[] texts = {"frame 9 9;piece p 3 3 3;block a 2 2;wedge west 0 9;wedge north 0 9;rule if 0==0;", "frame 8 8;piece q 4 4 4;",
            "frame 7 7;piece p 1 1 99;piece q 7 1 1;wedge west 0 7;", ""};
        int[][] want = {{3, 9, -2, 1, 1, 0}, {2, 8, 4, -2, -1, -1}, {2, 8, 2, 2, 0, -1}, {-2, 0, -2, -2, -1, -1}};
        TypeLock lock = new TypeLock();
        for (int i = 0; i < 8; i++) {
            due("read()", Due.read(lock, texts[i % 4]), 0);
            int[] now = want[i % 4];
            due("line(8 or 9)", lock.line(i % 4 == 0 ? 9 : 8, 0, 0), now[0]);
            due("nearest(10)", lock.nearest(i % 4 == 2 ? 8 : 11, 0), now[1]);
            due("gap(8, 8)", lock.gap(8, i % 4 == 2 ? 1 : 8, 0), i % 4 == 2 ? 8 : now[2]);
            due("gap(6, 3)", lock.gap(6, 3, 0), i % 4 == 0 ? 2 : i % 4 == 2 ? 18 : -2);
            due("order(1)", lock.order(1), i % 4 == 0 ? 1 : -1);
            due("order(0)", lock.order(0), i % 2 == 0 ? 0 : -1);
            due("ordered(0)", lock.ordered(0), i % 2 == 0 ? 0 : -1);
            due("breaks(0)", lock.breaks(0), i % 4 == 0 ? 0 : -1);
            due("round(0)", lock.round(0), 0);
            due("holding()", lock.holding(), 0);
            due("longest()", lock.longest(), 0);
        }
        lock = told("frame 4 4;enough 100;piece round r 4 4 1;wedge west 0 4;give=1;");
        lay(lock, 0, 0, 0, 0);
        lock.tight(0, true);
        due("not HELD, being round", lock.holding(), 0);
        due("ordered(0)", lock.ordered(0), 0);
        due("gives(0)", lock.gives(0), 1);
        due("read()", Due.read(lock, "frame 4 4;enough 50;piece p 4 4 1;wedge west 0 2;give=2;"), 0);
        lay(lock, 0, 0, 0, 0);
        due("HELD by the first", lock.ordered(0), 1);
        due("gives(0)", lock.gives(0), 2);
        lock.tight(0, true);
        due("HELD, being no round one", lock.holding(), 1);
        due("it drops not", lock.drops(0), 0);
    }

    private static void stays() {
        edge("Terms I", "(LOGS and SLOTS stay.)");
        TypeLock lock = lying();
        due("read()", Due.read(lock, "block q 1 1;piece r 1 1 3;"), 0);
        due("LOGS", lock.count(4), 1);
        due("of KIND 1, by the new drawer", lock.lack(0, 1, 1), 6);
        due("SLOTS", lock.count(7), 1);
        due("what it holds", lock.tuesday(1, 2), 2);
        due("the next LOG", lock.annul(0), 1);
    }

    // ---- VARS

    private static void wraps() {
        edge("Terms I", "VARS, of 32 bits that wrap");
        String least = "(0-2048*1024*1024)";
        holds(least + "<0", true);
        holds("2048*1024*1024<0", true);
        holds("2048*1024*1024==" + least, true);
        holds("0<2048*1024*1024-1", true);
        holds("0<" + least + "-1", true);
        holds("2048*1024*1024-1+1<0", true);
        holds("0-" + least + "==" + least, true);
        holds(least + "*(0-1)==" + least, true);
        holds(least + "/(0-1)==" + least, true);
        holds("8192*8*8192*8==0", true);
        holds("8192*8*8192*8+x==7", true);
        holds("4096*1024*1024==0", true);
        holds("0-(2048*1024*1024-1)==" + least + "+1", true);
        // Compared as numbers, not by their difference.
        holds(least + "<2048*1024*1024-1", true);
        holds("2048*1024*1024-1<" + least, false);
        holds(least + "<=" + least, true);
        TypeLock lock = told("give=2048*1024*1024-1;block a 1 1;");
        lay(lock, 0, 0, 0, 0);
        due("the greatest", lock.gives(0), 9);
        lock = told("give=2048*1024*1024-1+1+x;block a 1 1;");
        lay(lock, 0, 5, 0, 0);
        due("wrapped below 0", lock.gives(0), 0);
    }

    private static void rounded() {
        edge("Terms I", "(/ rounded towards 0;");
        int[][] parts = {{7, 2, 3}, {-7, 2, -3}, {7, -2, -3}, {-7, -2, 3}, {1, 2, 0}, {-1, 2, 0}, {1, -2, 0}, {6, 3, 2},
            {-6, 3, -2}, {0, 5, 0}, {0, -5, 0}, {9999, 9998, 1}, {-9999, 9998, -1}};
        for (int[] part : parts) {
            holds(number(part[0]) + "/" + number(part[1]) + "==" + number(part[2]), true);
        }
        holds("(0-2048*1024*1024)/2==(0-1024*1024*1024)", true);
        holds("100/10/5==2", true);
        holds("7/2*2==6", true);
    }

    private static String number(int n) {
        return n < 0 ? "(0-" + -n + ")" : Integer.toString(n);
    }

    private static void divided() {
        edge("Terms I", "a LIT with a division by 0 does not hold, its not does;");
        for (String sign : new String[] {"==", "!=", "<", "<="}) {
            for (String zero : new String[] {"1/0", "0/0", "1/(x-7)", "1/(1/2)", "1+2*(3-4/(y-11))", "1/(8192*8*8192*8)"}) {
                holds(zero + sign + "0", false);
                holds("0" + sign + zero, false);
                holds(zero + sign + zero, false);
                holds("not " + zero + sign + "0", true);
                holds("not 0" + sign + zero, true);
                holds("not not " + zero + sign + "0", false);
            }
        }
        // Others beside it are not to blame.
        holds("1/0==0 or x==7", true);
        holds("x==7 or 1/0==0", true);
        holds("x==7 and 1/0==0", false);
        holds("x==7 and not 1/0==0", true);
        holds("1/0==0 and x==7 or y==11", true);
        TypeLock lock = told("piece p 1 1 9;rule if 1/x==1;rule if not 1/x==1;");
        lay(lock, 0, 0, 0, 0, 0, 1, 0, 0, 0, 2, 0, 0);
        due("at x 1 alone", lock.breaks(0), 1);
        due("at x 0 and 2", lock.breaks(1), 2);
        due("judge()", lock.judge(), 1);
    }

    private static void dividedAsAWhole() {
        edge("Terms I", "an E that divides by 0 anywhere in it is 0 as a whole)");
        String[] laws = {"7+1/x", "1/x+7", "7+(1/x)*0", "7+(2+(3+(4/x)))*0", "(7*1)/x", "7+0/x", "7-x/x+1", "7+1/(1/(x+1)-1)"};
        int[] atOne = {8, 8, 7, 7, 7, 7, 7, 6};
        for (int i = 0; i < laws.length; i++) {
            TypeLock lock = told("give=" + laws[i] + ";piece p 1 1 9;");
            lay(lock, 0, 0, 0, 0, 0, 1, 0, 0);
            due(laws[i] + " at x 0", lock.gives(0), 0);
            due(laws[i] + " at x 1", lock.gives(1), atOne[i]);
        }
    }

    private static void corner() {
        edge("Terms I", "x, y (its north-west corner), wide, high (as it lies), wood 1 or 0, round likewise;");
        TypeLock lock = told("piece a 1 1 9;piece wood w 60 1 1;piece round r 1 58 1;"
                + "rule if x==0 and y==0;rule if x==59 and y==59;rule if wide==1 and high==1;rule if wide==1 and high==60;"
                + "rule if wood==1 and round==0;rule if wood==0 and round==1;");
        lay(lock, 0, 0, 0, 0, 0, 59, 59, 0, 1, 1, 0, 1, 2, 2, 2, 1);
        int[] want = {1, 1, 2, 1, 1, 1};
        for (int rule = 0; rule < 6; rule++) {
            due("breaks(" + rule + ")", lock.breaks(rule), want[rule]);
        }
        lock = told("block b 60 60;rule if x==0 and y==0 and wide==60 and high==60 and wood==0 and round==0;");
        lay(lock, 0, 0, 0, 1);
        due("as wide and high as can be", lock.judge(), 0);
        lock = told("frame 4 5;block b 3 4;rule if x==1 and y==2 and wide==3 and high==3;rule if x==0 and y==2 and wide==4 and high==3;");
        lay(lock, 0, 0, 2, 1);
        due("as it lies turned", lock.judge(), 1);
    }

    private static void touchVar() {
        edge("Terms I", "touch: along how many points it is touched in all, as they count (by THINGS and the FRAME's sides);");
        String[] sorts = {"", "wood ", "round "};
        int[][] most = {{240, 120, 240}, {4, 0, 4}, {124, 62, 124}, {7, 3, 7}};
        int[][] sizes = {{60, 60}, {1, 1}, {60, 2}, {5, 2}};
        for (int i = 0; i < sizes.length; i++) {
            for (int sort = 0; sort < 3; sort++) {
                int wide = sizes[i][0];
                int high = sizes[i][1];
                // The last one lies at north and west alone.
                String frame = i < 3 ? "frame " + wide + " " + high + ";" : "";
                TypeLock lock = told(frame + "piece " + sorts[sort] + "p " + wide + " " + high + " 1;rule if touch=="
                        + most[i][sort] + ";");
                lay(lock, 0, 0, 0, 0);
                due("touch of " + wide + " by " + high + " " + sorts[sort], lock.judge(), 0);
            }
        }
        TypeLock lock = told("piece p 3 3 9;piece wood w 3 3 9;rule if x==20 and y==20 and touch==0;"
                + "rule if x==20 and y==20 and touch==6;rule if x==20 and y==20 and touch==7;");
        lay(lock, 0, 20, 20, 0);
        due("by nothing", lock.breaks(0), 1);
        // East of it 3 points, north of it 2, one of wood south of it: half of 3; at its corner none.
        lay(lock, 0, 23, 20, 0, 0, 19, 17, 0, 1, 20, 23, 0, 0, 17, 23, 0);
        due("3 and 2 and 1", lock.breaks(1), 1);
        lay(lock, 1, 17, 20, 0);
        due("3 and 2 and 1 and 1", lock.breaks(2), 1);
    }

    private static void heldVar() {
        edge("Terms I", "held: 1 if it is HELD, else 0;");
        TypeLock lock = told("frame 4 2;piece round r 2 2 9;piece p 2 2 9;wedge west 0 2;wedge north 0 4;"
                + "rule if held==1;rule if held==0;");
        lay(lock, 0, 0, 0, 0, 1, 2, 0, 0);
        int[][] want = {{0, 2}, {1, 1}, {2, 0}, {1, 1}};
        for (int set = 0; set < 4; set++) {
            lock.tight(0, set == 1 || set == 2);
            lock.tight(1, set == 2 || set == 3);
            due("HELD, WEDGES " + set, lock.breaks(0), want[set][0]);
            due("not HELD", lock.breaks(1), want[set][1]);
        }
    }

    private static void pushVar() {
        edge("Terms I", "push: how many WEDGES are tight.");
        TypeLock lock = told("piece p 1 1 1;" + "wedge east 0 1;".repeat(6) + "give=push;rule if push==0;rule if push==6;");
        lay(lock, 0, 9, 9, 0);
        due("none", lock.judge(), 0);
        for (int wedge = 0; wedge < 6; wedge++) {
            due("gives(0)", lock.gives(0), wedge);
            lock.tight(wedge, true);
            lock.tight(wedge, true);
        }
        due("all", lock.judge(), 1);
        due("gives(0)", lock.gives(0), 6);
        lock.tight(0, false);
        due("one less", lock.gives(0), 5);
    }

    private static void giveVars() {
        edge("Terms I", "In GIVE touch and held are 0.");
        TypeLock lock = told("frame 2 2;block a 2 2;wedge west 0 2;give=touch+held+x+1;rule if touch==8 and held==1;");
        lay(lock, 0, 0, 0, 0);
        lock.tight(0, true);
        due("a RULE sees both", lock.judge(), 0);
        due("GIVE sees 0", lock.gives(0), 1);
        lock.tight(0, false);
        due("what a RULE saw ahead is forgotten", lock.gives(0), 1);
        lock.tight(0, true);
        due("a RULE sees both", lock.breaks(0), 1);
        lock.tight(0, true);
        due("what a RULE saw ahead is forgotten", lock.gives(0), 1);
        lock = told("frame 2 2;block a 2 2;wedge west 0 2;give=5+1/touch;");
        lay(lock, 0, 0, 0, 0);
        lock.tight(0, true);
        due("divided by 0", lock.gives(0), 0);
        lock = told("frame 2 2;block a 2 2;wedge west 0 2;give=5+1/held;");
        lay(lock, 0, 0, 0, 0);
        lock.tight(0, true);
        due("divided by 0", lock.gives(0), 0);
    }

    // ---- Promises 1 to 6

    private static void newObject() {
        edge("Promise 1", "Nothing is told, nothing lies.");
        TypeLock lock = new TypeLock();
        int[] counts = {0, 0, 0, 0, 0, 0, 0, 0, 60, 60, 50};
        for (int what = 0; what < counts.length; what++) {
            due("count(" + what + ")", lock.count(what), counts[what]);
        }
        due("count(20)", lock.count(20), -1);
        due("kind(0, 0)", lock.kind(0, 0), -1);
        due("thing(0, 0)", lock.thing(0, 0), -1);
        due("take(0)", lock.take(0), -1);
        due("tight(0)", lock.tight(0, true), false);
        due("breaks(0)", lock.breaks(0), -1);
        due("order(0)", lock.order(0), -1);
        due("ordered(0)", lock.ordered(0), -1);
        due("annul(0)", lock.annul(0), -1);
        due("lack(0, 0, 0)", lock.lack(0, 0, 0), -1);
        due("again(0)", lock.again(0), false);
        due("tuesday(0, 0)", lock.tuesday(0, 0), -1);
        due("back(1)", lock.back(1), -1);
        due("place()", lock.place(), -1);
        due("read() of no byte", lock.read(), 0);
    }

    private static void feedTwenty() {
        edge("Promise 2", "Twenty bytes, the highest of a first, come behind the tape: how many it has.");
        TypeLock lock = new TypeLock();
        due("feed", lock.feed(0x656e6f75, 0x67682031, 0x373b2020, 0x20202020, 0x20206769), 20);
        due("feed", lock.feed(0x76653d38, 0x3b626c6f, 0x636b2061, 0x20312031, 0x3b202020), 40);
        due("bytes", lock.count(5), 40);
        due("read()", lock.read(), 0);
        due("ENOUGH", lock.count(10), 17);
        lay(lock, 0, 0, 0, 0);
        due("a word over two calls", lock.gives(0), 8);
        int[] fourth = {0xff202020, 0x20ff2020, 0x2020ff20, 0x202020ff};
        for (int i = 0; i < 20; i++) {
            int[] five = {0x20202020, 0x20202020, 0x20202020, 0x20202020, 0x20202020};
            five[i / 4] = fourth[i % 4];
            lock = new TypeLock();
            due("feed", lock.feed(five[0], five[1], five[2], five[3], five[4]), 20);
            due("read()", lock.read(), 1);
            due("place() of byte " + i, lock.place(), i);
        }
        for (int far : new int[] {MIN, MAX, 0, -1}) {
            due("feed(" + far + ")", new TypeLock().feed(far, far, far, far, far), 20);
        }
    }

    private static void feedFull() {
        edge("Promise 2", "NONE, and nothing comes, if it would have more than 2,000.");
        TypeLock lock = new TypeLock();
        for (int i = 1; i <= 100; i++) {
            due("feed", feed(lock, i == 1 ? "enough 9;           " : "                    "), 20 * i);
        }
        due("feed to 2,020", feed(lock, "enough 8;           "), -1);
        due("nothing came", lock.count(5), 2000);
        due("back(1)", lock.back(1), 1999);
        due("feed to 2,019", feed(lock, "enough 8;           "), -1);
        due("nothing came", lock.count(5), 1999);
        due("back(18)", lock.back(18), 1981);
        due("feed to 2,001", feed(lock, "enough 8;           "), -1);
        due("nothing came", lock.count(5), 1981);
        due("read() of what was there ahead", lock.read(), 0);
        due("ENOUGH", lock.count(10), 9);
        lock = new TypeLock();
        for (int i = 1; i <= 100; i++) {
            due("feed", feed(lock, "                    "), 20 * i);
        }
        due("back(20)", lock.back(20), 1980);
        due("feed to 2,000", feed(lock, "enough 8;           "), 2000);
        due("read()", lock.read(), 0);
        due("ENOUGH", lock.count(10), 8);
        due("feed behind read()", feed(lock, "                    "), 20);
    }

    private static void back() {
        edge("Promise 3", "The last n bytes of the tape go: how many it has.");
        TypeLock lock = new TypeLock();
        due("back(0) of none", lock.back(0), 0);
        feed(lock, "enough 123456;;;;;;;");
        due("back(0)", lock.back(0), 20);
        due("back(1)", lock.back(1), 19);
        due("back(10)", lock.back(10), 9);
        feed(lock, ";                   ");
        due("bytes", lock.count(5), 29);
        due("read() of 12;", lock.read(), 0);
        due("ENOUGH", lock.count(10), 12);
        feed(lock, "????????????????????");
        due("all", lock.back(20), 0);
        due("none is left", lock.count(5), 0);
        due("read() of none", lock.read(), 0);
    }

    private static void backRefused() {
        edge("Promise 3", "NONE, and nothing goes, if it has not so many, or n is below 0.");
        TypeLock lock = new TypeLock();
        due("back(1) of none", lock.back(1), -1);
        feed(lock, "enough 7;           ");
        for (int n : new int[] {21, 22, 2000, MAX, -1, -2, -20, MIN, MIN + 20}) {
            due("back(" + n + ")", lock.back(n), -1);
            due("nothing went", lock.count(5), 20);
        }
        due("read()", lock.read(), 0);
        due("ENOUGH", lock.count(10), 7);
        due("back(1) behind read()", lock.back(1), -1);
        for (int i = 1; i <= 100; i++) {
            feed(lock, "                    ");
        }
        due("back(2001)", lock.back(2001), -1);
        due("back(2000)", lock.back(2000), 0);
    }

    private static void read() {
        edge("Promise 4", "The tape, which is empty then, is read: 0, or the number of its FAULT.");
        String[] texts = {"enough 7;", "enough 7", "give=(((((((", "block a 1 1;block a 1 1;", "enough 0;"};
        int[] number = {0, 1, 2, 3, 5};
        TypeLock lock = new TypeLock();
        for (int i = 0; i < texts.length; i++) {
            due("read() of " + texts[i], Due.read(lock, texts[i]), number[i]);
            due("bytes", lock.count(5), 0);
            due("back(1)", lock.back(1), -1);
        }
        due("read() of no byte is no FAULT", lock.read(), 0);
        due("and a text", lock.count(10), 50);
    }

    private static void place() {
        edge("Promise 5", "The byte of the latest read()'s FAULT; NONE without.");
        TypeLock lock = new TypeLock();
        due("ahead of any read()", lock.place(), -1);
        due("read()", Due.read(lock, "?"), 1);
        due("byte 0", lock.place(), 0);
        due("it stays", lock.place(), 0);
        feed(lock, "enough 7;           ");
        due("it stays, what is fed", lock.place(), 0);
        due("read()", lock.read(), 0);
        due("NONE", lock.place(), -1);
        due("read()", Due.read(lock, "enough 101;"), 5);
        due("byte 7", lock.place(), 7);
        due("read()", Due.read(lock, " ".repeat(1994) + "enough"), 1);
        due("byte 2,000, its length", lock.place(), 2000);
        due("read() of no byte", lock.read(), 0);
        due("NONE", lock.place(), -1);
    }

    private static void kind() {
        edge("Promise 6", "what 0: 0 a BLOCK, 1 a PIECE, 2 of wood, 3 round, 1 wide (long), 2 high (broad), 3 how many there are"
                + " (a BLOCK: 1).");
        TypeLock lock = told("block a 60 1;piece b 1 60 0;piece wood c 2 3 99;piece round d 4 5 1;");
        int[][] want = {{0, 60, 1, 1}, {1, 1, 60, 0}, {2, 2, 3, 99}, {3, 4, 5, 1}};
        lay(lock, 0, 0, 0, 0, 2, 0, 10, 1);
        for (int kind = 0; kind < 4; kind++) {
            for (int what = 0; what < 4; what++) {
                due("kind(" + kind + ", " + what + ")", lock.kind(kind, what), want[kind][what]);
            }
        }
    }

    private static void kindOthers() {
        edge("Promise 6", "NONE for others.");
        TypeLock lock = told("block a 60 1;piece b 1 60 0;");
        for (int other : new int[] {-1, -2, 2, 3, 14, MIN, MAX}) {
            due("kind(" + other + ", 0)", lock.kind(other, 0), -1);
        }
        for (int what : new int[] {-1, 4, 5, MIN, MAX}) {
            due("kind(0, " + what + ")", lock.kind(0, what), -1);
        }
        due("kind(1, 3)", lock.kind(1, 3), 0);
        due("kind of no text", new TypeLock().kind(0, 0), -1);
    }
}
