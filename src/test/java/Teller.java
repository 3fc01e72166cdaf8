import java.util.ArrayList;
import java.util.List;

/** Makes texts by chance, both as what they tell and as they stand on a tape. */
final class Teller {
    private static final String[] VARS = {"x", "y", "wide", "high", "touch", "held", "push", "wood", "round"};
    private static final String[] SIDES = {"north", "east", "south", "west"};
    private static final String[] SIGNS = {"==", "!=", "<", "<="};

    private final Chance chance;
    private final StringBuilder text = new StringBuilder();
    private final Plain.Told told = new Plain.Told();

    Teller(Chance chance) {
        this.chance = chance;
    }

    String text() {
        return text.toString();
    }

    Plain.Told told() {
        return told;
    }

    /** Blanks go between words at least where they would grow together. */
    private void put(String token) {
        char last = text.length() == 0 ? ';' : text.charAt(text.length() - 1);
        char first = token.charAt(0);
        boolean grows = isLetter(last) && isLetter(first) || isDigit(last) && isDigit(first)
                || first == '=' && "=<!".indexOf(last) >= 0;
        for (int i = grows ? 0 : chance.oneIn(4) ? 0 : 1; i < 1; i++) {
            text.append(" \t\n\r".charAt(chance.oneIn(5) ? chance.below(4) : 0));
        }
        text.append(token);
    }

    private static boolean isLetter(char c) {
        return c >= 'a' && c <= 'z';
    }

    private static boolean isDigit(char c) {
        return c >= '0' && c <= '9';
    }

    private void put(int number) {
        String digits = Integer.toString(number);
        put(digits.length() < 4 && chance.oneIn(12) ? "0" + digits : digits);
    }

    /** A frame of at most so many points, KINDS of at most so many. */
    void tellAll(int mostFrame, int mostKind) {
        if (mostFrame < 60 || chance.oneIn(2)) {
            told.wide = chance.from(1, mostFrame);
            told.high = chance.from(1, mostFrame);
            put("frame");
            put(told.wide);
            put(told.high);
            put(";");
        }
        int kinds = chance.oneIn(6) ? chance.from(0, 14) : chance.from(2, 7);
        for (int i = 0; i < kinds; i++) {
            tellKind(i, mostKind);
        }
        for (int i = chance.below(7); i > 0; i--) {
            tellWedge();
        }
        if (chance.oneIn(2)) {
            int[] some = {1, 10, 25, 33, 34, 49, 50, 51, 66, 67, 75, 100};
            told.enough = chance.oneIn(3) ? chance.from(1, 100) : some[chance.below(some.length)];
            put("enough");
            put(told.enough);
            put(";");
        }
        if (!chance.oneIn(4)) {
            put("give");
            put("=");
            told.give = sum(0);
            put(";");
        }
        for (int i = chance.below(chance.oneIn(5) ? 7 : 3); i > 0; i--) {
            tellRule();
        }
    }

    private void tellKind(int i, int most) {
        int sort = chance.below(4);
        int[] kind = {sort, chance.from(1, most), chance.oneIn(4) ? 1 : chance.from(1, most), sort == 0 ? 1
                : chance.oneIn(4) ? chance.from(0, 99) : chance.from(0, 12)};
        put(sort == 0 ? "block" : "piece");
        if (sort > 1) {
            put(sort == 2 ? "wood" : "round");
        }
        put((char) ('a' + i) + "qz".substring(chance.below(3)));
        put(kind[1]);
        put(kind[2]);
        if (sort > 0) {
            put(kind[3]);
        }
        put(";");
        told.kinds.add(kind);
    }

    private void tellWedge() {
        int side = chance.below(4);
        int to = Math.min(60, (side % 2 == 0 ? told.wide : told.high) + chance.below(3));
        int from = chance.oneIn(2) ? 0 : chance.below(to);
        to = chance.oneIn(2) ? to : chance.from(from + 1, to);
        told.wedges.add(new int[] {side, from, to});
        put("wedge");
        put(SIDES[side]);
        put(from);
        put(to);
        put(";");
    }

    private void tellRule() {
        List<List<Plain.Lit>> any = new ArrayList<>();
        put("rule");
        put("if");
        for (int i = chance.below(3); i >= 0; i--) {
            List<Plain.Lit> all = new ArrayList<>();
            for (int j = chance.below(3); j >= 0; j--) {
                all.add(lit());
                if (j > 0) {
                    put("and");
                }
            }
            any.add(all);
            if (i > 0) {
                put("or");
            }
        }
        put(";");
        told.rules.add(any);
    }

    private Plain.Lit lit() {
        Plain.Lit lit = new Plain.Lit();
        for (lit.nots = chance.oneIn(3) ? chance.below(4) : 0; text.length() > 0;) {
            for (int i = 0; i < lit.nots; i++) {
                put("not");
            }
            break;
        }
        lit.left = sum(0);
        lit.sign = SIGNS[chance.below(4)];
        put(lit.sign);
        lit.right = sum(0);
        return lit;
    }

    private Plain.Sum sum(int open) {
        Plain.Sum sum = new Plain.Sum();
        for (int i = chance.oneIn(3) ? chance.below(4) : 0, j = 0; j <= i; j++) {
            char sign = chance.oneIn(2) ? '+' : '-';
            if (j > 0) {
                put(String.valueOf(sign));
            }
            sum.signs.add(sign);
            sum.parts.add(product(open));
        }
        return sum;
    }

    private Plain.Product product(int open) {
        Plain.Product product = new Plain.Product();
        for (int i = chance.oneIn(3) ? chance.below(4) : 0, j = 0; j <= i; j++) {
            char sign = chance.oneIn(2) ? '*' : '/';
            if (j > 0) {
                put(String.valueOf(sign));
            }
            product.signs.add(sign);
            product.units.add(unit(open));
        }
        return product;
    }

    private Plain.Unit unit(int open) {
        Plain.Unit unit = new Plain.Unit();
        if (open < 6 && chance.oneIn(open < 2 ? 7 : 4)) {
            put("(");
            unit.inner = sum(open + 1);
            put(")");
        } else if (chance.oneIn(2)) {
            unit.var = chance.below(9);
            put(VARS[unit.var]);
        } else {
            unit.value = chance.oneIn(6) ? chance.below(10000) : chance.below(12);
            put(unit.value);
        }
        return unit;
    }
}
