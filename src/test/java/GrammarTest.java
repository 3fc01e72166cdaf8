import java.util.ArrayList;
import java.util.HashSet;
import java.util.LinkedHashSet;
import java.util.List;
import java.util.Set;
import java.util.regex.Matcher;
import java.util.regex.Pattern;

/**
 * Random texts, most of them with FAULTS. What is due is found from the document's grammar as it stands there: a
 * TOKEN is at fault if the sets of all readings that are open (Earley's) are empty behind it.
 */
public final class GrammarTest {
    private static final String[] GRAMMAR = {
        "text", "", "text", "text TELL",
        "TELL", "frame INT INT ;", "TELL", "block NAME INT INT ;", "TELL", "piece SORT NAME INT INT INT ;",
        "SORT", "", "SORT", "wood", "SORT", "round", "TELL", "wedge SIDE INT INT ;",
        "SIDE", "north", "SIDE", "east", "SIDE", "south", "SIDE", "west",
        "TELL", "enough INT ;", "TELL", "give = E ;", "TELL", "rule if COND ;",
        "COND", "ALL", "COND", "COND or ALL", "ALL", "LIT", "ALL", "ALL and LIT",
        "LIT", "not LIT", "LIT", "E CMP E", "CMP", "==", "CMP", "!=", "CMP", "<", "CMP", "<=",
        "E", "PART", "E", "E + PART", "E", "E - PART", "PART", "UNIT", "PART", "PART * UNIT", "PART", "PART / UNIT",
        "UNIT", "INT", "UNIT", "VAR", "UNIT", "( E )",
        "VAR", "x", "VAR", "y", "VAR", "wide", "VAR", "high", "VAR", "touch", "VAR", "held", "VAR", "push",
        "VAR", "wood", "VAR", "round"};
    private static final Set<String> HEADS = new HashSet<>();
    private static final Set<String> WORDS = new HashSet<>();
    private static final List<String> POOL = new ArrayList<>();
    private static final Pattern TOKEN = Pattern.compile("[a-z]+|[0-9]+|==|!=|<=|[;=+\\-*/<()]");

    /** A rule of GRAMMAR with a dot in it, and the place where it began. */
    private record Item(int rule, int dot, int from) {
        String due() {
            String[] body = GRAMMAR[rule + 1].isEmpty() ? new String[0] : GRAMMAR[rule + 1].split(" ");
            return dot < body.length ? body[dot] : null;
        }
    }

    private record Token(String kind, String text, int place) {
    }

    private GrammarTest() {
    }

    public static void main(String[] args) {
        for (int i = 0; i < GRAMMAR.length; i += 2) {
            HEADS.add(GRAMMAR[i]);
        }
        for (String body : GRAMMAR) {
            for (String part : body.split(" ")) {
                if (part.matches("[a-z]+") && !part.equals("text")) {
                    WORDS.add(part);
                }
                if (!part.isEmpty() && !HEADS.contains(part) && !POOL.contains(part)) {
                    POOL.add(part);
                }
            }
        }
        POOL.remove("INT");
        POOL.remove("NAME");
        POOL.addAll(List.of("0", "1", "7", "60", "61", "100", "9999", "00060", "a", "b", "abcdefgh", "abcdefghi", "!", ";", ";",
                "A", "<", "(", ")", "and", "or", "not", "\u00ff", "\0", "#", ">", "frames", "w", "1x", "x1"));
        int texts = args.length > 1 ? Integer.parseInt(args[1]) : 4000;
        int[] seen = new int[6];
        for (int seed = 1; seed <= texts && Due.wrongSoFar() < 10; seed++) {
            String text = text(new Chance(seed));
            if (text.length() <= 2000) {
                int[] due = fault(text);
                seen[due[0]]++;
                Due.dueFault(text, due[0], due[1]);
            }
        }
        for (int fault : new int[] {0, 1, 2, 3, 5}) {
            Due.due("enough texts with fault " + fault, seen[fault] >= texts / 100, true);
        }
        Due.end("GrammarTest");
    }

    private static String text(Chance chance) {
        List<String> tokens = new ArrayList<>();
        int tellers = chance.oneIn(4) ? chance.from(2, 4) : 1;
        boolean renamed = chance.oneIn(4);
        for (int i = 0; i < tellers; i++) {
            Teller teller = new Teller(chance);
            teller.tellAll(60, 60);
            for (Token token : tokens(teller.text())) {
                boolean isName = token.kind.equals("NAME");
                String end = "pno".substring(0, i);
                tokens.add(!isName ? token.text : renamed ? "" + (char) ('a' + chance.below(26)) : token.text + end);
            }
        }
        for (int i = tokens.size() - 2; chance.oneIn(12) && i >= 0; i--) {
            // An ( more around each UNIT that is an INT behind an operator.
            if ("+-*/".contains(tokens.get(i)) && tokens.get(i + 1).matches("[0-9]+")) {
                int deep = chance.below(8);
                for (int j = 0; j < deep; j++) {
                    tokens.add(i + 1, "(");
                    tokens.add(i + 3 + j, ")");
                }
            }
        }
        int changes = chance.oneIn(2) ? 0 : chance.from(1, 2);
        for (int i = 0; i < changes && !tokens.isEmpty(); i++) {
            change(chance, tokens);
        }
        return join(chance, tokens);
    }

    private static void change(Chance chance, List<String> tokens) {
        int at = chance.below(tokens.size());
        switch (chance.below(8)) {
            case 0:
                tokens.remove(at);
                break;
            case 1:
                tokens.add(at, POOL.get(chance.below(POOL.size())));
                break;
            case 2:
                tokens.set(at, POOL.get(chance.below(POOL.size())));
                break;
            case 3:
                tokens.add(at, tokens.get(chance.below(tokens.size())));
                break;
            case 4:
            case 5:
            case 6:
                while (at < tokens.size() && !tokens.get(at).matches("[0-9]+")) {
                    at++;
                }
                if (at < tokens.size()) {
                    tokens.set(at, new String[] {"0", "61", "60", "100", "101"}[chance.below(5)]);
                }
                break;
            default:
                tokens.subList(at, tokens.size()).clear();
                break;
        }
    }

    private static String join(Chance chance, List<String> tokens) {
        StringBuilder text = new StringBuilder();
        boolean isDense = chance.oneIn(2);
        boolean isCareless = chance.oneIn(9);
        String last = ";";
        for (String token : tokens) {
            boolean mayGrow = (last.substring(last.length() - 1) + token.charAt(0)).matches("[a-z][a-z]|[0-9][0-9]|[=<!]=");
            boolean isBare = isCareless ? chance.oneIn(30) : isDense && !mayGrow;
            text.append(isBare ? "" : " \n\t\r  ".substring(chance.below(6)).substring(0, 1)).append(token);
            last = token;
        }
        return text.append(chance.oneIn(2) ? "" : " ").toString();
    }

    /** The TOKENS; one that is none has no kind, and ends them. */
    private static List<Token> tokens(String text) {
        List<Token> tokens = new ArrayList<>();
        Matcher matcher = TOKEN.matcher(text);
        int at = 0;
        while (at < text.length()) {
            if (" \t\n\r".indexOf(text.charAt(at)) >= 0) {
                at++;
                continue;
            }
            if (!matcher.find(at) || matcher.start() != at) {
                tokens.add(new Token("", "", at));
                return tokens;
            }
            String word = matcher.group();
            boolean isName = word.matches("[a-z]+");
            boolean isInt = word.matches("[0-9]+");
            if (isName && word.length() > 8 || isInt && word.length() > 4) {
                tokens.add(new Token("", "", at));
                return tokens;
            }
            tokens.add(new Token(isInt ? "INT" : isName && !WORDS.contains(word) ? "NAME" : word, word, at));
            at = matcher.end();
        }
        return tokens;
    }

    /** {number, place}. */
    private static int[] fault(String text) {
        List<Token> tokens = tokens(text);
        List<Set<Item>> sets = new ArrayList<>();
        sets.add(begin());
        close(sets);
        int kinds = 0;
        int wedges = 0;
        int rules = 0;
        int open = 0;
        for (int i = 0; i < tokens.size(); i++) {
            Token token = tokens.get(i);
            Set<Item> next = new LinkedHashSet<>();
            for (Item item : sets.get(i)) {
                if (token.kind.equals(item.due())) {
                    next.add(new Item(item.rule, item.dot + 1, item.from));
                }
            }
            if (next.isEmpty()) {
                return new int[] {1, token.place};
            }
            boolean begins = i == 0 || tokens.get(i - 1).kind.equals(";");
            kinds += begins && (token.kind.equals("block") || token.kind.equals("piece")) ? 1 : 0;
            wedges += begins && token.kind.equals("wedge") ? 1 : 0;
            rules += begins && token.kind.equals("rule") ? 1 : 0;
            open += token.kind.equals("(") ? 1 : token.kind.equals(")") ? -1 : 0;
            if (i == 400 || kinds > 14 || wedges > 6 || rules > 6 || open > 6) {
                return new int[] {2, token.place};
            }
            sets.add(next);
            close(sets);
        }
        boolean isWhole = false;
        for (Item item : sets.get(tokens.size())) {
            isWhole |= item.from == 0 && item.due() == null && GRAMMAR[item.rule].equals("text");
        }
        return isWhole ? late(tokens) : new int[] {1, text.length()};
    }

    private static Set<Item> begin() {
        Set<Item> first = new LinkedHashSet<>();
        for (int rule = 0; rule < GRAMMAR.length; rule += 2) {
            if (GRAMMAR[rule].equals("text")) {
                first.add(new Item(rule, 0, 0));
            }
        }
        return first;
    }

    /** Adds to the last set all that begins or ends there. */
    private static void close(List<Set<Item>> sets) {
        int here = sets.size() - 1;
        Set<Item> set = sets.get(here);
        int size = -1;
        while (size != set.size()) {
            size = set.size();
            for (Item item : new ArrayList<>(set)) {
                String due = item.due();
                for (int rule = 0; due != null && HEADS.contains(due) && rule < GRAMMAR.length; rule += 2) {
                    if (GRAMMAR[rule].equals(due)) {
                        set.add(new Item(rule, 0, here));
                    }
                }
                if (due == null) {
                    for (Item waiting : new ArrayList<>(sets.get(item.from))) {
                        if (GRAMMAR[item.rule].equals(waiting.due())) {
                            set.add(new Item(waiting.rule, waiting.dot + 1, waiting.from));
                        }
                    }
                }
            }
        }
    }

    private static int[] late(List<Token> tokens) {
        Set<String> names = new HashSet<>();
        int begin = 0;
        int ints = 0;
        int last = 0;
        for (int i = 0; i < tokens.size(); i++) {
            Token token = tokens.get(i);
            String tell = tokens.get(begin).kind;
            if (token.kind.equals(";")) {
                begin = i + 1;
                ints = 0;
            } else if (token.kind.equals("NAME") && !names.add(token.text)) {
                return new int[] {3, token.place};
            } else if (token.kind.equals("INT")) {
                int value = Integer.parseInt(token.text);
                ints++;
                boolean isSize = tell.equals("frame") || tell.equals("block") || tell.equals("piece") && ints < 3;
                if (isSize && (value < 1 || value > 60) || tell.equals("piece") && ints == 3 && value > 99
                        || tell.equals("wedge") && ints == 2 && (value > 60 || value <= last)
                        || tell.equals("enough") && (value < 1 || value > 100)) {
                    return new int[] {5, token.place};
                }
                last = value;
            }
        }
        return new int[] {0, -1};
    }
}
