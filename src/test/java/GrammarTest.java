import java.io.IOException;
import java.nio.file.Files;
import java.nio.file.Path;
import java.util.ArrayDeque;
import java.util.ArrayList;
import java.util.Arrays;
import java.util.HashMap;
import java.util.HashSet;
import java.util.List;
import java.util.Map;
import java.util.Set;
import java.util.regex.Matcher;
import java.util.regex.Pattern;

/**
 * FAULT 1 by the grammar as it stands in the document: all ways to go on are kept side by side, token by token, and the
 * first token that none of them takes is the one that can't stand there.
 */
public final class GrammarTest extends CourtCheck {
    private static final int TEXTS = 4000;
    private static final String DOCUMENT = "../shared/DOC.md";
    private static final Pattern RULES = Pattern.compile("A (TEXT: \\{.*\\. LINE: .*?\\.) Words.*\\s(E: A .*?; )N of E .*?(NAME: .*?)\\. A =",
        Pattern.DOTALL);
    private static final Pattern SIGN = Pattern.compile("'.'|\\S+");
    private static final List<String> STRAY = List.of("or", "and", "not", "<", "<=", "=", "<>", ">=", ">", "+", "-", "*", "/",
        "(", ")", ";", "1", "gap", "a", "b", "in", "person", "above", "level", "part", "season", "rise", "abcdefg", "!", "A");

    private static final Map<String, Node> rules = new HashMap<>();
    private static final Set<String> language = new HashSet<>();
    private static long seed = 11L;

    private enum Kind { SIGN, ROW, CHOICE, MANY, MAYBE }

    private record Node(Kind kind, String sign, List<Node> parts) {
    }

    /** What must come yet: the first of it, and what comes behind; null: nothing. */
    private record Rest(Node first, Rest behind) {
    }

    private static int pick(int bound) {
        seed = seed * 6364136223846793005L + 1442695040888963407L;
        return (int) ((seed >>> 33) % bound);
    }

    // ---- the grammar of the document ----

    private static void readRules() throws IOException {
        Matcher found = RULES.matcher(Files.readString(Path.of(DOCUMENT)));
        yes("the document has a grammar", found.find());
        for (String rule : (found.group(1) + " " + found.group(2).replace(";", ".")).split("(?<=[A-Z')}\\]])\\.\\s*")) {
            String[] halves = rule.split(": ", 2);
            List<String> signs = new ArrayList<>();
            Matcher sign = SIGN.matcher(halves[1]);
            while (sign.find()) {
                signs.add(sign.group());
            }
            rules.put(halves[0], choice(signs, new int[1]));
        }
        List<Node> names = new ArrayList<>();
        for (String name : found.group(3).substring("NAME: ".length()).split(" ")) {
            names.add(sign(name));
        }
        rules.put("NAME", new Node(Kind.CHOICE, "", names));
    }

    private static Node sign(String sign) {
        if (sign.matches("[a-z]+")) {
            language.add(sign);
        }
        return new Node(Kind.SIGN, sign.startsWith("'") ? sign.substring(1, 2) : sign, List.of());
    }

    private static Node choice(List<String> signs, int[] at) {
        List<Node> ways = new ArrayList<>();
        ways.add(row(signs, at));
        while (at[0] < signs.size() && signs.get(at[0]).equals("|")) {
            at[0]++;
            ways.add(row(signs, at));
        }
        return new Node(Kind.CHOICE, "", ways);
    }

    private static Node row(List<String> signs, int[] at) {
        List<Node> parts = new ArrayList<>();
        while (at[0] < signs.size() && !"|)]}".contains(signs.get(at[0]))) {
            String sign = signs.get(at[0]++);
            if ("([{".contains(sign)) {
                Node inner = choice(signs, at);
                at[0]++;
                Kind kind = sign.equals("(") ? Kind.ROW : sign.equals("[") ? Kind.MAYBE : Kind.MANY;
                parts.add(new Node(kind, "", List.of(inner)));
            } else {
                parts.add(sign(sign));
            }
        }
        return new Node(Kind.ROW, "", parts);
    }

    // ---- all ways to go on ----

    /** Each of them as what must come yet, with a sign that no rule tells in front. */
    private static Set<Rest> opened(Set<Rest> all) {
        Set<Rest> open = new HashSet<>();
        Set<Rest> met = new HashSet<>();
        ArrayDeque<Rest> waiting = new ArrayDeque<>(all);
        while (!waiting.isEmpty()) {
            Rest rest = waiting.pop();
            if (!met.add(rest)) {
                continue;
            }
            if (rest.first == null || rest.first.kind == Kind.SIGN && !rules.containsKey(rest.first.sign)) {
                open.add(rest);
            } else {
                waiting.addAll(expanded(rest.first, rest.behind));
            }
        }
        return open;
    }

    private static List<Rest> expanded(Node node, Rest behind) {
        List<Rest> ways = new ArrayList<>();
        switch (node.kind) {
            case SIGN -> ways.add(new Rest(rules.get(node.sign), behind));
            case CHOICE -> node.parts.forEach(part -> ways.add(new Rest(part, behind)));
            case ROW -> {
                Rest rest = behind;
                for (int i = node.parts.size() - 1; i >= 0; i--) {
                    rest = new Rest(node.parts.get(i), rest);
                }
                ways.add(rest);
            }
            case MAYBE, MANY -> {
                ways.add(behind);
                ways.add(new Rest(node.parts.get(0), node.kind == Kind.MANY ? new Rest(node, behind) : behind));
            }
        }
        return ways;
    }

    private static boolean takes(Node due, String token) {
        if (due == null) {
            return false;
        }
        boolean name = token.matches("[a-z]{1,6}") && !language.contains(token);
        return due.sign.equals("W") ? name : due.sign.equals("N") ? token.matches("[0-9]+") : due.sign.equals(token);
    }

    /** The first token that can't stand; their number, if more must come; -1: the TEXT is sound. */
    private static int firstStrange(List<String> tokens) {
        Rest end = new Rest(null, null);
        Set<Rest> all = opened(Set.of(new Rest(rules.get("TEXT"), end)));
        for (int i = 0; i < tokens.size(); i++) {
            Set<Rest> next = new HashSet<>();
            for (Rest rest : all) {
                if (takes(rest.first, tokens.get(i))) {
                    next.add(rest.behind);
                }
            }
            if (next.isEmpty()) {
                return i;
            }
            all = opened(next);
        }
        return all.contains(end) ? -1 : tokens.size();
    }

    // ---- made-up TEXTS ----

    private static void addFormula(List<String> tokens, int depth) {
        int way = depth <= 0 ? 0 : pick(10);
        if (way < 4) {
            tokens.add(List.of("1", "2", "9999", "gap", "hearer", "time").get(pick(6)));
        } else if (way == 4) {
            tokens.add("(");
            addFormula(tokens, depth - 1);
            tokens.add(")");
        } else if (way == 5) {
            tokens.add("not");
            addFormula(tokens, depth - 1);
        } else {
            addFormula(tokens, depth - 1);
            tokens.add(STRAY.get(pick(13)).replace("not", "="));
            addFormula(tokens, depth - 1);
        }
    }

    private static List<String> madeUp() {
        String[] facts = {"", "above a b ;", "above a b in 2 ;", "level a b ;"};
        String start = "person a 1 ; person b 2 ; " + facts[pick(4)] + " part p";
        List<String> tokens = new ArrayList<>(Arrays.asList(start.replaceAll(" +", " ").split(" ")));
        addFormula(tokens, 3);
        tokens.add(";");
        if (pick(3) == 0) {
            tokens.add("rise");
            addFormula(tokens, 2);
            tokens.add(";");
        }
        if (pick(4) == 0) {
            tokens.addAll(List.of("season", "3", ";"));
        }
        for (int strays = pick(3); strays > 0; strays--) {
            int spot = pick(tokens.size());
            switch (pick(3)) {
                case 0 -> tokens.add(spot, STRAY.get(pick(STRAY.size())));
                case 1 -> tokens.set(spot, STRAY.get(pick(STRAY.size())));
                default -> tokens.remove(spot);
            }
        }
        return pick(6) == 0 ? tokens.subList(0, pick(tokens.size() + 1)) : tokens;
    }

    /** Two tokens that would be another one without a blank. */
    private static boolean wouldJoin(String left, String right) {
        return (left + right.charAt(0)).matches("[a-z]+|[0-9]+|<=|<>|>=");
    }

    /** Whether the TEXT is sound. */
    private static boolean compare(List<String> tokens) {
        StringBuilder text = new StringBuilder();
        int[] places = new int[tokens.size() + 1];
        for (int i = 0; i < tokens.size(); i++) {
            boolean apart = i > 0 && wouldJoin(tokens.get(i - 1), tokens.get(i));
            text.append(apart ? " " : List.of("", "", " ", "\n", " \n").get(pick(5)));
            places[i] = text.length();
            text.append(tokens.get(i));
        }
        text.append(List.of("", " ", "\n").get(pick(3)));
        places[tokens.size()] = text.length();
        int strange = firstStrange(tokens);
        CourtTongue x = new CourtTongue();
        read(x, text.toString());
        if (x.fault(0) > 1) {
            yes("no FAULT 1 stands ahead in " + text, strange < 0 || places[strange] >= x.fault(1));
            return false;
        }
        due("the FAULT of " + text, x.fault(0), strange < 0 ? 0 : 1);
        due("its place in " + text, x.fault(1), strange < 0 ? -1 : places[strange]);
        return strange < 0;
    }

    public static void main(String[] args) throws IOException {
        test = "grammar";
        readRules();
        due("rules: TEXT, LINE, E, A, B, C, S, T, P, NAME", rules.size(), 10);
        due("words of the language", language.size(), 18);
        int sound = 0;
        for (int i = 0; i < TEXTS; i++) {
            sound += compare(madeUp()) ? 1 : 0;
        }
        yes("many are sound: " + sound, sound > TEXTS / 5 && sound < TEXTS / 2);
        finish(GrammarTest.class);
    }
}
