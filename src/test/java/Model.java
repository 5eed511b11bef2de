import java.util.ArrayList;
import java.util.Arrays;
import java.util.List;
import java.util.TreeMap;
import java.util.TreeSet;
import java.util.regex.Matcher;
import java.util.regex.Pattern;

/**
 * A second program for the same document, written with all of Java and another way of going about
 * it (recursive descent, trees, texts), so that the two are unlikely to be wrong alike.
 */
final class Model {
    static final int BAD = -1, NO = -2, FULL = -3;
    static final List<String> KINDS = List.of("word", "text", "long", "date", "bool", "object", "nested", "alias");
    static final List<String> OPTIONS = List.of("stored", "closed", "norms", "null", "copy", "by", "of");
    static final List<String> LEAVES = KINDS.subList(0, 5);
    static final List<String> HOLDERS = KINDS.subList(5, 7);

    String tape = "";
    String out = "";
    int place = NO;
    final List<Text> versions = new ArrayList<>();

    static final class Fault extends Exception {
        private static final long serialVersionUID = 1;
        final int number;
        final int at;

        Fault(int number, int at) {
            this.number = number;
            this.at = at;
        }
    }

    record Token(String text, int at) {
        boolean isName() {
            return !text.isEmpty() && Character.isLowerCase(text.charAt(0));
        }

        boolean isNumber() {
            return !text.isEmpty() && Character.isDigit(text.charAt(0));
        }
    }

    record Told(String word, String value, int at, int valueAt) {
    }

    static final class Node {
        Node holder;
        String name;
        int at;
        String kind;
        int braceAt = -1;
        final List<Told> told = new ArrayList<>();
        final List<Node> within = new ArrayList<>();

        String path() {
            return holder == null ? name : holder.path() + "." + name;
        }

        Told first(String word) {
            return told.stream().filter(t -> t.word.equals(word)).findFirst().orElse(null);
        }

        String value(String word) {
            Told t = first(word);
            return t == null ? null : t.value;
        }

        boolean isLeaf() {
            return LEAVES.contains(kind);
        }
    }

    record RuleText(String pattern, String kind) {
        boolean fits(String name, int met) {
            boolean kindFits = switch (kind) {
                case "word" -> met != 3;
                case "text" -> met == 0;
                case "long", "date" -> met == 1;
                case "bool" -> met == 2;
                case "object", "nested" -> met == 3;
                default -> false;
            };
            return kindFits && name.matches(pattern.replace("*", ".*"));
        }
    }

    static final class Text {
        final List<Node> top = new ArrayList<>();
        final List<RuleText> rules = new ArrayList<>();
        final List<int[]> limits = new ArrayList<>();

        int limit() {
            return limits.isEmpty() ? 40 : limits.get(0)[0];
        }

        List<Node> all() {
            List<Node> all = new ArrayList<>();
            gather(top, all);
            return all;
        }

        private static void gather(List<Node> from, List<Node> into) {
            for (Node node : from) {
                into.add(node);
                gather(node.within, into);
            }
        }

        Node at(String path) {
            return all().stream().filter(n -> n.path().equals(path)).findFirst().orElse(null);
        }

        String print() {
            StringBuilder text = new StringBuilder(print(top));
            rules.forEach(r -> text.append("rule ").append(r.pattern).append(':').append(r.kind).append(';'));
            return limit() == 40 ? text.toString() : text + "limit " + limit() + ";";
        }

        private static String print(List<Node> nodes) {
            StringBuilder text = new StringBuilder();
            for (Node node : nodes) {
                List<String> options = new ArrayList<>();
                for (String word : OPTIONS) {
                    Told t = node.first(word);
                    if (t != null) {
                        options.add(t.value == null ? word
                            : word + "=" + (word.equals("null") ? "" + Integer.parseInt(t.value) : t.value));
                    }
                }
                text.append(node.name).append(':').append(node.kind);
                text.append(options.isEmpty() ? "" : "(" + String.join(",", options) + ")");
                text.append(node.within.isEmpty() ? "" : "{" + print(node.within) + "}").append(';');
            }
            return text.toString();
        }
    }

    static List<Token> tokens(String text) throws Fault {
        Matcher m = Pattern.compile("[a-z][a-z0-9_]*|[0-9]+|[{}():;,=*.]").matcher(text);
        List<Token> tokens = new ArrayList<>();
        int at = 0;
        while (at < text.length()) {
            if (text.charAt(at) == ' ' || text.charAt(at) == '\n') {
                at++;
                continue;
            }
            m.region(at, text.length());
            if (!m.lookingAt()) {
                throw new Fault(1, at);
            }
            Token token = new Token(m.group(), at);
            if (token.isName() && token.text.length() > 12 || token.isNumber() && token.text.length() > 6) {
                throw new Fault(1, at);
            }
            tokens.add(token);
            at = m.end();
        }
        return tokens;
    }

    /** Recursive descent along the grammar. */
    static final class Parser {
        final List<Token> tokens;
        final Text text = new Text();
        final int length;
        int next = 0;
        int count = 0;

        Parser(String source) throws Fault {
            tokens = tokens(source);
            length = source.length();
        }

        Token peek() {
            return next < tokens.size() ? tokens.get(next) : new Token("", length);
        }

        Token need(boolean may) throws Fault {
            if (!may) {
                throw new Fault(2, peek().at);
            }
            return tokens.get(next++);
        }

        Token need(String mark) throws Fault {
            return need(peek().text.equals(mark));
        }

        boolean next(String mark) {
            boolean is = peek().text.equals(mark);
            next += is ? 1 : 0;
            return is;
        }

        Text text() throws Fault {
            while (next < tokens.size()) {
                if (peek().text.equals("rule")) {
                    rule();
                } else if (peek().text.equals("limit")) {
                    int at = need("limit").at;
                    Token number = need(peek().isNumber());
                    text.limits.add(new int[] {Integer.parseInt(number.text), number.at, at});
                    need(";");
                } else {
                    field(null, 0);
                }
            }
            return text;
        }

        void rule() throws Fault {
            if (text.rules.size() == 8) {
                throw new Fault(3, peek().at);
            }
            need("rule");
            StringBuilder pattern = new StringBuilder();
            if (peek().isName()) {
                pattern.append(need(true).text);
                if (next("*")) {
                    pattern.append('*').append(peek().isName() ? need(true).text : "");
                }
            } else {
                need("*");
                pattern.append('*').append(peek().isName() ? need(true).text : "");
            }
            need(":");
            text.rules.add(new RuleText(pattern.toString(), need(KINDS.contains(peek().text)).text));
            need(";");
        }

        void field(Node holder, int depth) throws Fault {
            Token name = need(peek().isName() && !peek().text.equals("rule") && !peek().text.equals("limit"));
            if (++count > 40) {
                throw new Fault(3, name.at);
            }
            Node node = new Node();
            node.holder = holder;
            node.name = name.text;
            node.at = name.at;
            (holder == null ? text.top : holder.within).add(node);
            need(":");
            node.kind = need(KINDS.contains(peek().text)).text;
            if (next("(")) {
                do {
                    option(node);
                } while (next(","));
                need(")");
            }
            if (peek().text.equals("{")) {
                if (depth == 4) {
                    throw new Fault(3, peek().at);
                }
                node.braceAt = need("{").at;
                while (!next("}")) {
                    field(node, depth + 1);
                }
            }
            need(";");
        }

        void option(Node node) throws Fault {
            Token word = need(OPTIONS.contains(peek().text));
            if (List.of("stored", "closed", "norms").contains(word.text)) {
                node.told.add(new Told(word.text, null, word.at, -1));
                return;
            }
            need("=");
            Token first = need(word.text.equals("null") ? peek().isNumber() : peek().isName());
            String value = first.text;
            if (word.text.equals("copy") || word.text.equals("of")) {
                value = pathFrom(first);
            }
            node.told.add(new Told(word.text, value, word.at, first.at));
        }

        String pathFrom(Token first) throws Fault {
            StringBuilder path = new StringBuilder(first.text);
            while (next(".")) {
                path.append('.').append(need(peek().isName()).text);
            }
            return path.toString();
        }
    }

    /** Throws the least of all that is wrong, by place and then by number. */
    static void check(Text text) throws Fault {
        TreeSet<Integer> faults = new TreeSet<>();
        List<Node> all = text.all();
        for (Node node : all) {
            List<Node> beside = node.holder == null ? text.top : node.holder.within;
            if (beside.subList(0, beside.indexOf(node)).stream().anyMatch(n -> n.name.equals(node.name))) {
                faults.add(node.at * 100 + 4);
            }
            if (node.braceAt >= 0 && !HOLDERS.contains(node.kind)) {
                faults.add(node.braceAt * 100 + 6);
            }
            if (node.kind.equals("alias") && node.first("of") == null) {
                faults.add(node.at * 100 + 7);
            }
            for (Told told : node.told) {
                checkOption(text, node, told, faults);
            }
            Told copy = node.first("copy");
            if (copy != null && comesBack(text, node)) {
                faults.add(copy.at * 100 + 9);
            }
        }
        for (int i = 0; i < text.limits.size(); i++) {
            int[] limit = text.limits.get(i);
            if (i > 0) {
                faults.add(limit[2] * 100 + 10);
            }
            if (limit[0] > 40 || limit[0] < all.size()) {
                faults.add(limit[1] * 100 + 10);
            }
        }
        if (!faults.isEmpty()) {
            throw new Fault(faults.first() % 100, faults.first() / 100);
        }
    }

    private static void checkOption(Text text, Node node, Told told, TreeSet<Integer> faults) {
        List<String> may = switch (told.word) {
            case "stored", "closed", "copy" -> LEAVES;
            case "norms", "by" -> List.of("text");
            case "null" -> List.of("long", "date", "bool");
            default -> List.of("alias");
        };
        if (node.first(told.word) != told || !may.contains(node.kind)) {
            faults.add(told.at * 100 + 5);
        }
        if (told.word.equals("null") && node.kind.equals("bool") && Integer.parseInt(told.value) > 1) {
            faults.add(told.valueAt * 100 + 5);
        }
        if (told.word.equals("copy") || told.word.equals("of")) {
            Node meant = text.at(told.value);
            List<String> such = told.word.equals("copy") ? List.of("word", "text") : LEAVES;
            if (meant == null || !such.contains(meant.kind)) {
                faults.add(told.valueAt * 100 + 8);
            }
        }
    }

    private static boolean comesBack(Text text, Node node) {
        List<Node> seen = new ArrayList<>();
        Node at = node;
        while (at != null && !seen.contains(at)) {
            seen.add(at);
            String to = at.value("copy");
            at = to == null ? null : text.at(to);
        }
        return at == node;
    }

    static Text parse(String source) throws Fault {
        Text text = new Parser(source).text();
        check(text);
        return text;
    }

    /** The tape's path, or null. */
    private String takePath() {
        String source = tape;
        tape = "";
        try {
            Parser parser = new Parser(source);
            String path = parser.pathFrom(parser.need(parser.peek().isName()));
            return parser.next == parser.tokens.size() ? path : null;
        } catch (Fault fault) {
            return null;
        }
    }

    private boolean is(int version) {
        return version >= 0 && version < versions.size();
    }

    private Node node(int version, int field) {
        if (!is(version) || field < 0 || field >= versions.get(version).all().size()) {
            return null;
        }
        return versions.get(version).all().get(field);
    }

    int feed(int n, long bytes) {
        if (n < 1 || n > 8) {
            return BAD;
        }
        if (tape.length() + n > 2000) {
            return FULL;
        }
        for (int i = 0; i < n; i++) {
            tape += (char) (bytes >> 8 * i & 255);
        }
        return tape.length();
    }

    int read() {
        String source = tape;
        tape = "";
        place = NO;
        if (versions.size() == 8) {
            return FULL;
        }
        try {
            versions.add(parse(source));
            return versions.size() - 1;
        } catch (Fault fault) {
            place = fault.at;
            return -10 - fault.number;
        }
    }

    int grow(int version, int met) {
        String path = takePath();
        if (!is(version) || met < 0 || met > 3) {
            return BAD;
        }
        Text old = versions.get(version);
        if (path == null) {
            return NO;
        }
        if (old.at(path) != null) {
            return version;
        }
        int point = path.lastIndexOf('.');
        String name = path.substring(point + 1);
        Node oldHolder = point < 0 ? null : old.at(path.substring(0, point));
        boolean held = point < 0 || oldHolder != null && HOLDERS.contains(oldHolder.kind);
        RuleText rule = old.rules.stream().filter(r -> r.fits(name, met)).findFirst().orElse(null);
        if (!held || rule == null || name.equals("rule") || name.equals("limit")
            || path.split("\\.").length > 5 || old.all().size() + 1 > old.limit()) {
            return NO;
        }
        if (versions.size() == 8) {
            return FULL;
        }
        Text grown;
        try {
            grown = parse(old.print());
        } catch (Fault fault) {
            throw new IllegalStateException(old.print());
        }
        Node node = new Node();
        node.name = name;
        node.kind = rule.kind;
        node.holder = point < 0 ? null : grown.at(path.substring(0, point));
        (point < 0 ? grown.top : node.holder.within).add(node);
        versions.add(grown);
        return versions.size() - 1;
    }

    int drop() {
        if (versions.isEmpty()) {
            return NO;
        }
        versions.remove(versions.size() - 1);
        return versions.size();
    }

    int find(int version) {
        String path = takePath();
        if (!is(version)) {
            return BAD;
        }
        Node node = path == null ? null : versions.get(version).at(path);
        return node == null ? NO : versions.get(version).all().indexOf(node);
    }

    int field(int version, int field, int what) {
        Node node = node(version, field);
        if (node == null || what < 0 || what > 9) {
            return BAD;
        }
        Text text = versions.get(version);
        List<Node> all = text.all();
        switch (what) {
            case 0:
                return KINDS.indexOf(node.kind);
            case 1:
                return OPTIONS.stream().mapToInt(o -> node.first(o) == null ? 0 : 1 << OPTIONS.indexOf(o)).sum();
            case 2:
                return node.first("null") == null ? NO : Integer.parseInt(node.value("null"));
            case 3:
                return node.first("copy") == null ? NO : all.indexOf(text.at(node.value("copy")));
            case 4:
                return node.first("of") == null ? NO : all.indexOf(text.at(node.value("of")));
            case 5:
                return node.holder == null ? NO : all.indexOf(node.holder);
            case 6:
                return node.within.size();
            case 7:
                return node.path().length();
            case 8:
                return node.first("by") == null ? 0 : node.value("by").length();
            default:
                return reached(text, node);
        }
    }

    private static int reached(Text text, Node node) {
        if (!node.isLeaf()) {
            return 0;
        }
        return node.first("copy") == null ? 1 : 1 + reached(text, text.at(node.value("copy")));
    }

    int letter(int version, int field, int i) {
        Node node = node(version, field);
        return node == null || i < 0 || i >= node.path().length() ? BAD : node.path().charAt(i);
    }

    int leaf(int version, int field) {
        Node node = node(version, field);
        if (node == null) {
            return BAD;
        }
        if (HOLDERS.contains(node.kind)) {
            return NO;
        }
        return node.isLeaf() ? field : field(version, field, 4);
    }

    int rule(int version, int met) {
        String name = takePath();
        if (!is(version) || met < 0 || met > 3) {
            return BAD;
        }
        List<RuleText> rules = versions.get(version).rules;
        for (int i = 0; name != null && !name.contains(".") && i < rules.size(); i++) {
            if (rules.get(i).fits(name, met)) {
                return i;
            }
        }
        return NO;
    }

    int print(int version) {
        if (!is(version)) {
            return BAD;
        }
        String text = versions.get(version).print();
        if (text.length() > 4000) {
            return FULL;
        }
        out = text;
        return out.length();
    }

    int out(int i) {
        return i < 0 || i >= out.length() ? BAD : out.charAt(i);
    }

    int take() {
        if (out.length() > 2000) {
            return FULL;
        }
        tape = out;
        return tape.length();
    }

    /** By path: code, field of a, field of b. */
    private List<int[]> rows(int a, int b) {
        TreeMap<String, int[]> rows = new TreeMap<>();
        Text old = versions.get(a);
        Text now = versions.get(b);
        TreeSet<String> paths = new TreeSet<>();
        old.all().forEach(n -> paths.add(n.path()));
        now.all().forEach(n -> paths.add(n.path()));
        for (String path : paths) {
            Node from = old.at(path);
            Node to = now.at(path);
            int code = from == null ? 1 : to == null ? 2 : code(from, to);
            if (code != 0) {
                rows.put(path, new int[] {code, from == null ? NO : old.all().indexOf(from),
                    to == null ? NO : now.all().indexOf(to)});
            }
        }
        return new ArrayList<>(rows.values());
    }

    private static int code(Node from, Node to) {
        if (!from.kind.equals(to.kind) || differ(from, to, "closed", "norms", "by")) {
            return 4;
        }
        return differ(from, to, "stored", "null", "copy", "of") ? 3 : 0;
    }

    private static boolean differ(Node from, Node to, String... words) {
        return Arrays.stream(words).anyMatch(w -> !shown(from, w).equals(shown(to, w)));
    }

    private static String shown(Node node, String word) {
        Told told = node.first(word);
        if (told == null) {
            return "none";
        }
        return "=" + (word.equals("null") ? Integer.parseInt(told.value) : told.value);
    }

    int differences(int a, int b) {
        return is(a) && is(b) ? rows(a, b).size() : BAD;
    }

    int difference(int a, int b, int i, int what) {
        if (!is(a) || !is(b) || what < 0 || what > 2 || i < 0 || i >= rows(a, b).size()) {
            return BAD;
        }
        return rows(a, b).get(i)[what];
    }

    int told(int version, int what) {
        if (what >= 0 && what < 3) {
            return what == 0 ? versions.size() : what == 1 ? tape.length() : out.length();
        }
        if (!is(version) || what < 0 || what > 6) {
            return BAD;
        }
        Text text = versions.get(version);
        return switch (what) {
            case 3 -> text.all().size();
            case 4 -> text.rules.size();
            case 5 -> text.limit();
            default -> (int) text.all().stream().filter(Node::isLeaf).count();
        };
    }
}
