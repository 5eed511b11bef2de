import java.util.ArrayList;
import java.util.List;
import java.util.Random;

/** Texts, paths and names from a seed: mostly right, now and then with something wrong. */
final class RandomTexts {
    private static final String[] NAMES = {"a", "b", "c", "d", "a1", "a_", "ab", "ba", "x", "y", "long_name_12", "abcdefghijkl", "word", "text", "o", "of", "copy"};
    private static final String[] BITS = {"{", "}", "(", ")", ":", ";", ",", "=", "*", ".", "a", "7", "rule", "limit", "rule a:word;", "limit 3;", "$", " ", "\n",
        "word", "{}", "stored", "copy=a", "\u0080", "0000000", "abcdefghijklm", "a:word;", "norms", "null=2", "of=a"};
    private final Random random;
    private final List<String> paths = new ArrayList<>();
    private final List<String> leaves = new ArrayList<>();
    private final List<String> targets = new ArrayList<>();
    private int left;

    RandomTexts(long seed) {
        random = new Random(seed);
    }

    int below(int n) {
        return random.nextInt(n);
    }

    long number() {
        return random.nextLong();
    }

    boolean once(int n) {
        return random.nextInt(n) == 0;
    }

    private String any(String[] of) {
        return of[random.nextInt(of.length)];
    }

    String name() {
        return once(60) ? once(2) ? "rule" : "limit" : any(NAMES);
    }

    private String blank() {
        return once(25) ? once(2) ? " " : "\n " : "";
    }

    /** A path that a text of this object has had, or one just beside it. */
    String path() {
        String path = paths.isEmpty() || once(4) ? name() : paths.get(below(paths.size()));
        if (once(2)) {
            path = path + "." + name();
        } else if (once(3)) {
            path = name();
        }
        if (once(30)) {
            path = path + any(BITS);
        }
        return once(6) ? path.replace(".", " . ") : path;
    }

    /** The right ones first: a text is written so that many of them have no fault. */
    String text() {
        paths.clear();
        leaves.clear();
        targets.clear();
        left = once(8) ? 45 : 1 + below(14);
        StringBuilder text = new StringBuilder();
        for (int i = below(4); i > 0; i--) {
            note("t" + i, "text");
            text.append("t").append(i).append(once(2) ? ":word;" : ":text;");
        }
        boolean last = once(3);
        if (last) {
            note("last", "text");
        }
        while (left > 0) {
            item(text);
        }
        if (last) {
            text.append("last:text");
            options(text, "text");
            text.append(';');
        }
        if (once(3)) {
            text.append("limit ").append(once(4) ? below(50) : 40 - below(10)).append(';');
        }
        return once(5) ? spoilt(text.toString()) : text.toString();
    }

    private void item(StringBuilder text) {
        left--;
        if (once(4)) {
            String star = once(3) ? "" : "*";
            String head = once(2) ? "" : name();
            String pattern = head.isEmpty() ? "*" + (once(2) ? "" : name()) : head + star + (star.isEmpty() || once(2) ? "" : name());
            text.append("rule").append(pattern.startsWith("*") && once(2) ? "" : " ").append(pattern).append(blank()).append(':')
                .append(Model.KINDS.get(below(8))).append(';');
        } else {
            field(text, "", 0);
        }
    }

    private void field(StringBuilder text, String before, int depth) {
        String name = once(8) ? name() : "n" + left + (once(2) ? "" : "_z");
        String kind = Model.KINDS.get(once(3) ? 5 + below(2) : below(once(5) ? 8 : 5));
        String path = before + name;
        text.append(name).append(blank()).append(':').append(blank()).append(kind);
        options(text, kind);
        note(path, kind);
        if (Model.HOLDERS.contains(kind) && !once(4) || once(80)) {
            text.append('{');
            for (int i = below(depth > 2 ? 2 : 4); i > 0 && left > 0; i--) {
                left--;
                if (depth < 4 || once(4)) {
                    field(text, path + ".", depth + 1);
                }
            }
            text.append(blank()).append('}');
        }
        text.append(';').append(blank());
    }

    private void note(String path, String kind) {
        paths.add(path);
        if (Model.LEAVES.contains(kind)) {
            leaves.add(path);
        }
        if (kind.equals("word") || kind.equals("text")) {
            targets.add(path);
        }
    }

    private void options(StringBuilder text, String kind) {
        List<String> options = new ArrayList<>();
        for (String word : Model.OPTIONS) {
            boolean may = switch (word) {
                case "stored", "closed", "copy" -> Model.LEAVES.contains(kind);
                case "norms", "by" -> kind.equals("text");
                case "null" -> List.of("long", "date", "bool").contains(kind);
                default -> kind.equals("alias");
            };
            boolean must = word.equals("of") && kind.equals("alias");
            if (may && (once(3) || must && !once(20)) || once(600)) {
                options.add(below(options.size() + 1), option(word, kind));
            }
        }
        if (!options.isEmpty() && once(60)) {
            options.add(options.get(below(options.size())));
        }
        if (!options.isEmpty()) {
            text.append('(').append(String.join("," + blank(), options)).append(')');
        }
    }

    private String option(String word, String kind) {
        List<String> such = once(40) ? paths : word.equals("copy") ? targets : leaves;
        String target = such.isEmpty() ? name() : such.get(below(such.size()));
        return switch (word) {
            case "null" -> "null=" + (once(3) ? "00" : "") + (kind.equals("bool") && !once(15) ? below(2) : below(1000));
            case "by" -> "by=" + name();
            case "copy", "of" -> word + blank() + "=" + (once(6) ? target.replace(".", " .\n") : target);
            default -> word;
        };
    }

    /** Another text that is near to one that was printed. */
    String near(String printed) {
        String[] from = {"stored", "closed", "word", "text", "norms", "=t1", "=t2", "null=", "object", "nested", "by=", ";", "(stored)", "long", "copy="};
        String[] to = {"closed", "stored", "text", "word", "stored", "=t2", "=t1", "null=1", "nested", "object", "by=x", ";z:long;", "", "date", "stored,copy="};
        String text = printed;
        for (int tries = 0; tries < 4; tries++) {
            int which = below(from.length);
            int at = text.indexOf(from[which], below(text.length() + 1));
            if (at >= 0) {
                text = text.substring(0, at) + to[which] + text.substring(at + from[which].length());
            }
        }
        return text;
    }

    /** Something goes, or comes in between. */
    private String spoilt(String text) {
        StringBuilder spoilt = new StringBuilder(text);
        for (int i = 1 + below(2); i > 0 && spoilt.length() > 0; i--) {
            int at = below(spoilt.length() + 1);
            if (once(2)) {
                spoilt.delete(at, Math.min(at + 1 + below(6), spoilt.length()));
            } else {
                spoilt.insert(at, any(BITS));
            }
        }
        return spoilt.toString();
    }
}
