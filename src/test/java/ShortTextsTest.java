import java.util.ArrayList;
import java.util.List;

/** Not random but all: short rows of tokens, rows of three items, pairs of small versions and their growing, held against the model. */
public final class ShortTextsTest {
    private static final String[] TOKENS = {"a", "b", "word", "text", "bool", "object", "alias", "stored", "null", "copy", "of", "rule", "limit",
        "0", "2", "{", "}", "(", ")", ":", ";", ",", "=", "*", "."};
    private static final int MOST_TOKENS = 9, MOST_WRONG = 20, CALLS = 512;
    /** What stands behind the name of a field that is there to be copied to, meant, told twice, or to come back to itself. */
    private static final String[] BEHIND_NAME = {":word;", ":word(stored);", ":text(closed);", ":text(by=a,norms);", ":text(by=b);", ":long;", ":long(null=1);",
        ":long(null=01,stored);", ":bool(null=2);", ":bool(null=1);", ":date(norms);", ":word(copy=a);", ":text(copy=b);", ":long(copy=a);", ":word(copy=o.a);",
        ":text(copy=b,stored,copy=a);", ":word(copy=a,copy=b);", ":object;", ":object{};", ":nested{a:word;};", ":object(copy=a);", ":alias;", ":alias(of=a);",
        ":alias(of=b);", ":alias(of=o.a);", ":alias(stored,of=b);", ":alias(of=b){};", ":word{b:word;};"};
    private static final String[] OTHERS = {"rule a:word;", "rule a*:long;", "rule *b:object;", "rule *:alias;", "limit 0;", "limit 1;", "limit 2;", "limit 3;",
        "limit 4;", "limit 41;"};
    private static final String[] PATHS = {"a", "b", "ab", "o", "o.a", "o.b", "o . ab", "a.b", "rule", "o.limit", "o.a.b", "a.", ""};
    private static final String RULES = "rule a*b:text;rule a*:date;rule *b:nested;rule a:word;rule b:bool;";

    private MappingTexts x = new MappingTexts();
    private Model model = new Model();
    private int calls = 0;
    private int texts = 0;

    public static void main(String[] args) {
        ShortTextsTest test = new ShortTextsTest();
        test.rowsOfTokens("", 0);
        System.out.println(test.texts + " rows of tokens");
        List<String> items = items();
        test.rowsOfItems("", items, 3);
        System.out.println(test.texts + " with rows of three out of " + items.size() + " items");
        List<String> fine = fineOnes(items);
        test.pairs(fine);
        test.growths(fine);
        System.out.println(fine.size() + " items without a fault, in pairs, and growing");
        Checks.due("there are such items", fine.size() > 20 ? 1 : 0, 1);
        Checks.end();
    }

    private static List<String> items() {
        List<String> items = new ArrayList<>(List.of(OTHERS));
        for (String rest : BEHIND_NAME) {
            items.add("a" + rest);
            items.add("b" + rest);
            items.add("o:object{a" + rest + "};");
        }
        return items;
    }

    /** An object is asked no more than it is made for; the next calls are so many. */
    private void ask(int more) {
        if (calls + more > CALLS) {
            x = new MappingTexts();
            model = new Model();
            calls = 0;
        }
        calls += more;
    }

    private static int callsToFeed(String text) {
        return 1 + (text.length() + 7) / 8;
    }

    /** What cannot stand at its place ends a row: whatever comes behind it is not looked at. */
    private void rowsOfTokens(String row, int count) {
        boolean goesOn = hold(row);
        if (!goesOn || count == MOST_TOKENS) {
            return;
        }
        for (String token : TOKENS) {
            boolean apart = !row.isEmpty() && Character.isLetterOrDigit(row.charAt(row.length() - 1)) && Character.isLetterOrDigit(token.charAt(0));
            rowsOfTokens(row + (apart ? " " : "") + token, count + 1);
        }
    }

    private void rowsOfItems(String row, List<String> items, int more) {
        for (String item : items) {
            if (more > 1) {
                rowsOfItems(row + item, items, more - 1);
            } else {
                hold(row + item);
            }
        }
    }

    /** Reads a text and forgets it; whether the answer could be another one with more behind the text. */
    private boolean hold(String text) {
        if (Checks.wrong() > MOST_WRONG) {
            return false;
        }
        texts++;
        ask(callsToFeed(text) + text.length() + 16);
        model.tape = text;
        int want = model.read();
        Checks.due("read of " + text, Checks.read(x, text), want);
        Checks.due("place of " + text, x.place(), model.place);
        if (want >= 0) {
            model.print(want);
            Checks.same("print of " + text, Checks.print(x, want), model.out);
            Checks.due("drop", x.drop(), model.drop());
        }
        return want >= 0 || want < -13 || want == -12 && model.place == text.length();
    }

    private static List<String> fineOnes(List<String> items) {
        List<String> fine = new ArrayList<>();
        for (String item : items) {
            for (String beside : new String[] {"", "b:word;", "o:object{a:word;};"}) {
                if (isFine(item + beside)) {
                    fine.add(item + beside);
                }
            }
        }
        return fine;
    }

    private static boolean isFine(String text) {
        Model model = new Model();
        model.tape = text;
        return model.read() == 0;
    }

    private void readBoth(String text) {
        model.tape = text;
        Checks.due("read of " + text, Checks.read(x, text), model.read());
    }

    private void dropAll() {
        for (int left = model.versions.size(); left > 0; left--) {
            Checks.due("drop", x.drop(), model.drop());
        }
    }

    private void pairs(List<String> fine) {
        for (String a : fine) {
            for (String b : fine) {
                ask(callsToFeed(a) + callsToFeed(b) + 64);
                readBoth(a);
                readBoth(b);
                Checks.same("from " + a + " to " + b, Checks.differences(x, 0, 1), differences(0, 1));
                dropAll();
            }
        }
    }

    private String differences(int a, int b) {
        StringBuilder text = new StringBuilder();
        for (int i = 0; i < model.differences(a, b); i++) {
            text.append(model.difference(a, b, i, 0)).append('/').append(model.difference(a, b, i, 1))
                .append('/').append(model.difference(a, b, i, 2)).append(' ');
        }
        return text.toString().trim();
    }

    private void growths(List<String> fine) {
        for (String text : fine) {
            for (String path : PATHS) {
                for (int met = 0; met < 4; met++) {
                    growth(text.contains("rule") ? text : text + RULES, path, met);
                }
            }
        }
    }

    private void growth(String text, String path, int met) {
        ask(callsToFeed(text) + 4 * callsToFeed(path) + 2 * text.length() + 96);
        readBoth(text);
        model.tape = path;
        int want = model.grow(0, met);
        Checks.due("grow of " + text + " by " + path + ", " + met, Checks.grow(x, path, 0, met), want);
        model.tape = path;
        Checks.due("rule of " + text + " for " + path + ", " + met, Checks.rule(x, path, 0, met), model.rule(0, met));
        int latest = model.versions.size() - 1;
        model.tape = path;
        Checks.due("find in " + text + ", " + path, Checks.find(x, path, latest), model.find(latest));
        model.print(latest);
        Checks.same("print of " + text + " grown by " + path, Checks.print(x, latest), model.out);
        Checks.same("from " + text + " grown by " + path, Checks.differences(x, 0, latest), differences(0, latest));
        dropAll();
    }
}
