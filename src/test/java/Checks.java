import java.nio.charset.StandardCharsets;

/** What the tests share: a count of wrong answers, and texts instead of single calls. */
final class Checks {
    static final int BAD = MappingTexts.BAD, NO = MappingTexts.NO, FULL = MappingTexts.FULL;
    private static int asked = 0;
    private static int wrong = 0;
    private static int askedAbove = 0;
    private static String stoodFor = "";

    private Checks() {
    }

    static void due(String what, long got, long want) {
        asked++;
        if (got != want) {
            wrong++;
            System.out.println(stoodFor + what + " answered " + got + ", due is " + want);
        }
    }

    static void same(String what, String got, String want) {
        asked++;
        if (!got.equals(want)) {
            wrong++;
            System.out.println(stoodFor + what + " answered \"" + got + "\", due is \"" + want + "\"");
        }
    }

    /** What is asked from here on stands for a sentence; how many answers were asked for the one before. */
    static int standFor(String sentence) {
        int before = asked - askedAbove;
        askedAbove = asked;
        stoodFor = sentence.isEmpty() ? "" : sentence + ": ";
        return before;
    }

    static int wrong() {
        return wrong;
    }

    /** Ends the test: with exit code 1 if an answer was wrong. */
    static void end() {
        System.out.println(asked + " answers, " + wrong + " of them wrong");
        if (wrong != 0 || asked == 0) {
            System.exit(1);
        }
    }

    /** Brings a text onto the tape, eight bytes a call; the answer of the last call. */
    static int feed(MappingTexts x, String text) {
        byte[] bytes = text.getBytes(StandardCharsets.ISO_8859_1);
        int answer = x.told(0, 1);
        for (int from = 0; from < bytes.length; from += 8) {
            int n = Math.min(8, bytes.length - from);
            long number = 0;
            for (int i = n - 1; i >= 0; i--) {
                number = number << 8 | bytes[from + i] & 255;
            }
            answer = x.feed(n, number);
        }
        return answer;
    }

    /** A new object that has read the texts, which are to have no fault. */
    static MappingTexts with(String... texts) {
        MappingTexts x = new MappingTexts();
        for (int i = 0; i < texts.length; i++) {
            due("read of " + texts[i], read(x, texts[i]), i);
        }
        return x;
    }

    /** A text with a fault is taken by no version, and leaves no tape. */
    static void fault(String text, int fault, int place) {
        MappingTexts x = new MappingTexts();
        due("read of " + text, read(x, text), -10 - fault);
        due("place of " + text, x.place(), place);
        due("versions behind " + text, x.told(0, 0), 0);
        due("tape behind " + text, x.told(0, 1), 0);
    }

    /** The same, with an @ (no text has one) ahead of the place that is due. */
    static void faultAt(int fault, String marked) {
        int place = marked.indexOf('@');
        fault(marked.substring(0, place) + marked.substring(place + 1), fault, place);
    }

    static void fine(String text) {
        MappingTexts x = new MappingTexts();
        due("read of " + text, read(x, text), 0);
        due("place of " + text, x.place(), NO);
        due("tape behind " + text, x.told(0, 1), 0);
    }

    static int read(MappingTexts x, String text) {
        feed(x, text);
        return x.read();
    }

    static int grow(MappingTexts x, String path, int version, int met) {
        feed(x, path);
        return x.grow(version, met);
    }

    static int find(MappingTexts x, String path, int version) {
        feed(x, path);
        return x.find(version);
    }

    static int rule(MappingTexts x, String name, int version, int met) {
        feed(x, name);
        return x.rule(version, met);
    }

    static String out(MappingTexts x) {
        StringBuilder text = new StringBuilder();
        int length = x.told(0, 2);
        for (int i = 0; i < length; i++) {
            text.append((char) x.out(i));
        }
        return text.toString();
    }

    static String print(MappingTexts x, int version) {
        int length = x.print(version);
        return length < 0 ? "" + length : out(x);
    }

    static String path(MappingTexts x, int version, int field) {
        StringBuilder text = new StringBuilder();
        int length = x.field(version, field, 7);
        for (int i = 0; i < length; i++) {
            text.append((char) x.letter(version, field, i));
        }
        return text.toString();
    }

    /** The differences from a to b in one text: code, path's field of a, field of b. */
    static String differences(MappingTexts x, int a, int b) {
        StringBuilder text = new StringBuilder();
        int count = x.differences(a, b);
        for (int i = 0; i < count; i++) {
            text.append(x.difference(a, b, i, 0)).append('/').append(x.difference(a, b, i, 1))
                .append('/').append(x.difference(a, b, i, 2)).append(' ');
        }
        return text.toString().trim();
    }

    /** Numbers that are none of 0 to the last below the count told, far ones and near ones. */
    static int[] outside(int count) {
        return new int[] {-1, -2, -256, Integer.MIN_VALUE, Integer.MIN_VALUE + 1, count, count + 1, 256 + count, 1 << 16, 1 << 24, 1 << 30, Integer.MAX_VALUE};
    }

    /** All that can be asked without changing anything, in one text; rules are only seen when printed. */
    static String state(MappingTexts x) {
        StringBuilder text = new StringBuilder();
        text.append(x.told(0, 1)).append(' ').append(x.place()).append(' ').append(out(x));
        for (int version = 0; version < x.told(0, 0); version++) {
            text.append("\nversion ").append(version);
            for (int what = 3; what < 7; what++) {
                text.append(' ').append(x.told(version, what));
            }
            for (int field = 0; field < x.told(version, 3); field++) {
                text.append(" / ").append(path(x, version, field)).append(' ').append(x.leaf(version, field));
                for (int what = 0; what < 10; what++) {
                    text.append(' ').append(x.field(version, field, what));
                }
            }
        }
        return text.toString();
    }

    static String times(String text, int n) {
        return text.repeat(n);
    }

    /** As many fields as told: f0 to the last, each with the text told behind its name. */
    static String fields(int n, String behind) {
        StringBuilder text = new StringBuilder();
        for (int i = 0; i < n; i++) {
            text.append('f').append(i).append(behind);
        }
        return text.toString();
    }
}
