import java.nio.charset.StandardCharsets;

/** What the tests share: a count of wrong answers, and texts instead of single calls. */
final class Checks {
    static final int BAD = MappingTexts.BAD, NO = MappingTexts.NO, FULL = MappingTexts.FULL;
    private static int asked = 0;
    private static int wrong = 0;

    private Checks() {
    }

    static void due(String what, long got, long want) {
        asked++;
        if (got != want) {
            wrong++;
            System.out.println(what + " answered " + got + ", due is " + want);
        }
    }

    static void same(String what, String got, String want) {
        asked++;
        if (!got.equals(want)) {
            wrong++;
            System.out.println(what + " answered \"" + got + "\", due is \"" + want + "\"");
        }
    }

    static int wrong() {
        return wrong;
    }

    /** Ends the test: with exit code 1 if an answer was wrong. */
    static void end() {
        System.out.println(asked + " answers, " + wrong + " of them wrong");
        if (wrong != 0 || asked == 0) {
            System.exit(1);
        }
    }

    /** Brings a text onto the tape, eight bytes a call; the answer of the last call. */
    static int feed(MappingTexts x, String text) {
        byte[] bytes = text.getBytes(StandardCharsets.ISO_8859_1);
        int answer = x.told(0, 1);
        for (int from = 0; from < bytes.length; from += 8) {
            int n = Math.min(8, bytes.length - from);
            long number = 0;
            for (int i = n - 1; i >= 0; i--) {
                number = number << 8 | bytes[from + i] & 255;
            }
            answer = x.feed(n, number);
        }
        return answer;
    }

    static int read(MappingTexts x, String text) {
        feed(x, text);
        return x.read();
    }

    static int grow(MappingTexts x, String path, int version, int met) {
        feed(x, path);
        return x.grow(version, met);
    }

    static int find(MappingTexts x, String path, int version) {
        feed(x, path);
        return x.find(version);
    }

    static int rule(MappingTexts x, String name, int version, int met) {
        feed(x, name);
        return x.rule(version, met);
    }

    static String out(MappingTexts x) {
        StringBuilder text = new StringBuilder();
        for (int i = 0; i < x.told(0, 2); i++) {
            text.append((char) x.out(i));
        }
        return text.toString();
    }

    static String print(MappingTexts x, int version) {
        int length = x.print(version);
        return length < 0 ? "" + length : out(x);
    }

    static String path(MappingTexts x, int version, int field) {
        StringBuilder text = new StringBuilder();
        for (int i = 0; i < x.field(version, field, 7); i++) {
            text.append((char) x.letter(version, field, i));
        }
        return text.toString();
    }

    /** The differences from a to b in one text: code, path's field of a, field of b. */
    static String differences(MappingTexts x, int a, int b) {
        StringBuilder text = new StringBuilder();
        for (int i = 0; i < x.differences(a, b); i++) {
            text.append(x.difference(a, b, i, 0)).append('/').append(x.difference(a, b, i, 1))
                .append('/').append(x.difference(a, b, i, 2)).append(' ');
        }
        return text.toString().trim();
    }

    static String times(String text, int n) {
        return text.repeat(n);
    }

    /** As many fields as told: f0 to the last, each with the text told behind its name. */
    static String fields(int n, String behind) {
        StringBuilder text = new StringBuilder();
        for (int i = 0; i < n; i++) {
            text.append('f').append(i).append(behind);
        }
        return text.toString();
    }
}
