import java.util.TreeMap;

/** Random runs of at most 512 calls, each answer held against the model's. */
public final class RandomRunsTest {
    private static final int RUNS = 3000, CALLS = 512;
    private static final TreeMap<String, Integer> met = new TreeMap<>();
    private final RandomTexts random;
    private final MappingTexts x = new MappingTexts();
    private final Model model = new Model();
    private final long seed;
    private int calls = 0;

    private RandomRunsTest(long seed) {
        this.seed = seed;
        random = new RandomTexts(seed);
    }

    public static void main(String[] args) {
        for (int seed = 1; seed <= RUNS && Checks.wrong() == 0; seed++) {
            new RandomRunsTest(seed).run();
        }
        for (int fault = 1; fault <= 10; fault++) {
            Checks.due("fault " + fault + " is met", met.containsKey("read " + (-10 - fault)) ? 1 : 0, 1);
        }
        String[] wanted = {"read 7", "read -3", "grow 7", "grow -1", "grow -2", "grow -3", "find -2", "rule -2", "rule 3", "code 1", "code 2", "code 3", "code 4"};
        for (String what : wanted) {
            Checks.due(what + " is met", met.containsKey(what) ? 1 : 0, 1);
        }
        System.out.println(met);
        Checks.end();
    }

    private void run() {
        readText(random.text());
        readText(random.text());
        while (calls < CALLS && Checks.wrong() == 0) {
            step();
        }
    }

    private void due(String call, String text, int got, int want) {
        calls++;
        String name = call.substring(0, call.indexOf('('));
        if (want < 0 || name.equals("rule") || name.equals("read") || name.equals("grow")) {
            met.merge(name + " " + want, 1, Integer::sum);
        }
        Checks.due("run " + seed + ", call " + calls + ", " + call + " with " + text + "|", got, want);
    }

    private void feed(String text) {
        for (int from = 0; from < text.length() && Checks.wrong() == 0; from += 8) {
            int n = Math.min(8, text.length() - from);
            long bytes = n == 8 ? 0 : random.number() << 8 * n;
            for (int i = 0; i < n; i++) {
                bytes |= (long) (text.charAt(from + i) & 255) << 8 * i;
            }
            due("feed(" + n + ", " + bytes + ")", text, x.feed(n, bytes), model.feed(n, bytes));
        }
    }

    private int version() {
        return random.once(25) ? random.below(12) - 2 : random.below(Math.max(1, model.versions.size()));
    }

    private int fieldOf(int version) {
        return random.once(25) ? random.below(44) - 2 : random.below(Math.max(1, model.told(version, 3)));
    }

    private int met() {
        return random.once(30) ? random.below(7) - 2 : random.below(4);
    }

    private void step() {
        switch (random.below(17)) {
            case 0:
                readText(random.text());
                break;
            case 1:
            case 2:
                grow();
                break;
            case 3:
                if (random.once(3)) {
                    due("drop()", "", x.drop(), model.drop());
                }
                break;
            case 4:
                find();
                break;
            case 5:
            case 6:
                fields();
                break;
            case 7:
                rule();
                break;
            case 8:
            case 9:
                print();
                break;
            case 10:
            case 11:
                differences();
                break;
            case 12:
                told();
                break;
            case 13:
                letters();
                break;
            case 14:
                printBack();
                break;
            case 15:
                readNear();
                break;
            default:
                wrongFeed();
                break;
        }
    }

    private void readText(String text) {
        feed(text);
        due("read()", text, x.read(), model.read());
        due("place()", text, x.place(), model.place);
    }

    private void readNear() {
        int versions = model.versions.size();
        if (versions > 0) {
            readText(random.near(model.versions.get(random.below(versions)).print()));
            differencesOf(random.below(versions), versions);
        }
    }

    private void grow() {
        String path = random.path();
        feed(path);
        int version = version();
        int met = met();
        due("grow(" + version + ", " + met + ")", path, x.grow(version, met), model.grow(version, met));
        due("place()", path, x.place(), model.place);
    }

    private void find() {
        String path = random.path();
        feed(path);
        int version = version();
        due("find(" + version + ")", path, x.find(version), model.find(version));
    }

    private void rule() {
        String name = random.once(8) ? random.path() : random.name();
        feed(name);
        int version = version();
        int met = met();
        due("rule(" + version + ", " + met + ")", name, x.rule(version, met), model.rule(version, met));
    }

    private void fields() {
        int version = version();
        int field = fieldOf(version);
        for (int what = -1; what < 11; what++) {
            due("field(" + version + ", " + field + ", " + what + ")", "", x.field(version, field, what), model.field(version, field, what));
        }
        due("leaf(" + version + ", " + field + ")", "", x.leaf(version, field), model.leaf(version, field));
    }

    private void letters() {
        int version = version();
        int field = fieldOf(version);
        for (int i = -1; i < 6; i++) {
            due("letter(" + version + ", " + field + ", " + i + ")", "", x.letter(version, field, i), model.letter(version, field, i));
        }
        int i = random.below(66);
        due("letter(" + version + ", " + field + ", " + i + ")", "", x.letter(version, field, i), model.letter(version, field, i));
    }

    /** Reading the whole of OUT is no part of the run: it changes nothing. */
    private void print() {
        int version = version();
        due("print(" + version + ")", "", x.print(version), model.print(version));
        Checks.same("run " + seed + ", call " + calls + ", OUT", Checks.out(x), model.out);
        due("out(" + model.out.length() + ")", "", x.out(model.out.length()), model.out(model.out.length()));
    }

    private void printBack() {
        print();
        due("take()", "", x.take(), model.take());
        if (random.once(3)) {
            feed(random.name() + "q:word;");
        }
        due("read()", "", x.read(), model.read());
        due("place()", "", x.place(), model.place);
    }

    private void differences() {
        differencesOf(version(), version());
    }

    private void differencesOf(int a, int b) {
        due("differences(" + a + ", " + b + ")", "", x.differences(a, b), model.differences(a, b));
        for (int tries = 0; tries < 4; tries++) {
            int i = random.below(Math.max(0, model.differences(a, b)) + 2) - 1;
            for (int what = -1; what < 4; what++) {
                int want = model.difference(a, b, i, what);
                due("difference(" + a + ", " + b + ", " + i + ", " + what + ")", "", x.difference(a, b, i, what), want);
                if (what == 0 && want > 0) {
                    met.merge("code " + want, 1, Integer::sum);
                }
            }
        }
    }

    private void told() {
        int version = version();
        for (int what = -1; what < 8; what++) {
            due("told(" + version + ", " + what + ")", "", x.told(version, what), model.told(version, what));
        }
    }

    private void wrongFeed() {
        int n = random.once(6) ? 1 + random.below(8) : random.once(2) ? -random.below(20) : 9 + random.below(20);
        long bytes = random.number();
        due("feed(" + n + ", " + bytes + ")", "", x.feed(n, bytes), model.feed(n, bytes));
    }
}
