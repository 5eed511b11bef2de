/** A method or more for each promise: ordinary inputs, the edges, and wrong inputs. */
public final class PromisesTest {
    private static final int BAD = Checks.BAD, NO = Checks.NO, FULL = Checks.FULL;
    private static final String SHOP = "a:word(stored,copy=o.t);o:object{t:text(by=std,norms);n:long(null=007);};"
        + "x:alias(of=o.n);rule d*:date;rule *:word;limit 9;";
    private static final int LEAST = Integer.MIN_VALUE, GREATEST = Integer.MAX_VALUE;

    public static void main(String[] args) {
        newObject();
        feed();
        read();
        place();
        grow();
        growRefused();
        growInOrder();
        drop();
        find();
        field();
        letter();
        leaf();
        rule();
        print();
        out();
        take();
        differences();
        difference();
        differencesInOrder();
        told();
        tapeBehindRefusals();
        Checks.end();
    }

    private static MappingTexts with(String... texts) {
        return Checks.with(texts);
    }

    private static void newObject() {
        MappingTexts x = new MappingTexts();
        Checks.due("versions", x.told(0, 0), 0);
        Checks.due("tape", x.told(0, 1), 0);
        Checks.due("out", x.told(0, 2), 0);
        Checks.due("place", x.place(), NO);
        Checks.due("drop", x.drop(), NO);
        Checks.due("out(0)", x.out(0), BAD);
        Checks.due("take", x.take(), 0);
        Checks.due("print(0)", x.print(0), BAD);
        Checks.due("differences(0, 0)", x.differences(0, 0), BAD);
        Checks.due("field(0, 0, 0)", x.field(0, 0, 0), BAD);
        Checks.due("letter(0, 0, 0)", x.letter(0, 0, 0), BAD);
        Checks.due("leaf(0, 0)", x.leaf(0, 0), BAD);
    }

    private static void feed() {
        MappingTexts x = new MappingTexts();
        Checks.due("feed(0)", x.feed(0, 97), BAD);
        Checks.due("feed(9)", x.feed(9, 97), BAD);
        Checks.due("feed(-1)", x.feed(-1, 97), BAD);
        Checks.due("feed(least)", x.feed(LEAST, 97), BAD);
        Checks.due("feed(greatest)", x.feed(GREATEST, 97), BAD);
        Checks.due("tape", x.told(0, 1), 0);
        Checks.due("feed(1), more in the number", x.feed(1, 0x24242461L), 1);
        Checks.due("feed(6)", x.feed(6, 0x64726f773aL | 0x3bL << 40), 7);
        Checks.due("read", x.read(), 0);
        Checks.same("print", Checks.print(x, 0), "a:word;");
        for (int i = 1; i <= 249; i++) {
            Checks.due("feed(8)", x.feed(8, -1L), 8 * i);
        }
        Checks.due("feed(7)", x.feed(7, -1L), 1999);
        Checks.due("feed(2) above 2000", x.feed(2, -1L), FULL);
        Checks.due("tape stays", x.told(0, 1), 1999);
        Checks.due("BAD ahead of FULL", x.feed(9, -1L), BAD);
        Checks.due("feed(1)", x.feed(1, -1L), 2000);
        Checks.due("feed(1) above 2000", x.feed(1, -1L), FULL);
        Checks.due("read of 2000 bytes", x.read(), -11);
        Checks.due("place", x.place(), 0);
        Checks.due("feed(1) again", x.feed(1, 32), 1);
    }

    private static void read() {
        MappingTexts x = with(SHOP, "", "b:word;");
        Checks.due("read of what has a fault", Checks.read(x, "b:word;b:word;"), -14);
        Checks.due("versions", x.told(0, 0), 3);
        Checks.due("fields of 2", x.told(2, 3), 1);
        for (int i = 3; i < 8; i++) {
            Checks.due("read", Checks.read(x, "c:long;"), i);
        }
        Checks.due("read of a 9th", Checks.read(x, "c:long;"), FULL);
        Checks.due("tape behind FULL", x.told(0, 1), 0);
        Checks.due("FULL ahead of a fault", Checks.read(x, "$"), FULL);
        Checks.due("versions", x.told(0, 0), 8);
        Checks.due("drop", x.drop(), 7);
        Checks.due("read into what was left", Checks.read(x, "d:bool;e:text;"), 7);
        Checks.same("print", Checks.print(x, 7), "d:bool;e:text;");
        Checks.same("print of the first", Checks.print(x, 0), SHOP.replace("007", "7").replace("by=std,norms", "norms,by=std"));
        readWide();
    }

    private static void readWide() {
        StringBuilder text = new StringBuilder("z0:word;");
        for (int i = 10; i < 49; i++) {
            text.append("abcdefghij").append(i).append(":text(stored,norms,copy=z0,by=q").append(i).append(");");
        }
        MappingTexts x = with(text.toString());
        Checks.due("print of a wide one", x.print(0), text.length());
        Checks.due("taken back", x.take(), text.length());
        Checks.due("read", x.read(), 1);
        Checks.due("the same", x.differences(0, 1), 0);
        Checks.due("reached", x.field(1, 39, 9), 2);
    }

    private static void place() {
        MappingTexts x = new MappingTexts();
        Checks.due("before any", x.place(), NO);
        Checks.read(x, "a:word;a:word;");
        Checks.due("of a fault", x.place(), 7);
        Checks.due("asked again", x.place(), 7);
        Checks.feed(x, "  $");
        Checks.due("feed leaves it", x.place(), 7);
        x.read();
        Checks.due("of the next fault", x.place(), 2);
        Checks.grow(x, "$$", 0, 0);
        Checks.due("grow leaves it", x.place(), 2);
        Checks.read(x, "a:word;");
        Checks.due("of none", x.place(), NO);
        Checks.read(x, "a:word");
        Checks.due("at the end", x.place(), 6);
        Checks.read(x, "rule *:word;");
        for (int i = 2; i < 7; i++) {
            Checks.read(x, "");
        }
        Checks.read(x, "x");
        Checks.due("at the end again", x.place(), 1);
        Checks.due("grow to the 8th", Checks.grow(x, "y", 1, 0), 7);
        Checks.due("read without room", Checks.read(x, "x"), FULL);
        Checks.due("that had no fault", x.place(), NO);
    }

    private static void grow() {
        MappingTexts x = with(SHOP);
        Checks.due("grow of what is there", Checks.grow(x, "o.t", 0, 3), 0);
        Checks.due("versions", x.told(0, 0), 1);
        Checks.due("grow within", Checks.grow(x, "o . \n day", 0, 1), 1);
        Checks.same("print", Checks.print(x, 1), "a:word(stored,copy=o.t);o:object{t:text(norms,by=std);n:long(null=7);day:date;};"
            + "x:alias(of=o.n);rule d*:date;rule *:word;limit 9;");
        Checks.due("copy", x.field(1, 0, 3), 2);
        Checks.due("of is as it was", x.field(1, 5, 4), 3);
        Checks.due("holder", x.field(1, 4, 5), 1);
        Checks.due("grow by the next rule", Checks.grow(x, "day", 1, 0), 2);
        Checks.due("its kind", x.field(2, 6, 0), 0);
        Checks.due("its options", x.field(2, 6, 1), 0);
        Checks.due("its null", x.field(2, 6, 2), NO);
        Checks.due("its holder", x.field(2, 6, 5), NO);
        Checks.due("the old one stays", x.told(0, 3), 5);
        Checks.due("limit goes along", x.told(2, 5), 9);
        Checks.due("rules go along", x.told(2, 4), 2);
        MappingTexts y = with("rule o*:nested;rule *:object;rule *:bool;");
        Checks.due("grow an object", Checks.grow(y, "of", 0, 3), 1);
        Checks.due("grow another", Checks.grow(y, "of.x", 1, 3), 2);
        Checks.due("grow a truth within", Checks.grow(y, "of.x.y", 2, 2), 3);
        Checks.same("print", Checks.print(y, 3), "of:nested{x:object{y:bool;};};rule o*:nested;rule *:object;rule *:bool;");
        Checks.due("what is there, though there be no rule", Checks.grow(y, "of", 3, 0), 3);
    }

    private static void growRefused() {
        MappingTexts x = with(SHOP + "rule *:nested;", "rule *:word;rule *:object;" + Checks.fields(39, ":word;"));
        Checks.due("no version", Checks.grow(x, "q", 2, 0), BAD);
        Checks.due("no version", Checks.grow(x, "q", -1, 0), BAD);
        Checks.due("no version", Checks.grow(x, "q", LEAST, 0), BAD);
        Checks.due("no met", Checks.grow(x, "q", 0, -1), BAD);
        Checks.due("no met", Checks.grow(x, "q", 0, 4), BAD);
        Checks.due("BAD ahead of NO", Checks.grow(x, "$", 0, 4), BAD);
        String[] none = {"", " ", "$", "q.", ".q", "q q", "q..q", "1", "q.1", "q,", "abcdefghijklm", "q;", "a.b", "x.b", "u.b",
            "o.t.b", "rule", "limit", "o.rule", "o.limit", "rule.a", Checks.times("o.", 999) + "o"};
        for (String path : none) {
            Checks.due("grow by " + path, Checks.grow(x, path, 0, 0), NO);
        }
        Checks.due("rule fits all", Checks.grow(x, "rules", 0, 0), 2);
        Checks.due("no rule fits what was met", Checks.grow(with("rule *:word;"), "q", 0, 3), NO);
        Checks.due("an alias fits nothing", Checks.grow(with("a:word;rule *:alias;"), "q", 0, 0), NO);
        Checks.due("the 40th", Checks.grow(x, "q", 1, 0), 3);
        Checks.due("the 41st", Checks.grow(x, "r", 3, 0), NO);
        Checks.due("what is there when the limit is reached", Checks.grow(x, "q", 3, 0), 3);
        Checks.due("above a limit told", Checks.grow(with("a:word;limit 1;rule *:word;"), "q", 0, 0), NO);
        Checks.due("up to a limit told", Checks.grow(with("a:word;limit 2;rule *:word;"), "q", 0, 0), 1);
        growDeep();
        growFull();
    }

    private static void growDeep() {
        MappingTexts x = with("a:object{b:object{c:object{d:object{e:object;};};};};rule *:object;rule *:word;");
        Checks.due("at depth 4", Checks.grow(x, "a.b.c.d.f", 0, 3), 1);
        Checks.due("at depth 5", Checks.grow(x, "a.b.c.d.e.f", 0, 0), NO);
        Checks.due("printed and read", Checks.print(x, 1).length(), x.take());
        Checks.due("read back", x.read(), 2);
        String longest = Checks.times("abcdefghijkl.", 4);
        MappingTexts y = with("rule *:object;");
        for (int i = 0; i < 5; i++) {
            Checks.due("grow", Checks.grow(y, longest.substring(0, 13 * i) + "abcdefghijkl", i, 3), i + 1);
        }
        Checks.due("the longest path", y.field(5, 4, 7), 64);
        Checks.same("its letters", Checks.path(y, 5, 4), longest + "abcdefghijkl");
        Checks.due("one deeper", Checks.grow(y, longest + "abcdefghijkl.a", 5, 3), NO);
    }

    private static void growFull() {
        MappingTexts x = with("a:word;rule b*:word;", "", "", "", "", "", "", "");
        Checks.due("no room", Checks.grow(x, "b", 0, 0), FULL);
        Checks.due("no room is needed", Checks.grow(x, "a", 0, 0), 0);
        Checks.due("NO ahead of FULL", Checks.grow(x, "c", 0, 0), NO);
        Checks.due("NO ahead of FULL", Checks.grow(x, "a.b", 0, 0), NO);
        Checks.due("BAD ahead of FULL", Checks.grow(x, "b", 8, 0), BAD);
        x.drop();
        Checks.due("room again", Checks.grow(x, "b", 0, 0), 7);
    }

    /** A field that comes in between moves the numbers behind it, wherever they are told. */
    private static void growInOrder() {
        MappingTexts x = with("c:alias(of=p.q.z);p:object{q:object{z:word(copy=e);};y:long(copy=g.h);};e:text;g:nested{h:word;};rule *:bool;");
        Checks.due("grow", Checks.grow(x, "p.q.n", 0, 2), 1);
        Checks.same("print", Checks.print(x, 1), "c:alias(of=p.q.z);p:object{q:object{z:word(copy=e);n:bool;};y:long(copy=g.h);};e:text;g:nested{h:word;};rule *:bool;");
        Checks.due("n", Checks.find(x, "p.q.n", 1), 4);
        Checks.due("copy of z", x.field(1, 3, 3), 6);
        Checks.due("copy of y", x.field(1, 5, 3), 8);
        Checks.due("of of c", x.field(1, 0, 4), 3);
        Checks.due("holder of h", x.field(1, 8, 5), 7);
        Checks.due("holder of y", x.field(1, 5, 5), 1);
        Checks.due("grow", Checks.grow(x, "p.m", 1, 2), 2);
        Checks.due("m", Checks.find(x, "p.m", 2), 6);
        Checks.due("grow", Checks.grow(x, "g.m", 2, 2), 3);
        Checks.due("m", Checks.find(x, "g.m", 3), 10);
        Checks.due("grow", Checks.grow(x, "m", 3, 2), 4);
        Checks.due("m", Checks.find(x, "m", 4), 11);
        Checks.same("differences", Checks.differences(x, 0, 4), "1/-2/10 1/-2/11 1/-2/6 1/-2/4");
    }

    private static void drop() {
        MappingTexts x = with("a:word;", "b:word;");
        Checks.due("drop", x.drop(), 1);
        Checks.due("what is gone", x.told(1, 3), BAD);
        Checks.same("what stays", Checks.print(x, 0), "a:word;");
        Checks.due("drop", x.drop(), 0);
        Checks.due("drop of none", x.drop(), NO);
        Checks.due("drop of none again", x.drop(), NO);
        Checks.same("out stays", Checks.out(x), "a:word;");
        Checks.due("read", Checks.read(x, "c:word;"), 0);
    }

    private static void find() {
        MappingTexts x = with(SHOP);
        Checks.due("a", Checks.find(x, "a", 0), 0);
        Checks.due("o", Checks.find(x, "o", 0), 1);
        Checks.due("o.t", Checks.find(x, "o.t", 0), 2);
        Checks.due("o.n with blanks", Checks.find(x, " o\n. n ", 0), 3);
        Checks.due("x", Checks.find(x, "x", 0), 4);
        String[] none = {"", " ", "n", "o.x", "o.", ".o", "o t", "o.t.t", "oo", "o.tt", "O", "$", "abcdefghijklm", Checks.times("o.", 900) + "t"};
        for (String path : none) {
            Checks.due("find of " + path, Checks.find(x, path, 0), NO);
        }
        Checks.due("no version", Checks.find(x, "a", 1), BAD);
        Checks.due("no version", Checks.find(x, "$", -1), BAD);
        Checks.due("tape", x.told(0, 1), 0);
    }

    private static void field() {
        MappingTexts x = with("a:word(copy=b);b:text(by=english,copy=o.c);o:object{c:text(norms,stored,closed);i:nested{j:long(null=000);};"
            + "k:date(null=999999);};l:bool;m:alias(of=l);e:nested;");
        int[][] want = {
            {0, 16, NO, 1, NO, NO, 0, 1, 0, 3},
            {1, 48, NO, 3, NO, NO, 0, 1, 7, 2},
            {5, 0, NO, NO, NO, NO, 3, 1, 0, 0},
            {1, 7, NO, NO, NO, 2, 0, 3, 0, 1},
            {6, 0, NO, NO, NO, 2, 1, 3, 0, 0},
            {2, 8, 0, NO, NO, 4, 0, 5, 0, 1},
            {3, 8, 999999, NO, NO, 2, 0, 3, 0, 1},
            {4, 0, NO, NO, NO, NO, 0, 1, 0, 1},
            {7, 64, NO, NO, 7, NO, 0, 1, 0, 0},
            {6, 0, NO, NO, NO, NO, 0, 1, 0, 0}};
        for (int field = 0; field < want.length; field++) {
            for (int what = 0; what < 10; what++) {
                Checks.due("field(0, " + field + ", " + what + ")", x.field(0, field, what), want[field][what]);
            }
            Checks.due("no what", x.field(0, field, 10), BAD);
            Checks.due("no what", x.field(0, field, -1), BAD);
        }
        Checks.due("no field", x.field(0, 10, 0), BAD);
        Checks.due("no field", x.field(0, -1, 0), BAD);
        Checks.due("no field", x.field(0, GREATEST, 0), BAD);
        Checks.due("no version", x.field(1, 0, 0), BAD);
        Checks.due("no version", x.field(LEAST, 0, 0), BAD);
    }

    private static void letter() {
        MappingTexts x = with("o:object{t_1:text;};");
        Checks.same("path", Checks.path(x, 0, 0), "o");
        Checks.same("path", Checks.path(x, 0, 1), "o.t_1");
        Checks.due("behind the last", x.letter(0, 1, 5), BAD);
        Checks.due("ahead of the first", x.letter(0, 1, -1), BAD);
        Checks.due("far", x.letter(0, 1, GREATEST), BAD);
        Checks.due("no field", x.letter(0, 2, 0), BAD);
        Checks.due("no field", x.letter(0, -1, 0), BAD);
        Checks.due("no version", x.letter(1, 0, 0), BAD);
        Checks.due("no version", x.letter(-1, 0, 0), BAD);
    }

    private static void leaf() {
        MappingTexts x = with(SHOP);
        int[] want = {0, NO, 2, 3, 3};
        for (int field = 0; field < want.length; field++) {
            Checks.due("leaf(0, " + field + ")", x.leaf(0, field), want[field]);
        }
        Checks.due("of nested", with("n:nested;").leaf(0, 0), NO);
        Checks.due("no field", x.leaf(0, 5), BAD);
        Checks.due("no field", x.leaf(0, -1), BAD);
        Checks.due("no version", x.leaf(1, 0), BAD);
        Checks.due("no version", x.leaf(-1, 0), BAD);
    }

    private static void rule() {
        MappingTexts x = with("rule ab*ba:word;rule ab*:text;rule *ba:long;rule abba:date;rule *:bool;rule o*:object;rule *:alias;rule *:nested;");
        Checks.due("abba, text", Checks.rule(x, "abba", 0, 0), 0);
        Checks.due("abba, truth", Checks.rule(x, "abba", 0, 2), 0);
        Checks.due("abba, object", Checks.rule(x, "abba", 0, 3), 7);
        Checks.due("aba, text", Checks.rule(x, "aba", 0, 0), 1);
        Checks.due("aba, number", Checks.rule(x, "aba", 0, 1), 2);
        Checks.due("abxba, number", Checks.rule(x, "ab1_ba", 0, 1), 0);
        Checks.due("ab, text", Checks.rule(x, "ab", 0, 0), 1);
        Checks.due("ba, number", Checks.rule(x, "ba", 0, 1), 2);
        Checks.due("b, number", Checks.rule(x, "b", 0, 1), NO);
        Checks.due("b, text", Checks.rule(x, "b", 0, 0), NO);
        Checks.due("b, truth", Checks.rule(x, "b", 0, 2), 4);
        Checks.due("o, object", Checks.rule(x, "o", 0, 3), 5);
        Checks.due("with blanks", Checks.rule(x, " o\n", 0, 3), 5);
        Checks.due("rule is a name", Checks.rule(x, "rule", 0, 2), 4);
        Checks.due("limit is a name", Checks.rule(x, "limit", 0, 2), 4);
        String[] none = {"", " ", "a.b", "a b", "1", "*", "a*", "$", "abcdefghijklm", "a.", Checks.times("a", 2000)};
        for (String name : none) {
            Checks.due("rule for " + name, Checks.rule(x, name, 0, 2), NO);
        }
        Checks.due("no met", Checks.rule(x, "a", 0, 4), BAD);
        Checks.due("no met", Checks.rule(x, "a", 0, -1), BAD);
        Checks.due("no version", Checks.rule(x, "a", 1, 0), BAD);
        Checks.due("no version", Checks.rule(x, "$", -1, 0), BAD);
        MappingTexts y = with("rule abba:date;rule abc*cba:word;");
        Checks.due("the same", Checks.rule(y, "abba", 0, 1), 0);
        Checks.due("longer", Checks.rule(y, "abbaa", 0, 1), NO);
        Checks.due("shorter", Checks.rule(y, "abb", 0, 1), NO);
        Checks.due("both ends would share bytes", Checks.rule(y, "abcba", 0, 0), NO);
        fits();
    }

    private static void fits() {
        String[] kinds = {"word", "text", "long", "date", "bool", "object", "nested", "alias"};
        boolean[][] want = {
            {true, true, true, false}, {true, false, false, false}, {false, true, false, false}, {false, true, false, false},
            {false, false, true, false}, {false, false, false, true}, {false, false, false, true}, {false, false, false, false}};
        for (int kind = 0; kind < kinds.length; kind++) {
            MappingTexts x = with("rule *:" + kinds[kind] + ";");
            for (int met = 0; met < 4; met++) {
                Checks.due(kinds[kind] + " and " + met, Checks.rule(x, "a", 0, met), want[kind][met] ? 0 : NO);
            }
        }
    }

    private static void print() {
        MappingTexts x = with(" rule*b : word ;limit 000 ;", " o : object { } ; \n p:nested{q:nested{r:object{s:bool ( closed , null = 00 , stored ) ;};u:word;};};"
            + "t:text(by=x,copy=p . q . u,norms);limit 40;v:alias(of=t);", "a:long(null=000100);limit 7;rule a * b:alias;b:word(closed,stored);", "");
        Checks.same("fields", Checks.print(x, 1), "o:object;p:nested{q:nested{r:object{s:bool(stored,closed,null=0);};u:word;};};"
            + "t:text(norms,copy=p.q.u,by=x);v:alias(of=t);");
        Checks.same("rules and limit", Checks.print(x, 0), "rule *b:word;limit 0;");
        Checks.due("again", x.print(0), 21);
        Checks.same("numbers", Checks.print(x, 2), "a:long(null=100);b:word(stored,closed);rule a*b:alias;limit 7;");
        Checks.same("none", Checks.print(x, 3), "");
        Checks.due("no version", x.print(4), BAD);
        Checks.due("no version", x.print(-1), BAD);
        Checks.same("out stays", Checks.out(x), "");
    }

    private static void out() {
        MappingTexts x = with("a:word;");
        Checks.due("before a print", x.out(0), BAD);
        x.print(0);
        Checks.due("first", x.out(0), 'a');
        Checks.due("last", x.out(6), ';');
        Checks.due("behind the last", x.out(7), BAD);
        Checks.due("ahead of the first", x.out(-1), BAD);
        Checks.due("far", x.out(GREATEST), BAD);
        Checks.due("a print refused", x.print(1), BAD);
        Checks.due("first, as it was", x.out(0), 'a');
    }

    private static void take() {
        MappingTexts x = with("a:word;");
        Checks.feed(x, "bbbbbbbbbbbbbbbbbb");
        Checks.due("print", x.print(0), 7);
        Checks.due("take over what is there", x.take(), 7);
        Checks.due("tape", x.told(0, 1), 7);
        Checks.due("out stays", x.told(0, 2), 7);
        Checks.due("feed behind it", Checks.feed(x, "b:long;"), 14);
        Checks.due("read", x.read(), 1);
        Checks.same("print", Checks.print(x, 1), "a:word;b:long;");
        takeMost();
    }

    /** A rule's blank that was not in the text makes it longer than a tape. */
    private static void takeMost() {
        String rest = "rule*a:word;";
        String most = filled(2000 - rest.length()) + rest;
        MappingTexts x = with(most);
        Checks.due("print", x.print(0), 2001);
        Checks.feed(x, "abc");
        Checks.due("take of 2001", x.take(), FULL);
        Checks.due("tape stays", x.told(0, 1), 3);
        Checks.due("out stays", x.told(0, 2), 2001);
        MappingTexts y = new MappingTexts();
        Checks.due("read", Checks.read(y, filled(2000)), 0);
        Checks.due("print", y.print(0), 2000);
        Checks.due("take of 2000", y.take(), 2000);
        Checks.due("no more on the tape", y.feed(1, 32), FULL);
        Checks.due("read", y.read(), 1);
        Checks.due("differences", y.differences(0, 1), 0);
    }

    /** A text of just so many bytes that is printed as it stands: fields of 50 bytes, then shorter ones. */
    private static String filled(int length) {
        StringBuilder text = new StringBuilder("target0:text;");
        for (int i = 10; length - text.length() > 120; i++) {
            text.append("abcdefghi_").append(i).append(":text(stored,closed,norms,copy=target0,by=abcdefghijkl);");
        }
        int left = length - text.length();
        int first = left / 2;
        return text.append(field('y', first)).append(field('z', left - first)).toString();
    }

    /** A field of just so many bytes, 38 to 61. */
    private static String field(char begin, int length) {
        String options = ":text(stored,closed,norms,by=";
        int letters = length - options.length() - 2;
        int name = Math.max(1, letters - 12);
        return begin + Checks.times("x", name - 1) + options + Checks.times("b", letters - name) + ");";
    }

    private static void differences() {
        MappingTexts x = with("a:text;b:word(closed);c:text(by=x,copy=b);", "a:text(norms);b:word(closed,stored);c:text(by=y);d:long;", "");
        Checks.due("0 to 1", x.differences(0, 1), 4);
        Checks.due("1 to 0", x.differences(1, 0), 4);
        Checks.due("0 to 0", x.differences(0, 0), 0);
        Checks.due("0 to 2", x.differences(0, 2), 3);
        Checks.due("2 to 1", x.differences(2, 1), 4);
        Checks.due("2 to 2", x.differences(2, 2), 0);
        Checks.due("no version", x.differences(0, 3), BAD);
        Checks.due("no version", x.differences(3, 0), BAD);
        Checks.due("no version", x.differences(-1, 0), BAD);
        Checks.due("no version", x.differences(0, -1), BAD);
        MappingTexts wide = with(Checks.fields(40, ":word;"), Checks.fields(40, "x:word;"));
        Checks.due("the most", wide.differences(0, 1), 80);
        Checks.due("the last of the most", wide.difference(0, 1, 79, 0), 1);
    }

    private static void code(String a, String b, int code) {
        MappingTexts x = with("t:text;u:text;" + a, "u:text;t:text;" + b);
        if (code == 0) {
            Checks.due(a + " to " + b, x.differences(0, 1), 0);
            return;
        }
        Checks.same(a + " to " + b, Checks.differences(x, 0, 1), code + "/2/2");
        Checks.same(b + " to " + a, Checks.differences(x, 1, 0), code + "/2/2");
    }

    private static void difference() {
        code("a:word;", "a:text;", 4);
        code("a:long;", "a:date;", 4);
        code("a:object;", "a:nested;", 4);
        code("a:word;", "a:word(closed);", 4);
        code("a:text;", "a:text(norms);", 4);
        code("a:text;", "a:text(by=x);", 4);
        code("a:text(by=x);", "a:text(by=xy);", 4);
        code("a:text(by=x);", "a:text(by=y);", 4);
        code("a:text(by=x,stored);", "a:text(by=y);", 4);
        code("a:word(stored);", "a:word;", 3);
        code("a:long;", "a:long(null=0);", 3);
        code("a:long(null=1);", "a:long(null=0);", 3);
        code("a:long(null=1);", "a:long(null=01);", 0);
        code("a:word;", "a:word(copy=t);", 3);
        code("a:word(copy=u);", "a:word(copy=t);", 3);
        code("a:word(copy=t);", "a:word(copy=t);", 0);
        code("a:alias(of=t);", "a:alias(of=u);", 3);
        code("a:alias(of=t);", "a:alias(of = t);", 0);
        code("a:word;rule *:word;limit 5;", "a:word;", 0);
        MappingTexts x = with("a:word;c:word;", "b:word;a:text;");
        Checks.same("0 to 1", Checks.differences(x, 0, 1), "4/0/1 1/-2/0 2/1/-2");
        Checks.due("no such one", x.difference(0, 1, 3, 0), BAD);
        Checks.due("no such one", x.difference(0, 1, -1, 0), BAD);
        Checks.due("no such one", x.difference(0, 0, 0, 0), BAD);
        Checks.due("no what", x.difference(0, 1, 0, 3), BAD);
        Checks.due("no what", x.difference(0, 1, 0, -1), BAD);
        Checks.due("no version", x.difference(0, 2, 0, 0), BAD);
        Checks.due("no version", x.difference(2, 0, 0, 0), BAD);
        Checks.due("no version", x.difference(-1, 0, 0, 0), BAD);
    }

    /** The point is below digits, those below _ , that below letters. */
    private static void differencesInOrder() {
        MappingTexts x = with("", "aa:word;a:object{z:word;};a_:word;a1:word;b:word;a0:object{a:word;};");
        // a a.z a0 a0.a a1 a_ aa b
        Checks.same("order", Checks.differences(x, 0, 1), "1/-2/1 1/-2/2 1/-2/6 1/-2/7 1/-2/4 1/-2/3 1/-2/0 1/-2/5");
        Checks.same("order", Checks.differences(x, 1, 0), "2/1/-2 2/2/-2 2/6/-2 2/7/-2 2/4/-2 2/3/-2 2/0/-2 2/5/-2");
    }

    private static void told() {
        MappingTexts x = with(SHOP, "a:object{b:word;c:nested;};d:alias(of=a.b);e:bool;rule *:word;");
        Checks.feed(x, "abc");
        x.print(1);
        int[][] want = {{2, 3, 62, 5, 2, 9, 3}, {2, 3, 62, 5, 1, 40, 2}};
        for (int version = 0; version < 2; version++) {
            for (int what = 0; what < 7; what++) {
                Checks.due("told(" + version + ", " + what + ")", x.told(version, what), want[version][what]);
            }
            Checks.due("no what", x.told(version, 7), BAD);
            Checks.due("no what", x.told(version, -1), BAD);
        }
        for (int what = 0; what < 3; what++) {
            Checks.due("of no version", x.told(-1, what), want[0][what]);
        }
        for (int what = 3; what < 7; what++) {
            Checks.due("no version", x.told(2, what), BAD);
            Checks.due("no version", x.told(-1, what), BAD);
        }
        Checks.due("no version, no what", x.told(2, 7), BAD);
    }

    private static void tapeBehindRefusals() {
        MappingTexts x = new MappingTexts();
        Checks.due("grow", Checks.grow(x, "a", 0, 0), BAD);
        Checks.due("tape behind grow", x.told(0, 1), 0);
        Checks.due("find", Checks.find(x, "a", 0), BAD);
        Checks.due("tape behind find", x.told(0, 1), 0);
        Checks.due("rule", Checks.rule(x, "a", 0, 0), BAD);
        Checks.due("tape behind rule", x.told(0, 1), 0);
        Checks.feed(x, "a");
        Checks.due("print", x.print(0), BAD);
        Checks.due("tape behind print", x.told(0, 1), 1);
    }
}
