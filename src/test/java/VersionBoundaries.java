/** Versions, sentence by sentence: how they are printed, how they grow, how they differ, what is refused. */
final class VersionBoundaries {
    private static final int BAD = Checks.BAD, NO = Checks.NO, FULL = Checks.FULL;
    private static final String[] KINDS = {"word", "text", "long", "date", "bool", "object", "nested", "alias"};

    private VersionBoundaries() {
    }

    static void run() {
        eight();
        printedFields();
        printedOptions();
        printedWithin();
        printedRules();
        printedLimit();
        growsByWhatWasMet();
        growsNothing();
        growsInHolders();
        fitsNames();
        fitsWhatWasMet();
        firstRule();
        standsBehind();
        comesNew();
        differencesInOrder();
        came();
        went();
        mustBeIndexedAnew();
        changed();
        reaches();
        firstOfSeveral();
        refused();
    }

    private static void stand(String words) {
        Sentences.stand(Sentences.TERMS, words);
    }

    private static void printed(String text, String want) {
        Checks.same(text, Checks.print(Checks.with(text), 0), want);
    }

    private static void eight() {
        stand("2 VERSIONS, 8 at most, are numbered from 0 on: texts that were taken, or that grew.");
        MappingTexts x = new MappingTexts();
        for (int i = 0; i < 4; i++) {
            Checks.due("a text is taken", Checks.read(x, "rule *:word;a" + i + ":word;"), 2 * i);
            Checks.due("one grows", Checks.grow(x, "b", 2 * i, 0), 2 * i + 1);
        }
        Checks.due("there are 8", x.told(0, 0), 8);
        Checks.due("a 9th text", Checks.read(x, ""), FULL);
        Checks.due("a 9th that grows", Checks.grow(x, "c", 7, 0), FULL);
        Checks.due("there are 8 still", x.told(0, 0), 8);
        for (int i = 0; i < 8; i++) {
            Checks.same("version " + i, Checks.print(x, i), "a" + i / 2 + ":word;" + (i % 2 == 0 ? "" : "b:word;") + "rule *:word;");
        }
        Checks.due("the 9th", x.print(8), BAD);
    }

    private static void printedFields() {
        stand("PRINTED: FIELDS in their order, without BLANKS: NAME:kind,");
        printed("", "");
        printed("  ", "");
        printed(" b\n: word ;\n a :long; c:object ;", "b:word;a:long;c:object;");
        for (int kind = 0; kind < 7; kind++) {
            printed("abcdefghijkl:" + KINDS[kind] + " ;", "abcdefghijkl:" + KINDS[kind] + ";");
        }
        printed(Checks.fields(40, " :word;"), Checks.fields(40, ":word;"));
    }

    private static void printedOptions() {
        stand("OPTIONS by their numbers in ( ) with , between (each as in the grammar, NUMBERS without needless 0s), if there are any,");
        printed("a:word;", "a:word;");
        printed("a:word(closed);", "a:word(closed);");
        printed("t:word;a:text( by = x , copy = t , norms , closed , stored );", "t:word;a:text(stored,closed,norms,copy=t,by=x);");
        printed("t:word;a:long(copy=t,null=5,stored);b:alias( of = t );", "t:word;a:long(stored,null=5,copy=t);b:alias(of=t);");
        printed("o:object{p:object{t:word;};};a:word(copy= o . p\n.t);", "o:object{p:object{t:word;};};a:word(copy=o.p.t);");
        String[][] numbers = {{"0", "0"}, {"00", "0"}, {"000000", "0"}, {"7", "7"}, {"007", "7"}, {"10", "10"}, {"010", "10"}, {"100", "100"},
            {"000001", "1"}, {"999999", "999999"}, {"100000", "100000"}, {"099999", "99999"}, {"090909", "90909"}};
        for (String[] number : numbers) {
            printed("a:long(null=" + number[0] + ");", "a:long(null=" + number[1] + ");");
        }
    }

    private static void printedWithin() {
        stand("the FIELDS within in { }, if there are any, and ; ;");
        printed("a:object{};", "a:object;");
        printed("a:object{ } ;b:word;", "a:object;b:word;");
        printed("a:object{b:word;};", "a:object{b:word;};");
        printed("a:object{b:nested{};c:nested{d:word;};};e:word;", "a:object{b:nested;c:nested{d:word;};};e:word;");
        String deep = Checks.times("a:object{", 4);
        printed(deep + "b:object;" + Checks.times("};", 4), deep + "b:object;" + Checks.times("};", 4));
        printed(deep + Checks.times("};", 4) + "z:word;", Checks.times("a:object{", 3) + "a:object;" + Checks.times("};", 3) + "z:word;");
        printed(deep + "b:word;" + Checks.times("};", 3) + "y:word;};z:word;", deep + "b:word;" + Checks.times("};", 3) + "y:word;};z:word;");
    }

    private static void printedRules() {
        stand("then the rules in their order, each: rule, a blank, its pattern, : , its kind and ; ;");
        printed("rule*:word;", "rule *:word;");
        printed("rule b * c :word;a:word;rule\n\na : alias ;", "a:word;rule b*c:word;rule a:alias;");
        printed("rule *c:long;rule a*:date;rule *:bool;rule a:word;", "rule *c:long;rule a*:date;rule *:bool;rule a:word;");
        printed(Checks.times("rule*a:word;", 8), Checks.times("rule *a:word;", 8));
        printed("rule abcdefghijkl*mnopqrstuvwx:nested;", "rule abcdefghijkl*mnopqrstuvwx:nested;");
    }

    private static void printedLimit() {
        stand("then limit, a blank, LIMIT and ; if it is not 40.");
        printed("limit 40;", "");
        printed("limit 000040;a:word;", "a:word;");
        printed("limit 39;", "limit 39;");
        printed("limit\n 0 ;", "limit 0;");
        printed("limit 007;rule a:word;a:word;", "a:word;rule a:word;limit 7;");
        printed("limit 10;", "limit 10;");
    }

    private static void growsByWhatWasMet() {
        stand("A VERSION GROWS by a PATH and what was met there: 0 a text, 1 a whole number, 2 a truth, 3 an object.");
        MappingTexts x = Checks.with("rule *:text;rule *:long;rule *:bool;rule *:object;");
        int[] kinds = {1, 2, 4, 5};
        for (int met = 0; met < 4; met++) {
            Checks.due("grow by " + met, Checks.grow(x, "a", 0, met), 1);
            Checks.due("kind by " + met, x.field(1, 0, 0), kinds[met]);
            x.drop();
        }
        for (int met : Checks.outside(4)) {
            Checks.due("grow by " + met, Checks.grow(x, "a", 0, met), BAD);
        }
    }

    private static void growsNothing() {
        stand("If it has a FIELD of that PATH, nothing grows.");
        MappingTexts x = Checks.with("o:object{a:word;};b:alias(of=o.a);limit 3;", "o:object;");
        String[] paths = {"o", "o.a", "b"};
        for (String path : paths) {
            for (int met = 0; met < 4; met++) {
                // There is no rule, and as many fields as the limit lets.
                Checks.due(path + " with " + met, Checks.grow(x, path, 0, met), 0);
            }
        }
        Checks.due("of the other version", Checks.grow(x, "o", 1, 0), 1);
        Checks.due("versions", x.told(0, 0), 2);
        for (int i = 2; i < 8; i++) {
            Checks.read(x, "");
        }
        Checks.due("where there is no room", Checks.grow(x, "o.a", 0, 0), 0);
    }

    private static void growsInHolders() {
        stand("Else the FIELD of the PATH without its last NAME is to be there, a HOLDER (or the PATH is one NAME alone).");
        String text = "w:word;t:text;l:long;d:date;b:bool;o:object;n:nested{m:object;};a:alias(of=w);rule *:word;";
        String[] none = {"w.x", "t.x", "l.x", "d.x", "b.x", "a.x", "z.x", "m.x", "o.m.x", "o.x.y", "n.m.x.y", "rule.x"};
        MappingTexts x = Checks.with(text);
        for (String path : none) {
            Checks.due(path, Checks.grow(x, path, 0, 0), NO);
        }
        String[] some = {"x", "o.x", "n.x", "n.m.x", "n.m.w", "m"};
        for (String path : some) {
            Checks.due(path, Checks.grow(x, path, 0, 0), 1);
            Checks.due(path + " is there", Checks.find(x, path, 1) >= 0 ? 1 : 0, 1);
            Checks.due("drop", x.drop(), 1);
        }
    }

    private static void fits(String pattern, String name, boolean want) {
        MappingTexts x = Checks.with("rule " + pattern + ":word;");
        Checks.due(pattern + " and " + name, Checks.rule(x, name, 0, 0), want ? 0 : NO);
        Checks.due("grow, " + pattern + " and " + name, Checks.grow(x, name, 0, 0), want ? 1 : NO);
    }

    private static void fitsNames() {
        stand("A rule FITS the last NAME, if that is its pattern, * standing for any bytes (none, too);");
        fits("a", "a", true);
        fits("a", "b", false);
        fits("a", "aa", false);
        fits("ab", "a", false);
        fits("ab", "ba", false);
        fits("*", "a", true);
        fits("*", "abcdefghijkl", true);
        fits("a*", "a", true);
        fits("a*", "a_9", true);
        fits("a*", "ba", false);
        fits("ab*", "a", false);
        fits("*a", "a", true);
        fits("*a", "xxa", true);
        fits("*a", "ab", false);
        fits("*ab", "b", false);
        fits("a*b", "ab", true);
        fits("a*b", "axxb", true);
        fits("a*b", "abab", true);
        fits("a*b", "a", false);
        fits("a*b", "b", false);
        fits("a*b", "aba", false);
        // The two ends do not share a byte.
        fits("a*a", "a", false);
        fits("a*a", "aa", true);
        fits("aba*aba", "ababa", false);
        fits("aba*aba", "abaaba", true);
        fits("abcdef*ghijkl", "abcdefghijkl", true);
        fits("abcdefg*ghijkl", "abcdefghijkl", false);
        fits("abcdefghijkl", "abcdefghijkl", true);
        fits("abcdefghijkl*", "abcdefghijkl", true);
        fits("*abcdefghijkl", "abcdefghijkl", true);
        fits("abcdefghijkl*a", "abcdefghijkl", false);
        lastNameAlone();
    }

    private static void lastNameAlone() {
        MappingTexts x = Checks.with("oa:object;rule a*:word;rule oa*:word;rule *oa:word;rule c:word;");
        Checks.due("the last name fits", Checks.grow(x, "oa.a", 0, 0), 1);
        Checks.due("the last name is the pattern", Checks.grow(x, "oa.c", 0, 0), 2);
        Checks.due("the first one does not count", Checks.grow(x, "oa.b", 0, 0), NO);
        Checks.due("nor do both together", Checks.grow(x, "oa.cc", 0, 0), NO);
    }

    private static void fitsWhatWasMet() {
        stand("and what was met: word any of 0 .. 2, text 0, long and date 1, bool 2, object and nested 3.");
        String[] want = {"yyy-", "y---", "-y--", "-y--", "--y-", "---y", "---y", "----"};
        for (int kind = 0; kind < KINDS.length; kind++) {
            MappingTexts x = Checks.with("rule *:" + KINDS[kind] + ";");
            for (int met = 0; met < 4; met++) {
                boolean due = want[kind].charAt(met) == 'y';
                Checks.due(KINDS[kind] + " and " + met, Checks.rule(x, "a", 0, met), due ? 0 : NO);
                Checks.due("grow, " + KINDS[kind] + " and " + met, Checks.grow(x, "a", 0, met), due ? 1 : NO);
                if (due) {
                    Checks.due("its kind", x.field(1, 0, 0), kind);
                    x.drop();
                }
            }
        }
    }

    private static void firstRule() {
        stand("The first rule that FITS both tells the KIND of the new FIELD, which has no OPTIONS,");
        MappingTexts x = Checks.with("rule b:word;rule a:object;rule a:date;rule a:long;rule a:word;");
        Checks.due("the first by name and by what was met", Checks.rule(x, "a", 0, 1), 2);
        Checks.due("it grows", Checks.grow(x, "a", 0, 1), 1);
        Checks.due("its kind", x.field(1, 0, 0), 3);
        Checks.due("the last one", Checks.rule(x, "a", 0, 2), 4);
        MappingTexts eight = Checks.with(Checks.times("rule b:word;", 7) + "rule a:bool;");
        Checks.due("the 8th", Checks.rule(eight, "a", 0, 2), 7);
        // Where another field was kept before, nothing of it is left.
        MappingTexts y = Checks.with("rule *:text;t:word;", "t:text;u:text(stored,closed,norms,copy=t,by=xyz);v:alias(of=t);w:long(null=3);");
        y.drop();
        Checks.due("it grows", Checks.grow(y, "u", 0, 0), 1);
        int[] want = {1, 0, NO, NO, NO, NO, 0, 1, 0, 1};
        for (int what = 0; what < want.length; what++) {
            Checks.due("what " + what, y.field(1, 1, what), want[what]);
        }
        Checks.same("printed", Checks.print(y, 1), "t:word;u:text;rule *:text;");
    }

    private static void standsBehind() {
        stand("and stands behind all FIELDS of its HOLDER (of the text itself);");
        String[][] cases = {
            {"o.y", "6", "a:word;o:object{p:object{q:word;};r:object{s:word;};y:word;};e:object;z:word(copy=a);rule *:word;"},
            {"o.p.y", "4", "a:word;o:object{p:object{q:word;y:word;};r:object{s:word;};};e:object;z:word(copy=a);rule *:word;"},
            {"o.r.y", "6", "a:word;o:object{p:object{q:word;};r:object{s:word;y:word;};};e:object;z:word(copy=a);rule *:word;"},
            {"e.y", "7", "a:word;o:object{p:object{q:word;};r:object{s:word;};};e:object{y:word;};z:word(copy=a);rule *:word;"},
            {"y", "8", "a:word;o:object{p:object{q:word;};r:object{s:word;};};e:object;z:word(copy=a);y:word;rule *:word;"}};
        for (String[] one : cases) {
            MappingTexts x = Checks.with("a:word;o:object{p:object{q:word;};r:object{s:word;};};e:object;z:word(copy=a);rule *:word;");
            Checks.due("grow by " + one[0], Checks.grow(x, one[0], 0, 0), 1);
            Checks.due("its number, " + one[0], Checks.find(x, one[0], 1), Integer.parseInt(one[1]));
            Checks.same("printed, " + one[0], Checks.print(x, 1), one[2]);
        }
        MappingTexts first = Checks.with("o:object{a:word;};z:word;rule *:word;", "o:object;z:word;rule *:word;");
        Checks.due("in the first field", Checks.grow(first, "o.y", 0, 0), 2);
        Checks.same("printed", Checks.print(first, 2), "o:object{a:word;y:word;};z:word;rule *:word;");
        Checks.due("in the first field, which is empty", Checks.grow(first, "o.y", 1, 0), 3);
        Checks.same("printed", Checks.print(first, 3), "o:object{y:word;};z:word;rule *:word;");
        standsBetween();
        MappingTexts empty = Checks.with("rule *:word;");
        Checks.due("the first field", Checks.grow(empty, "a", 0, 0), 1);
        Checks.due("its number", Checks.find(empty, "a", 1), 0);
    }

    /** The numbers of those behind it are one more, wherever they are told; those ahead of it stay. */
    private static void standsBetween() {
        MappingTexts x = Checks.with("b:alias(of=z);c:alias(of=o.a);o:object{a:word(copy=z);l:long(null=5,copy=o.a);};z:word;p:nested{q:text(by=xy);r:text(copy=z);};rule *:bool;");
        Checks.due("it grows", Checks.grow(x, "o.n", 0, 2), 1);
        int[][] want = {{7, 64, NO, NO, 6, NO, 0, 1, 0, 0}, {7, 64, NO, NO, 3, NO, 0, 1, 0, 0}, {5, 0, NO, NO, NO, NO, 3, 1, 0, 0},
            {0, 16, NO, 6, NO, 2, 0, 3, 0, 2}, {2, 24, 5, 3, NO, 2, 0, 3, 0, 3}, {4, 0, NO, NO, NO, 2, 0, 3, 0, 1},
            {0, 0, NO, NO, NO, NO, 0, 1, 0, 1}, {6, 0, NO, NO, NO, NO, 2, 1, 0, 0}, {1, 32, NO, NO, NO, 7, 0, 3, 2, 1},
            {1, 16, NO, 6, NO, 7, 0, 3, 0, 2}};
        for (int field = 0; field < want.length; field++) {
            for (int what = 0; what < 10; what++) {
                Checks.due("field(1, " + field + ", " + what + ")", x.field(1, field, what), want[field][what]);
            }
        }
        Checks.due("differences", x.differences(0, 1), 1);
    }

    private static void comesNew() {
        stand("the VERSION that comes is a new one.");
        MappingTexts rules = Checks.with("rule ab*cd:word;rule *ef:long;rule gh*:date;rule i:bool;rule *:object;limit 7;");
        Checks.due("it grows", Checks.grow(rules, "a", 0, 3), 1);
        Checks.same("its rules and its limit are the old one's", Checks.print(rules, 1),
            "a:object;rule ab*cd:word;rule *ef:long;rule gh*:date;rule i:bool;rule *:object;limit 7;");
        MappingTexts x = Checks.with("a:word;rule *:word;limit 9;", "z:word;");
        Checks.due("the old one grows", Checks.grow(x, "b", 0, 0), 2);
        Checks.same("the old one stays", Checks.print(x, 0), "a:word;rule *:word;limit 9;");
        Checks.same("the one between stays", Checks.print(x, 1), "z:word;");
        Checks.same("the new one", Checks.print(x, 2), "a:word;b:word;rule *:word;limit 9;");
        Checks.due("by the same path again", Checks.grow(x, "b", 0, 0), 3);
        Checks.due("by the same path, where it is", Checks.grow(x, "b", 3, 0), 3);
        Checks.due("by the new one's rules", Checks.grow(x, "c", 2, 0), 4);
        Checks.same("which has both", Checks.print(x, 4), "a:word;b:word;c:word;rule *:word;limit 9;");
    }

    private static void differencesInOrder() {
        stand("DIFFERENCES from VERSION a to b, by PATHS in the order of their bytes (what another one begins with first):");
        // The point is below digits, those below _ , that below letters.
        MappingTexts x = Checks.with("", "b:word;aa:word;a_:word;a9:word;a0:word;a:object{z:word;a:word;};");
        Checks.same("0 to 1", Checks.differences(x, 0, 1), "1/-2/5 1/-2/7 1/-2/6 1/-2/4 1/-2/3 1/-2/2 1/-2/1 1/-2/0");
        Checks.same("1 to 0", Checks.differences(x, 1, 0), "2/5/-2 2/7/-2 2/6/-2 2/4/-2 2/3/-2 2/2/-2 2/1/-2 2/0/-2");
        // Paths of both versions in one order, whatever their codes.
        MappingTexts y = Checks.with("e:word;c:word;a:word;d:word;", "d:word(stored);b:word;c:long;f:word;");
        Checks.same("0 to 1", Checks.differences(y, 0, 1), "2/2/-2 1/-2/1 4/1/2 3/3/0 2/0/-2 1/-2/3");
        MappingTexts z = Checks.with("abcdefghijkl:word;abcdefghijk:word;abcdefghij:word;", "");
        Checks.same("what another one begins with", Checks.differences(z, 0, 1), "2/2/-2 2/1/-2 2/0/-2");
        // The same where a longer path was kept before, and with the longest that there are.
        MappingTexts again = Checks.with("", "zzz:word;zzy:word;");
        again.drop();
        Checks.due("other paths in their place", Checks.read(again, "z:word;za:word;"), 1);
        Checks.same("what another one begins with", Checks.differences(again, 0, 1), "1/-2/0 1/-2/1");
        String deep = Checks.times("abcdefghijkl:object{", 4) + "abcdefghijkl:word;" + Checks.times("};", 4);
        Checks.due("the longest paths", Checks.with(deep, deep).differences(0, 1), 0);
    }

    private static void came() {
        stand("1 b has a FIELD there and a not;");
        MappingTexts x = Checks.with("a:word;", "a:word;o:object{a:word;};");
        Checks.same("0 to 1", Checks.differences(x, 0, 1), "1/-2/1 1/-2/2");
        MappingTexts all = Checks.with("", Checks.fields(40, ":word;"));
        Checks.due("all", all.differences(0, 1), 40);
        Checks.due("the last", all.difference(0, 1, 39, 0), 1);
    }

    private static void went() {
        stand("2 a and not b;");
        MappingTexts x = Checks.with("a:word;o:object{a:word;};", "a:word;");
        Checks.same("0 to 1", Checks.differences(x, 0, 1), "2/1/-2 2/2/-2");
        MappingTexts all = Checks.with(Checks.fields(40, ":word;"), Checks.fields(40, "_:word;"));
        Checks.due("all go, others come", all.differences(0, 1), 80);
        Checks.due("the last", all.difference(0, 1, 79, 0), 1);
        Checks.due("the last but one", all.difference(0, 1, 78, 0), 2);
    }

    /** The fields t and u stand in another order in the second text, so that numbers tell nothing. */
    private static void code(String a, String b, int code) {
        MappingTexts x = Checks.with("t:text;u:text;" + a, "u:text;t:text;" + b);
        Checks.same(a + " to " + b, Checks.differences(x, 0, 1), code == 0 ? "" : code + "/2/2");
        Checks.same(b + " to " + a, Checks.differences(x, 1, 0), code == 0 ? "" : code + "/2/2");
    }

    private static void mustBeIndexedAnew() {
        stand("of both: 4, if their KINDS, closed, norms or by differ;");
        for (int a = 0; a < KINDS.length; a++) {
            for (int b = 0; b < KINDS.length; b++) {
                code("a:" + KINDS[a] + (a == 7 ? "(of=t);" : ";"), "a:" + KINDS[b] + (b == 7 ? "(of=t);" : ";"), a == b ? 0 : 4);
            }
        }
        code("a:word(closed);", "a:word;", 4);
        code("a:text(norms);", "a:text;", 4);
        code("a:text(by=x);", "a:text;", 4);
        code("a:text(by=x);", "a:text(by=y);", 4);
        code("a:text(by=x);", "a:text(by=xx);", 4);
        code("a:text(by=abcdefghijkl);", "a:text(by=abcdefghijkm);", 4);
        code("a:text(by=x,norms,closed);", "a:text(closed, norms, by = x);", 0);
        // 4 is told ahead of 3.
        code("a:word(closed,stored);", "a:word;", 4);
        code("a:text(by=x,copy=t);", "a:text(by=y,copy=u);", 4);
        code("a:long(null=1);", "a:date(null=2);", 4);
    }

    private static void changed() {
        stand("else 3, if stored, null, copy or of differ (paths by their letters).");
        code("a:word(stored);", "a:word;", 3);
        code("a:long(null=0);", "a:long;", 3);
        code("a:long(null=0);", "a:long(null=1);", 3);
        code("a:long(null=100000);", "a:long(null=10000);", 3);
        code("a:long(null=1);", "a:long(null=000001);", 0);
        code("a:word(copy=t);", "a:word;", 3);
        code("a:word(copy=t);", "a:word(copy=u);", 3);
        code("a:word(copy=t);", "a:word( copy = t );", 0);
        code("a:alias(of=t);", "a:alias(of=u);", 3);
        code("a:alias(of=t);", "a:alias(of=t);", 0);
        code("a:word;rule *:word;", "a:word;limit 9;", 0);
        // One number and other letters, other numbers and the same letters.
        MappingTexts x = Checks.with("t:text;a:word(copy=t);b:alias(of=t);", "u:text;a:word(copy=u);b:alias(of=u);", "z:word;t:text;a:word(copy=t);b:alias(of=t);");
        Checks.same("one number", Checks.differences(x, 0, 1), "3/1/1 3/2/2 2/0/-2 1/-2/0");
        Checks.same("the same letters", Checks.differences(x, 0, 2), "1/-2/0");
    }

    private static void reaches() {
        stand("A value of a LEAF REACHES that, the FIELD of its copy, and what that REACHES.");
        MappingTexts x = Checks.with("a:word;b:long(copy=a);c:text(copy=d);d:text(copy=a);e:bool(copy=c);f:object;g:alias(of=e);");
        int[] want = {1, 2, 3, 2, 4, 0, 0};
        for (int field = 0; field < want.length; field++) {
            Checks.due("field " + field, x.field(0, field, 9), want[field]);
        }
        StringBuilder chain = new StringBuilder("f0:word;");
        for (int i = 1; i < 40; i++) {
            chain.append("f").append(i).append(":word(copy=f").append(i - 1).append(");");
        }
        MappingTexts all = Checks.with(chain.toString());
        Checks.due("all of them", all.field(0, 39, 9), 40);
        Checks.due("all but one", all.field(0, 38, 9), 39);
    }

    private static void firstOfSeveral() {
        stand("BAD: an argument is none such; NO: as told; FULL: there is no room; of several the first of these.");
        MappingTexts x = Checks.with("a:word;rule b*:word;", "", "", "", "", "", "", "");
        Checks.due("grow: BAD, NO, FULL", Checks.grow(x, "$", 8, 0), BAD);
        Checks.due("grow: BAD, NO, FULL", Checks.grow(x, "c", 0, 4), BAD);
        Checks.due("grow: BAD, FULL", Checks.grow(x, "b", -1, 0), BAD);
        Checks.due("grow: BAD, nothing grows", Checks.grow(x, "a", 0, -1), BAD);
        Checks.due("grow: NO, FULL", Checks.grow(x, "$", 0, 0), NO);
        Checks.due("grow: NO, FULL", Checks.grow(x, "c", 0, 0), NO);
        Checks.due("grow: NO, FULL", Checks.grow(x, "b", 1, 0), NO);
        Checks.due("grow: FULL", Checks.grow(x, "b", 0, 0), FULL);
        Checks.due("find: BAD, NO", Checks.find(x, "$", 8), BAD);
        Checks.due("rule: BAD, NO", Checks.rule(x, "$", 8, 0), BAD);
        Checks.due("rule: BAD, NO", Checks.rule(x, "$", 0, 4), BAD);
        Checks.due("read: FULL, a fault", Checks.read(x, "$"), FULL);
        Checks.due("field: BAD, NO", x.field(0, 1, 2), BAD);
        Checks.due("leaf: BAD, NO", x.leaf(8, 0), BAD);
        Checks.feed(x, Checks.times(" ", 2000));
        Checks.due("feed: BAD, FULL", x.feed(9, 0), BAD);
        Checks.due("feed: FULL", x.feed(8, 0), FULL);
    }

    /** The tape is empty where the call takes it, and as it was where the call does not. */
    private static void refused() {
        stand("What is refused changes nothing (but THE TAPE).");
        MappingTexts x = Checks.with("o:object{a:text(by=x);};b:alias(of=o.a);rule r*:bool;limit 9;", "rule *:word;c:word(copy=d);d:word;");
        x.print(1);
        String before = Checks.state(x);
        String[] paths = {"", "$", "rr", "o.a.r", "rule", "q"};
        for (String path : paths) {
            Checks.due("grow by " + path, Checks.grow(x, path, 0, 0), NO);
            Checks.due("grow by " + path, Checks.grow(x, path, 2, 0), BAD);
            Checks.due("find " + path, Checks.find(x, path, 0), NO);
            Checks.due("find " + path, Checks.find(x, path, -1), BAD);
            Checks.due("rule " + path, Checks.rule(x, path, 0, 3), NO);
            Checks.due("rule " + path, Checks.rule(x, path, 0, 4), BAD);
        }
        Checks.due("print", x.print(2), BAD);
        Checks.due("feed", x.feed(0, 0), BAD);
        Checks.same("what was refused", Checks.state(x), before);
        Checks.due("the first", x.print(0), 61);
        refusedForWantOfRoom();
        refusedWithoutVersions();
    }

    private static void refusedForWantOfRoom() {
        MappingTexts x = Checks.with("a:word;rule *:word;limit 9;", "", "", "", "", "", "", "b:long;");
        x.print(7);
        String before = Checks.state(x);
        Checks.due("read", Checks.read(x, "e:word;rule *:word;"), FULL);
        Checks.due("grow", Checks.grow(x, "e", 0, 0), FULL);
        Checks.same("what was refused", Checks.state(x), before);
        Checks.same("the first", Checks.print(x, 0), "a:word;rule *:word;limit 9;");
        Checks.same("the last", Checks.print(x, 7), "b:long;");
        Checks.due("drop", x.drop(), 7);
        Checks.due("read", Checks.read(x, ""), 7);
        Checks.due("nothing is left of what was refused", x.print(7), 0);
    }

    private static void refusedWithoutVersions() {
        MappingTexts x = new MappingTexts();
        Checks.feed(x, "a:word;");
        String before = Checks.state(x);
        Checks.due("drop", x.drop(), NO);
        Checks.due("print", x.print(0), BAD);
        Checks.due("out", x.out(0), BAD);
        Checks.due("differences", x.differences(0, 0), BAD);
        Checks.due("difference", x.difference(0, 0, 0, 0), BAD);
        Checks.due("field", x.field(0, 0, 0), BAD);
        Checks.due("letter", x.letter(0, 0, 0), BAD);
        Checks.due("leaf", x.leaf(0, 0), BAD);
        Checks.due("told", x.told(0, 3), BAD);
        Checks.due("feed", x.feed(9, 0), BAD);
        Checks.same("what was refused", Checks.state(x), before);
        Checks.due("the tape is as it was", x.read(), 0);
        Checks.same("all of it", Checks.print(x, 0), "a:word;");
    }
}
