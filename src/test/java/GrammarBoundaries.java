/** The grammar, rule by rule: what may stand where, and what is left out or is there too often. */
final class GrammarBoundaries {
    private static final int MISPLACED = 2;
    private static final String[] KINDS = {"word", "text", "long", "date", "bool", "object", "nested", "alias"};
    private static final String[] OPTIONS = {"stored", "closed", "norms", "null", "copy", "by", "of"};

    private GrammarBoundaries() {
    }

    static void run() {
        items();
        reserved();
        fields();
        kinds();
        options();
        paths();
        patterns();
        kindNumbers();
        optionNumbers();
        leavesAndHolders();
        fieldNumbers();
        pathsOfFields();
    }

    private static void stand(String words) {
        Sentences.stand(Sentences.TERMS, words);
    }

    private static void misplaced(String marked) {
        Checks.faultAt(MISPLACED, marked);
    }

    private static void items() {
        stand("text = {item} item = field | 'rule' pattern ':' kind ';' | 'limit' NUMBER ';'");
        MappingTexts none = Checks.with("", " \n ");
        Checks.due("fields of an empty text", none.told(0, 3), 0);
        Checks.due("rules of an empty text", none.told(0, 4), 0);
        Checks.due("printed, an empty text", none.print(1), 0);
        Checks.due("items in any order", Checks.with("limit 3;rule a:word;a:word;rule b:word;b:word;").told(0, 4), 2);
        misplaced("@;");
        misplaced("a:word;@;");
        misplaced("rule@");
        misplaced("rule @;");
        misplaced("rule @:word;");
        misplaced("rule a@");
        misplaced("rule a@;");
        misplaced("rule a @word;");
        misplaced("rule a:@");
        misplaced("rule a:@;");
        misplaced("rule a:word@");
        misplaced("rule a:word@,");
        misplaced("rule a:word @b:word;");
        misplaced("rule a:word@(stored);");
        misplaced("rule a:object@{};");
        misplaced("limit@");
        misplaced("limit@;");
        misplaced("limit @a;");
        misplaced("limit 1@");
        misplaced("limit 1@:");
        misplaced("limit 1 @2;");
    }

    private static void reserved() {
        stand("(rule and limit are no name of a field)");
        misplaced("rule@:word;");
        misplaced("limit@:word;");
        misplaced("o:object{@rule:word;};");
        misplaced("o:object{@limit:word;};");
        misplaced("o:object{@rule a:word;};");
        misplaced("o:object{@limit 9;};");
        misplaced("o:object{p:object{q:word;@rule:word;};};");
        Checks.fine("rules:word;limits:word;rule1:word;limit_:word;");
        Checks.fine("o:object{rules:word;limits:word;};");
        // They are names all the same where no field is named.
        Checks.fine("a:text(by=rule);b:text(by=limit);rule rule:word;rule limit*rule:word;rule *limit:word;");
    }

    private static void fields() {
        stand("field = NAME ':' kind ['(' option {',' option} ')'] ['{' {field} '}'] ';'");
        Checks.fine("a:word;b:word(stored);c:word(stored,closed);d:object{};e:object{f:word;};g:object{h:word;i:word;};");
        misplaced("a@");
        misplaced("a@;");
        misplaced("a @word;");
        misplaced("a:@");
        misplaced("a:@;");
        misplaced("a:@:word;");
        misplaced("a:word@");
        misplaced("a:word @word;");
        misplaced("a:word(@);");
        misplaced("a:word(@,stored);");
        misplaced("a:word(stored@");
        misplaced("a:word(stored,@);");
        misplaced("a:word(stored,@,closed);");
        misplaced("a:word(stored @closed);");
        misplaced("a:word(stored)@");
        misplaced("a:word(stored)@)");
        misplaced("a:word(stored)@(closed);");
        misplaced("a:object{@");
        misplaced("a:object{@;};");
        misplaced("a:object{b:word;@");
        misplaced("a:object{b:word@};");
        misplaced("a:object{}@");
        misplaced("a:object{}@};");
        misplaced("a:object{}@{};");
        misplaced("a:object{} @b:word;");
        misplaced("a:object{};@};");
        misplaced("a:object{@{};};");
        misplaced("@(stored);");
        misplaced("@{a:word;}");
        // What is within comes behind the options.
        misplaced("a:object{}@(stored);");
    }

    private static void kinds() {
        stand("kind = 'word' | 'text' | 'long' | 'date' | 'bool' | 'object' | 'nested' | 'alias'");
        for (String kind : KINDS) {
            Checks.fine("t:word;a:" + kind + (kind.equals("alias") ? "(of=t);" : ";"));
            Checks.fine("rule a:" + kind + ";");
            Checks.fine("x:word;" + kind + ":word;");
            String less = kind.substring(0, kind.length() - 1);
            String other = less + (kind.endsWith("z") ? "y" : "z");
            for (String none : new String[] {less, kind + "s", kind + "_", kind + "1", other, "x" + kind.substring(1)}) {
                misplaced("a:@" + none + ";");
                misplaced("rule a:@" + none + ";");
            }
        }
        misplaced("a:@rule;");
        misplaced("a:@stored;");
        misplaced("a:@1;");
        misplaced("a:@*;");
    }

    private static void options() {
        stand("option = 'stored' | 'closed' | 'norms' | 'null' '=' NUMBER | 'copy' '=' path | 'by' '=' NAME | 'of' '=' path");
        Checks.fine("t:text(stored,closed,norms,copy=u,by=x);u:text;n:long(null=1);l:alias(of=t);");
        for (String option : OPTIONS) {
            for (String none : new String[] {option.substring(0, option.length() - 1), option + "s", option + "1", "x" + option.substring(1)}) {
                misplaced("a:text(@" + none + ");");
                misplaced("a:text(stored,@" + none + "=1);");
            }
        }
        for (String bare : new String[] {"stored", "closed", "norms"}) {
            misplaced("a:text(" + bare + "@=1);");
            misplaced("a:text(" + bare + "@=a);");
        }
        for (String valued : new String[] {"null", "copy", "by", "of"}) {
            misplaced("a:text(" + valued + "@);");
            misplaced("a:text(" + valued + "@,stored);");
            misplaced("a:text(" + valued + " @x);");
            misplaced("a:text(" + valued + "=@);");
            misplaced("a:text(" + valued + "=@=x);");
            misplaced("a:text(" + valued + "=@*);");
            misplaced("a:text(" + valued + "=@" + (valued.equals("null") ? "x" : "1") + ");");
        }
        misplaced("a:long(null=1@.1);");
        misplaced("a:text(by=x@.y);");
        misplaced("a:text(by=x @y);");
        misplaced("a:text(@1);");
    }

    private static void paths() {
        stand("path = NAME {'.' NAME}");
        for (String option : new String[] {"copy", "of"}) {
            String from = option.equals("copy") ? "a:word(copy=" : "a:alias(of=";
            Checks.fine(from + "b);b:word;");
            Checks.fine(from + "o.b);o:object{b:word;};");
            Checks.fine(from + "o.p.q.r.b);o:object{p:object{q:object{r:object{b:word;};};};};");
            misplaced(from + "@.b);");
            misplaced(from + "b.@);");
            misplaced(from + "b.@.c);");
            misplaced(from + "b.@1);");
            misplaced(from + "b.@*);");
            misplaced(from + "b @c);");
            misplaced(from + "b@*);");
            misplaced(from + "b.@");
        }
    }

    private static void patterns() {
        stand("pattern = NAME ['*' [NAME]] | '*' [NAME]");
        MappingTexts x = Checks.with("rule a:word;rule a*:word;rule a*b:word;rule*:word;rule *b:word;");
        Checks.same("printed", Checks.print(x, 0), "rule a:word;rule a*:word;rule a*b:word;rule *:word;rule *b:word;");
        misplaced("rule *@*:word;");
        misplaced("rule a*@*:word;");
        misplaced("rule a*b@*:word;");
        misplaced("rule *b@*:word;");
        misplaced("rule a @b:word;");
        misplaced("rule *a @b:word;");
        misplaced("rule @1:word;");
        misplaced("rule *@1:word;");
        misplaced("rule a*@1:word;");
        misplaced("rule a@.b:word;");
        misplaced("rule *@.b:word;");
    }

    private static void kindNumbers() {
        stand("KINDS are numbered from 0 on as they stand here;");
        for (int kind = 0; kind < KINDS.length; kind++) {
            MappingTexts x = Checks.with("t:word;a:" + KINDS[kind] + (kind == 7 ? "(of=t);" : ";"));
            Checks.due(KINDS[kind], x.field(0, 1, 0), kind);
        }
    }

    private static void optionNumbers() {
        stand("OPTIONS likewise: 0 stored .. 6 of.");
        String[] texts = {"a:word(stored);", "a:word(closed);", "a:text(norms);", "a:long(null=0);", "a:word(copy=t);", "a:text(by=x);", "a:alias(of=t);"};
        for (int option = 0; option < texts.length; option++) {
            Checks.due(texts[option], Checks.with("t:word;" + texts[option]).field(0, 1, 1), 1 << option);
        }
        Checks.due("none", Checks.with("a:word;").field(0, 0, 1), 0);
        Checks.due("all that a text may have", Checks.with("t:word;a:text(by=x,copy=t,norms,closed,stored);").field(0, 1, 1), 1 + 2 + 4 + 16 + 32);
    }

    private static void leavesAndHolders() {
        stand("LEAVES are fields of KINDS 0 .. 4, HOLDERS those of 5, 6.");
        for (int kind = 0; kind < KINDS.length; kind++) {
            MappingTexts x = Checks.with("t:word;a:" + KINDS[kind] + (kind == 7 ? "(of=t);" : ";") + "rule *:word;");
            Checks.due(KINDS[kind] + ", leaves", x.told(0, 6), kind < 5 ? 2 : 1);
            Checks.due(KINDS[kind] + ", reaches", x.field(0, 1, 9), kind < 5 ? 1 : 0);
            Checks.due(KINDS[kind] + ", leaf meant", x.leaf(0, 1), kind < 5 ? 1 : kind < 7 ? Checks.NO : 0);
            Checks.due(KINDS[kind] + ", grows within", Checks.grow(x, "a.b", 0, 0), kind == 5 || kind == 6 ? 1 : Checks.NO);
        }
    }

    private static void fieldNumbers() {
        stand("FIELDS are numbered from 0 on as they stand;");
        MappingTexts x = Checks.with("b:word;rule *:word;o:object{z:object{y:word;};a:word;};limit 9;a:word;");
        String[] paths = {"b", "o", "o.z", "o.z.y", "o.a", "a"};
        for (int field = 0; field < paths.length; field++) {
            Checks.due(paths[field], Checks.find(x, paths[field], 0), field);
            Checks.same("path of " + field, Checks.path(x, 0, field), paths[field]);
        }
        Checks.due("behind the last", x.field(0, 6, 0), Checks.BAD);
    }

    private static void pathsOfFields() {
        stand("a PATH is its NAME behind those that it is within, with points between.");
        String twelve = "abcdefghijkl";
        MappingTexts x = Checks.with(Checks.times(twelve + ":object{", 4) + twelve + ":word;" + Checks.times("};", 4));
        for (int field = 0; field < 5; field++) {
            Checks.due("the longest of depth " + field, x.field(0, field, 7), 13 * field + 12);
        }
        Checks.same("the longest", Checks.path(x, 0, 4), Checks.times(twelve + ".", 4) + twelve);
        Checks.due("found", Checks.find(x, Checks.times(twelve + ".", 4) + twelve, 0), 4);
        Checks.due("a name within alone", Checks.find(Checks.with("o:object{a:word;};"), "a", 0), Checks.NO);
    }
}
