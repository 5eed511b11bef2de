/** The faults, sentence by sentence: just not one, just one, and one beside another. */
final class FaultBoundaries {
    private static final int NO_TOKEN = 1, MISPLACED = 2, TOO_MANY = 3, NAME_TWICE = 4, WRONG_OPTION = 5;
    private static final int WRONG_BRACE = 6, NO_OF = 7, WRONG_PATH = 8, CIRCLE = 9, WRONG_LIMIT = 10;
    private static final String[] KINDS = {"word", "text", "long", "date", "bool", "object", "nested", "alias"};
    private static final String FOUR_DEEP = "a:object{b:object{c:object{d:object{";

    private FaultBoundaries() {
    }

    static void run() {
        order();
        noToken();
        misplaced();
        couldStand();
        fortyOne();
        nineRules();
        fiveDeep();
        leastPlace();
        namesTwice();
        optionsTwice();
        optionsOfKinds();
        nullOfBool();
        copyAndOf();
        braces();
        aliases();
        pathsOfNone();
        pathsOfOthers();
        circles();
        firstCounts();
        limits();
        limitNumbers();
        limitUntold();
    }

    private static void stand(String words) {
        Sentences.stand(Sentences.TERMS, words);
    }

    private static void at(int fault, String marked) {
        Checks.faultAt(fault, marked);
    }

    private static void order() {
        stand("FAULTS. First all TOKENS are read, then it is gone along the grammar; what is met first ends it:");
        // A token that is none is met first, wherever it is; then the first along the grammar.
        at(NO_TOKEN, ";;;;@$");
        at(NO_TOKEN, "a:word;a:word;} limit @0000000");
        at(NO_TOKEN, Checks.fields(41, ":word;") + "@$");
        at(NO_TOKEN, "@$;$");
        at(MISPLACED, "@;" + Checks.fields(41, ":word;"));
        at(MISPLACED, "@};a");
        at(TOO_MANY, Checks.fields(40, ":word;") + "@x;;;");
        at(TOO_MANY, Checks.times("rule a:word;", 8) + "@rule;");
        // What is wrong otherwise waits for the end, and is not asked for if that is not come to.
        at(MISPLACED, "a:word;a:alias;b:bool(null=2);c:word(copy=c)@");
        at(TOO_MANY, "x:alias;" + FOUR_DEEP + "e:object@{");
    }

    private static void noToken() {
        stand("1 no TOKEN begins there, or one is too long (at its first byte).");
        at(NO_TOKEN, "@$");
        at(NO_TOKEN, "a@$");
        at(NO_TOKEN, "a:word;\n @\t");
        at(NO_TOKEN, "@abcdefghijklm");
        at(NO_TOKEN, "abcdefghijkl @abcdefghijklm");
        at(NO_TOKEN, "limit @1234567;");
        at(NO_TOKEN, "123456 @1234567");
        // Of two the first: a name too long begins ahead of what stands behind it.
        at(NO_TOKEN, "@abcdefghijklmn$");
        at(NO_TOKEN, "@_abcdefghijklmn");
        at(MISPLACED, "abcdefghijkl@");
        at(MISPLACED, "@123456");
    }

    private static void misplaced() {
        stand("2 a TOKEN that cannot stand there (the end: the text's length).");
        at(MISPLACED, "a@");
        at(MISPLACED, "a@;");
        at(MISPLACED, "a:word@");
        at(MISPLACED, "a:word  \n @");
        at(MISPLACED, "a:word   @}");
        at(MISPLACED, "o:object{a:word; @");
        at(MISPLACED, "a:word(copy=b.\n@");
        at(MISPLACED, Checks.times(" ", 1999) + "x@");
        Checks.fine(Checks.times(" ", 2000));
    }

    private static void couldStand() {
        stand("3 a TOKEN that could, and is one too many:");
        // Where it could not stand, that is what is wrong with it.
        String forty = Checks.fields(40, ":word;");
        at(MISPLACED, forty + "@1");
        at(MISPLACED, forty + "@{");
        at(MISPLACED, "o:object{" + Checks.fields(39, ":word;") + "@rule");
        at(MISPLACED, "o:object{" + Checks.fields(39, ":word;") + "@limit");
        at(MISPLACED, Checks.times("rule a:word;", 8) + "o:object{@rule a:word;");
        at(MISPLACED, Checks.times("rule a:word;", 8) + "a:@rule;");
        at(MISPLACED, FOUR_DEEP + "e:@{");
        at(MISPLACED, FOUR_DEEP + "@{");
        at(MISPLACED, FOUR_DEEP + "e:object(@{");
        // Where it could, it is enough that it is there; what is behind is not come to.
        at(TOO_MANY, forty + "@x");
        at(TOO_MANY, forty + "@word;");
        at(TOO_MANY, Checks.times("rule a:word;", 8) + "@rule");
        at(TOO_MANY, FOUR_DEEP + "e:object@{;");
    }

    private static void fortyOne() {
        stand("the NAME of a 41st FIELD,");
        String forty = Checks.fields(40, ":word;");
        Checks.due("40 fields", Checks.with(forty).told(0, 3), 40);
        at(TOO_MANY, forty + "@f40:word;");
        at(TOO_MANY, forty + "limit 40;rule a:word;@f0:word;");
        // Those within count, too, wherever they are.
        Checks.due("40 fields, 39 of them within", Checks.with("o:object{" + Checks.fields(39, ":word;") + "};").told(0, 3), 40);
        at(TOO_MANY, "o:object{" + Checks.fields(39, ":word;") + "@x:word;};");
        at(TOO_MANY, "o:object{" + Checks.fields(39, ":word;") + "};@x:word;");
        at(TOO_MANY, "o:object{" + Checks.fields(38, ":word;") + "};p:object{@x:word;};");
        // Rules are no fields.
        Checks.fine(forty + Checks.times("rule a:word;", 8) + "limit 40;");
    }

    private static void nineRules() {
        stand("the 'rule' of a 9th,");
        Checks.due("8 rules", Checks.with(Checks.times("rule a:word;", 8)).told(0, 4), 8);
        at(TOO_MANY, Checks.times("rule a:word;", 8) + "@rule a:word;");
        at(TOO_MANY, Checks.fields(8, ":word;rule a:word;") + "limit 9; @rule");
        Checks.fine(Checks.times("rule a:word;", 8) + "rules:word;");
    }

    private static void fiveDeep() {
        stand("the { of a 5th DEPTH (those open there).");
        Checks.due("4 are open", Checks.with(FOUR_DEEP + "e:object;};};};};").told(0, 3), 5);
        at(TOO_MANY, FOUR_DEEP + "e:object@{};};};};};");
        at(TOO_MANY, FOUR_DEEP + "e:nested@{f:word;};};};};};");
        at(TOO_MANY, FOUR_DEEP + "x:word;y:word;e:object@{");
        // One that is no holder's could stand there as well.
        at(TOO_MANY, FOUR_DEEP + "e:word@{};};};};};");
        // Only those that are open count, not those that were.
        Checks.fine(FOUR_DEEP + "};e:object{};f:object{};};};};");
        Checks.fine("a:object{};b:object{};c:object{};d:object{};e:object{};");
        Checks.fine(FOUR_DEEP + "};};};};" + FOUR_DEEP.replace("a:", "z:") + "};};};};");
        at(TOO_MANY, FOUR_DEEP + "};e:object{f:object@{");
    }

    private static void leastPlace() {
        stand("Then, of what is wrong in the whole text, that at the least place, of one place the least number:");
        at(NAME_TWICE, "a:word;@a:word;a:word;");
        at(NAME_TWICE, "a:word;@a:bool(null=2);limit 0;");
        at(WRONG_OPTION, "a:bool(null=@2);a:word;limit 0;");
        at(WRONG_OPTION, "a:word(@norms,copy=b);");
        at(WRONG_PATH, "a:word(copy=@b,norms);");
        at(WRONG_BRACE, "a:word@{b:word;b:word;};");
        at(NO_OF, "@a:alias;limit 0;");
        at(NO_OF, "@a:alias(stored){};");
        at(WRONG_PATH, "a:word(copy=@b);b:long;b:word;");
        at(CIRCLE, "a:word(@copy=a);a:word;");
        at(CIRCLE, "a:word(@copy=a,stored,stored);");
        at(WRONG_LIMIT, "limit @0;a:alias;");
        at(WRONG_LIMIT, "limit 9;@limit 9;a:alias;");
        // Two that are told only when the whole text is known.
        at(WRONG_PATH, "limit 9;a:word(copy=@x);b:word(copy=b);");
        at(CIRCLE, "b:word(@copy=b);a:word(copy=x);limit 1;");
        at(WRONG_LIMIT, "limit @1;b:word(copy=b);a:word(copy=x);");
        // Of one place: a name told twice of an alias without an of; a copy that the kind cannot have, in a circle.
        at(NAME_TWICE, "a:word;@a:alias;");
        at(WRONG_OPTION, "a:object(@copy=a);");
        at(WRONG_OPTION, "t:word;a:alias(of=t,@copy=a);");
    }

    private static void namesTwice() {
        stand("4 a NAME of a FIELD that its HOLDER (or the text itself) has already.");
        at(NAME_TWICE, "a:word;@a:word;");
        at(NAME_TWICE, "a:word;b:word;@a:long;");
        at(NAME_TWICE, "a:word;rule a:word;limit 9;@a:word;");
        at(NAME_TWICE, "o:object{a:word;@a:word;};");
        at(NAME_TWICE, "o:object{a:object{a:word;};b:word;@a:word;};");
        at(NAME_TWICE, "o:object{};@o:object{};");
        at(NAME_TWICE, Checks.fields(39, ":word;") + "@f0:word;");
        // Another holder's, or its own holder's name, is not in the way.
        Checks.fine("a:word;o:object{a:word;};p:nested{a:word;};");
        Checks.fine("a:object{a:object{a:object{a:object{a:word;};};};};");
        Checks.fine("ab:word;a:word;abc:word;");
        // What a holder that is told twice has within is another one's.
        at(NAME_TWICE, "h:object{x:word;};@h:object{x:word;};");
    }

    private static void optionsTwice() {
        stand("5 an OPTION (at it) told twice,");
        at(WRONG_OPTION, "a:word(stored,@stored);");
        at(WRONG_OPTION, "a:word(closed,@closed);");
        at(WRONG_OPTION, "a:text(norms,@norms);");
        at(WRONG_OPTION, "a:long(null=1,@null=1);");
        at(WRONG_OPTION, "b:word;a:word(copy=b,@copy=b);");
        at(WRONG_OPTION, "a:text(by=x,@by=y);");
        at(WRONG_OPTION, "b:word;a:alias(of=b,@of=b);");
        at(WRONG_OPTION, "a:word(stored,closed,@stored,closed);");
        at(WRONG_OPTION, "a:word(stored, \n @stored,stored);");
        Checks.fine("a:word(stored);b:word(stored);");
    }

    private static void optionsOfKinds() {
        stand("or one that the KIND cannot have: stored, closed: LEAVES; norms, by: text; null: long, date, bool");
        optionOf("stored", "word text long date bool");
        optionOf("closed", "word text long date bool");
        optionOf("norms", "text");
        optionOf("by=x", "text");
        optionOf("null=1", "long date bool");
    }

    private static void copyAndOf() {
        stand("copy: LEAVES; of: alias.");
        optionOf("copy=t", "word text long date bool");
        optionOf("of=t", "alias");
    }

    /** An alias without an of is wrong at its name already, so it is given one. */
    private static void optionOf(String option, String kinds) {
        for (String kind : KINDS) {
            boolean may = (" " + kinds + " ").contains(" " + kind + " ");
            String ahead = kind.equals("alias") && !option.startsWith("of") ? "of=t," : "";
            String head = "t:word;a:" + kind + "(" + ahead;
            if (may) {
                Checks.fine(head + option + ");");
            } else {
                at(WRONG_OPTION, head + "@" + option + ");");
            }
        }
    }

    private static void nullOfBool() {
        stand("(for bool its NUMBER is 0 or 1; else at the NUMBER);");
        for (String number : new String[] {"0", "1", "00", "01", "000000", "000001"}) {
            Checks.fine("a:bool(null=" + number + ");");
        }
        for (String number : new String[] {"2", "9", "10", "11", "02", "000002", "100000", "999999"}) {
            at(WRONG_OPTION, "a:bool(null=@" + number + ");");
            at(WRONG_OPTION, "a:bool(stored,null = @" + number + ");");
            Checks.fine("a:long(null=" + number + ");b:date(null=" + number + ");");
        }
        // Of a kind that can have no null it is the option that is wrong.
        at(WRONG_OPTION, "a:word(@null=2);");
        at(WRONG_OPTION, "a:bool(null=0,@null=2);");
    }

    private static void braces() {
        stand("6 a { of a FIELD that is no HOLDER.");
        for (String kind : KINDS) {
            String head = "t:word;a:" + kind + (kind.equals("alias") ? "(of=t)" : "");
            if (kind.equals("object") || kind.equals("nested")) {
                Checks.fine(head + "{};");
                Checks.fine(head + "{b:word;};");
            } else {
                at(WRONG_BRACE, head + "@{};");
                at(WRONG_BRACE, head + "@{b:word;};");
            }
        }
        at(WRONG_BRACE, "a:word(stored) \n @{};");
        at(WRONG_BRACE, "o:object{a:word@{};};");
    }

    private static void aliases() {
        stand("7 the NAME of an alias that has no of.");
        at(NO_OF, "@a:alias;");
        at(NO_OF, "t:word;@a:alias{};");
        at(NO_OF, "t:word;@a:alias(stored);");
        at(NO_OF, "o:object{ @a:alias;};");
        Checks.fine("t:word;a:alias(of=t);");
        // No other kind is to have one, and a rule is no field.
        Checks.fine("a:word;b:object;rule *:alias;");
    }

    private static void pathsOfNone() {
        stand("8 a path (at its first NAME) that no FIELD of the text has,");
        at(WRONG_PATH, "a:word(copy=@b);");
        at(WRONG_PATH, "a:word(copy= \n @b . c);b:word;");
        at(WRONG_PATH, "a:alias(of=@b);");
        at(WRONG_PATH, "a:alias(of=@b.c);b:object{d:word;};");
        at(WRONG_PATH, "a:word(copy=@b);o:object{b:word;};");
        at(WRONG_PATH, "o:object{a:word(copy=@b);b:word;};");
        at(WRONG_PATH, "a:word(copy=@bb);b:word;");
        at(WRONG_PATH, "a:word(copy=@b);bb:word;");
        at(WRONG_PATH, "a:word(copy=@o.b.c);o:object{b:word;};");
        at(WRONG_PATH, "a:word(copy=@rule);rule rule:word;");
        at(WRONG_PATH, "a:word(copy=@" + Checks.times("a.", 900) + "a);");
        String deep = Checks.times("abcdefghijkl:object{", 4) + "abcdefghijkl:word;" + Checks.times("};", 4);
        Checks.fine("a:word(copy=" + Checks.times("abcdefghijkl.", 4) + "abcdefghijkl);" + deep);
        at(WRONG_PATH, "a:word(copy=@" + Checks.times("abcdefghijkl.", 4) + "abcdefghijkl.a);" + deep);
        at(WRONG_PATH, "a:word(copy=@" + Checks.times("abcdefghijkl.", 5) + "abcdefghijkl);" + deep);
        // One that is longer than any does not stand in the way of the next text.
        MappingTexts x = new MappingTexts();
        Checks.due("a path longer than any", Checks.read(x, "a:word(copy=" + Checks.times("abcdefghijkl.", 6) + "a);"), -18);
        Checks.due("the next text", Checks.read(x, "a:word(copy=b);b:word;"), 0);
        // It may be one that stands behind, or its own holder's.
        Checks.fine("a:word(copy=z);b:alias(of=z);z:word;");
        Checks.fine("o:object{a:word(copy=o.b);b:word;};");
    }

    private static void pathsOfOthers() {
        stand("or whose FIELD is not such: copy: word or text; of: a LEAF.");
        for (String kind : KINDS) {
            String target = "t:word;b:" + kind + (kind.equals("alias") ? "(of=t);" : ";");
            if (kind.equals("word") || kind.equals("text")) {
                Checks.fine(target + "a:word(copy=b);");
            } else {
                at(WRONG_PATH, target + "a:word(copy=@b);");
            }
            if (kind.equals("object") || kind.equals("nested") || kind.equals("alias")) {
                at(WRONG_PATH, target + "a:alias(of=@b);");
            } else {
                Checks.fine(target + "a:alias(of=b);");
            }
        }
        at(WRONG_PATH, "a:alias(of=@a);");
    }

    private static void circles() {
        stand("from whose FIELD, by copies of copies, one comes to that FIELD again.");
        at(CIRCLE, "a:word(@copy=a);");
        at(CIRCLE, "a:word(@copy=b);b:word(copy=a);");
        at(CIRCLE, "o:object{a:text( @copy=o.a);};");
        // One that leads into a circle is in none.
        at(CIRCLE, "z:long(copy=a);a:word(@copy=b);b:word(copy=a);");
        at(CIRCLE, "z:word(copy=a);a:word(@copy=a);");
        Checks.due("a chain of all fields", Checks.with(chain(0, 39) + "f39:word;").field(0, 0, 9), 40);
        at(CIRCLE, "f0:word(@copy=f1);" + chain(1, 39) + "f39:word(copy=f0);");
        at(CIRCLE, chain(0, 1) + "f1:word(@copy=f2);" + chain(2, 39) + "f39:word(copy=f1);");
        at(CIRCLE, chain(0, 39) + "f39:word(@copy=f39);");
        // An alias is no copy.
        Checks.fine("a:word;b:alias(of=a);c:word(copy=a);");
    }

    /** Fields of the numbers told, the end not among them; each is copied to the next. */
    private static String chain(int from, int to) {
        StringBuilder text = new StringBuilder();
        for (int i = from; i < to; i++) {
            text.append("f").append(i).append(":word(copy=f").append(i + 1).append(");");
        }
        return text.toString();
    }

    private static void firstCounts() {
        stand("9 a 'copy' (the first one of its FIELD, which alone counts, as that of PATHS told twice does)");
        at(CIRCLE, "a:word(@copy=a,copy=b);b:word;");
        at(WRONG_OPTION, "b:word;a:word(copy=b,@copy=a);");
        at(WRONG_OPTION, "a:word(copy=b,@copy=b);b:word(copy=c,copy=a);c:word;");
        at(CIRCLE, "a:word(@copy=b);b:word(copy=a,copy=c);c:word;");
        // Of fields of one path the first one is meant.
        at(CIRCLE, "a:word(@copy=b);b:word(copy=a);b:word;");
        at(NAME_TWICE, "a:word(copy=b);b:word;@b:word(copy=a);");
        at(WRONG_PATH, "a:word(copy=@b);b:long;b:word;");
        at(NAME_TWICE, "a:word(copy=b);b:word;@b:long;");
        at(WRONG_PATH, "a:alias(of=@b);b:object;b:word;");
        at(NAME_TWICE, "a:alias(of=b);b:word;@b:object;");
        at(NAME_TWICE, "a:word(copy=h.y);h:object{x:word;};@h:object{y:word;};");
    }

    private static void limits() {
        stand("10 a second 'limit',");
        at(WRONG_LIMIT, "limit 9;@limit 9;");
        at(WRONG_LIMIT, "limit 9;@limit 8;limit 7;");
        at(WRONG_LIMIT, "limit 40;a:word; @limit 40;");
        at(WRONG_LIMIT, "limit 9;@limit 41;");
        at(WRONG_LIMIT, "limit @41;limit 9;");
        at(WRONG_LIMIT, "a:word;limit @0;limit 9;");
        Checks.fine("limit 9;rule limit:word;limits:word;");
    }

    private static void limitNumbers() {
        stand("or a NUMBER of a limit (at it) that is above 40 or below how many FIELDS there are.");
        Checks.due("40", Checks.with("limit 40;").told(0, 5), 40);
        Checks.due("39", Checks.with("limit 000039;").told(0, 5), 39);
        Checks.due("0", Checks.with("limit 0;").told(0, 5), 0);
        at(WRONG_LIMIT, "limit @41;");
        at(WRONG_LIMIT, "limit @999999;");
        Checks.due("as many as there are", Checks.with("limit 3;o:object{a:word;};b:word;").told(0, 5), 3);
        at(WRONG_LIMIT, "limit @2;o:object{a:word;};b:word;");
        at(WRONG_LIMIT, "o:object{a:word;};b:word;limit \n@2;");
        at(WRONG_LIMIT, "limit @0;a:word;");
        Checks.due("40 of 40", Checks.with(Checks.fields(40, ":word;") + "limit 40;").told(0, 5), 40);
        at(WRONG_LIMIT, Checks.fields(40, ":word;") + "limit @39;");
        // Rules are none of the fields.
        Checks.fine("limit 1;a:word;rule *:word;rule *:word;");
    }

    private static void limitUntold() {
        stand("LIMIT is 40, if none is told.");
        MappingTexts x = Checks.with("", "a:word;", "limit 3;", "");
        Checks.due("of an empty text", x.told(0, 5), 40);
        Checks.due("of a text", x.told(1, 5), 40);
        Checks.due("of one that is told", x.told(2, 5), 3);
        Checks.due("of the next one", x.told(3, 5), 40);
        x.drop();
        x.drop();
        Checks.due("where one was told before", Checks.read(x, "b:word;"), 2);
        Checks.due("it is not told now", x.told(2, 5), 40);
        Checks.due("a text with a fault", Checks.read(x, "limit 3;$"), -11);
        Checks.due("the next one", Checks.read(x, ""), 3);
        Checks.due("has none told", x.told(3, 5), 40);
        Checks.due("a text with a fault behind its limit", Checks.read(x, "limit 3;limit 3;"), -20);
        Checks.due("the next one", Checks.read(x, ""), 4);
        Checks.due("has none told", x.told(4, 5), 40);
    }
}
