/** Promises 3 and 4: each fault, its place, and which of several is told. */
public final class FaultsTest {
    private static void fault(String text, int fault, int place) {
        Checks.fault(text, fault, place);
    }

    private static void fine(String text) {
        Checks.fine(text);
    }

    public static void main(String[] args) {
        tokens();
        grammarOfFields();
        grammarOfItems();
        tooMany();
        namesAndOptions();
        bracesAndAliases();
        paths();
        circles();
        limits();
        severalFaults();
        Checks.end();
    }

    private static void tokens() {
        fault("a$", 1, 1);
        fault("A:word;", 1, 0);
        fault("_a:word;", 1, 0);
        fault("a:word;\t", 1, 7);
        fault("a:word;\r\n", 1, 7);
        fault("\u0000", 1, 0);
        fault("a:word;\u00e4", 1, 7);
        fault("a:word;\u00ff", 1, 7);
        fault("abcdefghijkl:word;abcdefghijklm:word;", 1, 18);
        fine("abcdefghijkl:word;");
        fine("a_1z:word;");
        fault("a:long(null=1234567);", 1, 12);
        fault("a:long(null=0000001);", 1, 12);
        fine("a:long(null=999999);");
        fault(";;;$", 1, 3);
        fine(" \n a \n:\n word \n;\n\n ");
        fault("abcdefghijklmn$", 1, 0);
        fault("$abcdefghijklmn", 1, 0);
        fault("1a:word;", 2, 0);
        fault("a:long(null=1a);", 2, 13);
    }

    private static void grammarOfFields() {
        fault("a", 2, 1);
        fault("a  \n", 2, 4);
        fault("a word;", 2, 2);
        fault("a:", 2, 2);
        fault("a:words;", 2, 2);
        fault("a:1;", 2, 2);
        fault("a:word", 2, 6);
        fault("a:word:", 2, 6);
        fault("a:word();", 2, 7);
        fault("a:word(;", 2, 7);
        fault("a:word(stored;", 2, 13);
        fault("a:word(stored,);", 2, 14);
        fault("a:word(stores);", 2, 7);
        fault("a:word(stored=1);", 2, 13);
        fault("a:long(null);", 2, 11);
        fault("a:long(null=);", 2, 12);
        fault("a:long(null=b);", 2, 12);
        fault("a:word(copy=1);", 2, 12);
        fault("a:word(copy=b.);b:word;", 2, 14);
        fault("a:word(copy=.b);b:word;", 2, 12);
        fault("a:word(copy=b b);b:word;", 2, 14);
        fault("a:text(by=a.b);", 2, 11);
        fault("a:text(by=1);", 2, 10);
        fault("a:text(by);", 2, 9);
        fault("a:text(by=x)(norms);", 2, 12);
        fault("a:object{}(stored);", 2, 10);
        fault("a:object{};{}", 2, 11);
        fault("a:object{b:word;}", 2, 17);
        fault("a:object{b:word;", 2, 16);
        fault("a:object{b:word};", 2, 15);
        fault("}", 2, 0);
        fault("a:word;}", 2, 7);
        fault("a:object{};};", 2, 11);
        fine("a:object{};");
        fine("a:object{b:nested{};c:word;};d:word;");
        fine("");
        fine(" ");
    }

    private static void grammarOfItems() {
        fault("rule:word;", 2, 4);
        fault("limit:word;", 2, 5);
        fault("a:object{rule:word;};", 2, 9);
        fault("a:object{limit 5;};", 2, 9);
        fault("a:object{rule b:word;};", 2, 9);
        fault("rule a**:word;", 2, 7);
        fault("rule **:word;", 2, 6);
        fault("rule a b:word;", 2, 7);
        fault("rule *a*:word;", 2, 7);
        fault("rule a*b*:word;", 2, 8);
        fault("rule a*b c:word;", 2, 9);
        fault("rule a.b:word;", 2, 6);
        fault("rule 1:word;", 2, 5);
        fault("rule a*1:word;", 2, 7);
        fault("rule a:wor;", 2, 7);
        fault("rule a:word(stored);", 2, 11);
        fault("rule a:word", 2, 11);
        fault("rule", 2, 4);
        fault("limit", 2, 5);
        fault("limit a;", 2, 6);
        fault("limit 5", 2, 7);
        fault("limit 5 5;", 2, 8);
        fine("rule a:word;rule a*:text;rule *a:long;rule *:bool;rule a*b:nested;rule*a:alias;");
        fine("rule rule:word;rule limit*limit:word;");
        fine("rule a * b : word ;");
        fine("word:word;object:object{alias:alias(of=word);};null:long(null=1);rules:text(by=rule);limit1:word;");
    }

    private static void tooMany() {
        fine(Checks.fields(40, ":word;"));
        fault(Checks.fields(40, ":word;") + "x:word;", 3, Checks.fields(40, ":word;").length());
        fault(Checks.fields(40, ":word;") + "x", 3, Checks.fields(40, ":word;").length());
        fault("o:object{" + Checks.fields(39, ":word;") + "x", 3, 9 + Checks.fields(39, ":word;").length());
        fault("o:object{" + Checks.fields(39, ":word;") + "rule", 2, 9 + Checks.fields(39, ":word;").length());
        fine(Checks.times("rule a:word;", 8));
        fault(Checks.times("rule a:word;", 8) + "rule", 3, 96);
        fault("o:object{" + Checks.times("rule a:word;", 8) + "rule", 2, 9);
        String deep = "a:object{b:object{c:object{d:object{";
        fine(deep + "e:object;};};};};");
        fine(deep + "e:object;f:nested;};};};x:word;};");
        fault(deep + "e:object{", 3, 44);
        fault(deep + "e:word{", 3, 42);
        fine(deep + "};e:object{};};};};f:object{};");
        fine("a:object{b:object{c:object{d:object{};};};};e:object{f:object{g:object{h:object{};};};};");
        fault("a:word;a:word;" + deep + "e:object{", 3, 58);
    }

    private static void namesAndOptions() {
        fault("a:word;a:text;", 4, 7);
        fault("a:word;b:word;a:object{};", 4, 14);
        fault("o:object{a:word;a:word;};", 4, 16);
        fine("o:object{a:word;};p:object{a:word;};a:word;");
        fine("o:object{o:object{o:word;};};");
        fault("h:object{x:word;};h:object{x:word;};", 4, 18);
        fault("a:long(norms);", 5, 7);
        fault("a:word(norms);", 5, 7);
        fault("a:word(by=x);", 5, 7);
        fault("a:object(stored);", 5, 9);
        fault("a:nested(closed);", 5, 9);
        fault("b:word;a:alias(of=b,stored);", 5, 20);
        fault("b:word;a:alias(of=b,copy=b);", 5, 20);
        fault("b:word;a:object(copy=b);", 5, 16);
        fault("b:word;a:word(of=b);", 5, 14);
        fault("a:word(null=1);", 5, 7);
        fault("a:text(null=1);", 5, 7);
        fault("a:object(null=1);", 5, 9);
        fault("a:bool(null=2);", 5, 12);
        fault("a:bool(null=10);", 5, 12);
        fine("a:bool(null=0);b:bool(null=1);c:bool(null=000001);");
        fine("a:long(null=2);b:date(null=999999);");
        fault("a:word(stored,stored);", 5, 14);
        fault("a:long(null=1,null=1);", 5, 14);
        fault("a:bool(null=1,null=7);", 5, 14);
        fault("a:text(by=x,by=x);", 5, 12);
        fault("b:word;a:word(copy=b,copy=b);", 5, 21);
        fault("b:word;a:alias(of=b,of=b);", 5, 20);
        fine("b:word;a:text(by=x,copy=b,norms,closed,stored);c:bool(stored,closed,null=1,copy=b);");
        fine("t:text;a:word(stored,closed,copy=t);b:long(copy=t);c:date(copy=t);");
    }

    private static void bracesAndAliases() {
        fault("a:word{b:long;};", 6, 6);
        fault("a:word{};", 6, 6);
        fault("b:word;a:alias(of=b){};", 6, 20);
        fault("a:alias;", 7, 0);
        fault("b:word;a:alias{};", 7, 7);
        fault("b:word;a:alias(stored);", 7, 7);
        fault("o:object{a:alias;};", 7, 9);
        fault("a:word;a:alias;", 4, 7);
    }

    private static void paths() {
        fault("a:word(copy=b);", 8, 12);
        fault("a:word(copy=b);b:long;", 8, 12);
        fault("a:word(copy=b);b:bool;", 8, 12);
        fault("a:word(copy=b);b:object;", 8, 12);
        fault("a:word(copy=b);b:alias(of=a);", 8, 12);
        fault("a:word(copy=o.b);o:object{};b:word;", 8, 12);
        fault("a:word(copy=b);o:object{b:word;};", 8, 12);
        fault("a:word(copy=rule);", 8, 12);
        fine("a:word(copy=o . b);o:object{b:text;};");
        fine("o:object{a:word(copy=o.b);b:text;};");
        fault("o:object{a:word(copy=b);b:text;};", 8, 21);
        fault("a:alias(of=b);b:object;", 8, 11);
        fault("a:alias(of=a);", 8, 11);
        fault("a:alias(of=b);b:alias(of=c);c:word;", 8, 11);
        fault("a:alias(of=b);", 8, 11);
        fine("a:alias(of=b);b:bool;c:alias(of=d);d:date;e:alias(of=f);f:long;");
        fault("a:word(copy=" + Checks.times("abcdefghijkl.", 5) + "abcdefghijkl);", 8, 12);
        fault("a:word(copy=" + Checks.times("b.", 500) + "b);", 8, 12);
        // The second h is there twice, but the path h.y is a field's all the same.
        fault("z:word(copy=h.y);h:object{x:word;};h:object{y:word;};", 4, 35);
    }

    private static void circles() {
        fault("a:word(copy=a);", 9, 7);
        fault("a:word(copy=b);b:text(copy=a);", 9, 7);
        fault("a:word(copy=b);b:word(copy=c);c:word(copy=b);", 9, 22);
        fault("a:word(stored, copy=b);b:text(copy=c);c:text(copy=a);", 9, 15);
        fine("a:word(copy=b);b:word(copy=c);c:word;d:long(copy=b);");
        // A copy is one, whether or not its field may be copied to.
        fault("a:long(copy=a);", 9, 7);
        fault("a:word(copy=b);b:long(copy=a);", 9, 7);
        // Of copies told twice, and of paths told twice, the first one counts.
        fault("b:word;a:word(copy=b,copy=a);", 5, 21);
        fault("a:word(copy=a,copy=b);b:word;", 9, 7);
        fault("a:word(copy=b);b:word;b:word(copy=a);", 4, 22);
        fault("a:word(copy=b);b:word(copy=a);b:word;", 9, 7);
        fault("a:object(copy=a);", 5, 9);
    }

    private static void limits() {
        fault("limit 5;limit 6;", 10, 8);
        fault("limit 5;a:word;limit 41;", 10, 15);
        fault("limit 41;", 10, 6);
        fault("limit 999999;", 10, 6);
        fault("limit 0;a:word;", 10, 6);
        fault("a:word;b:word;limit 1;", 10, 20);
        fault("limit 1;o:object{b:word;};", 10, 6);
        fine("limit 0;");
        fine("limit 40;");
        fine("limit 000040;");
        fine("a:word;limit 1;");
        fine("limit 40;" + Checks.fields(40, ":word;"));
        fault("limit 39;" + Checks.fields(40, ":word;"), 10, 6);
    }

    private static void severalFaults() {
        fault("a:word;a:word;$", 1, 14);
        fault("a:word;a:word;b", 2, 15);
        fault("limit 0;a:alias;", 10, 6);
        fault("a:alias;limit 0;", 7, 0);
        fault("a:word(copy=b,norms);", 8, 12);
        fault("a:word(norms,copy=b);", 5, 7);
        fault("a:alias(stored);a:word;", 7, 0);
        fault("a:word{a:word;a:word;};", 6, 6);
        fault("a:word(copy=c);c:word;c:alias;", 4, 22);
    }
}
