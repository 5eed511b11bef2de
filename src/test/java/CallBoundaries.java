/** The calls, promise by promise, and in each of them sentence by sentence. */
final class CallBoundaries {
    private static final int BAD = Checks.BAD, NO = Checks.NO, FULL = Checks.FULL;
    private static String promise = "";

    private CallBoundaries() {
    }

    static void run() {
        newObject();
        lastCalls();
        feed();
        read();
        place();
        grow();
        growRefused();
        drop();
        find();
        field();
        letter();
        leaf();
        rule();
        print();
        out();
        take();
        differences();
        difference();
        told();
    }

    private static void promise(String section) {
        promise = section;
    }

    private static void stand(String words) {
        Sentences.stand(promise, words);
    }

    private static void newObject() {
        promise("Promise 1: A new object");
        stand("No VERSIONS.");
        MappingTexts x = new MappingTexts();
        Checks.due("versions", x.told(0, 0), 0);
        Checks.due("bytes of the tape", x.told(0, 1), 0);
        Checks.due("bytes of OUT", x.told(0, 2), 0);
        for (int what = 3; what < 7; what++) {
            Checks.due("of version 0", x.told(0, what), BAD);
        }
        Checks.due("drop", x.drop(), NO);
        Checks.due("print", x.print(0), BAD);
        Checks.due("find", Checks.find(x, "a", 0), BAD);
        Checks.due("grow", Checks.grow(x, "a", 0, 0), BAD);
        Checks.due("rule", Checks.rule(x, "a", 0, 0), BAD);
        Checks.due("the first version", x.read(), 0);
        // What one object has, another one has not.
        Checks.due("versions of another", new MappingTexts().told(0, 0), 0);
    }

    private static void lastCalls() {
        promise("What it is");
        stand("An object is used for at most 512 calls after it has been made; what later calls answer is free.");
        MappingTexts x = new MappingTexts();
        for (int call = 1; call <= 506; call++) {
            Checks.due("call " + call, call % 2 == 1 ? x.feed(1, ' ') : x.told(0, 1), (call + 1) / 2);
        }
        Checks.due("call 507", x.read(), 0);
        Checks.due("call 508", x.feed(7, 0x3b64726f773a61L), 7);
        Checks.due("call 509", x.read(), 1);
        Checks.due("call 510", x.print(1), 7);
        Checks.due("call 511", x.out(6), ';');
        Checks.due("call 512", x.drop(), 1);
        // Later ones need only come to an end.
        for (int call = 513; call < 5000; call++) {
            x.feed(8, 0x3b64726f773a6161L);
            x.read();
            x.drop();
        }
    }

    private static void feed() {
        promise("Promise 2: feed");
        stand("n bytes (1 to 8) of a number, its lowest ones first, come behind THE TAPE: how many it has.");
        String text = "abcdefgh";
        for (int n = 1; n <= 8; n++) {
            MappingTexts x = new MappingTexts();
            Checks.due("feed(" + n + ")", x.feed(n, 0x6867666564636261L), n);
            Checks.due("behind it", x.feed(6, 0x64726f773a6aL), n + 6);
            Checks.due("behind that", x.feed(1, 0xffffffffffffff3bL), n + 7);
            Checks.due("read", x.read(), 0);
            Checks.same("name", Checks.path(x, 0, 0), text.substring(0, n) + "j");
        }
        // A number below 0 is a row of bytes as well, and what is above the n lowest ones is not looked at.
        MappingTexts y = new MappingTexts();
        Checks.due("feed(8) of -1", y.feed(8, -1L), 8);
        Checks.due("read", y.read(), -11);
        Checks.due("feed(1)", y.feed(1, Long.MIN_VALUE | 'a'), 1);
        Checks.due("find", y.read(), -12);
        Checks.due("place", y.place(), 1);
        Checks.due("feed(8) with the highest byte 128", y.feed(8, 0x8020202020202020L), 8);
        Checks.due("read", y.read(), -11);
        Checks.due("place", y.place(), 7);
        feedRefused();
    }

    private static void feedRefused() {
        stand("BAD;");
        MappingTexts x = new MappingTexts();
        x.feed(1, 'a');
        for (int n : Checks.outside(9)) {
            Checks.due("feed(" + n + ")", x.feed(n, 'b'), BAD);
        }
        Checks.due("feed(0)", x.feed(0, 'b'), BAD);
        Checks.due("the tape", x.told(0, 1), 1);
        stand("FULL: above 2000, none comes.");
        for (int n = 1; n <= 8; n++) {
            MappingTexts y = new MappingTexts();
            Checks.feed(y, Checks.times(" ", 2001 - n));
            Checks.due("feed(" + n + ") to 2001", y.feed(n, 0x2424242424242424L), FULL);
            Checks.due("none came", y.told(0, 1), 2001 - n);
            if (n > 1) {
                Checks.due("one less to 2000", y.feed(n - 1, 0x2020202020202020L), 2000);
            }
            Checks.due("feed(8) to 2008", y.feed(8, 0x2424242424242424L), FULL);
            Checks.due("2000 are there", y.told(0, 1), 2000);
            Checks.due("all of them blanks", y.read(), 0);
        }
    }

    private static void read() {
        promise("Promise 3: read");
        stand("THE TAPE, which is empty then, is read as a text: the VERSION;");
        MappingTexts x = new MappingTexts();
        Checks.due("read of an empty tape", x.read(), 0);
        Checks.due("read of a text", Checks.read(x, "a:word;"), 1);
        Checks.due("the tape", x.told(0, 1), 0);
        Checks.due("read again", x.read(), 2);
        Checks.due("which was empty", x.told(2, 3), 0);
        Checks.due("read of a text with a fault", Checks.read(x, "b:word"), -12);
        Checks.due("the tape", x.told(0, 1), 0);
        Checks.due("read of the next one", Checks.read(x, ";"), -12);
        Checks.due("which begins anew", x.place(), 0);
        Checks.due("versions", x.told(0, 0), 3);
        readFaults();
        readFull();
    }

    private static void readFaults() {
        stand("-10 less the FAULT.");
        String[] texts = {"$", ";", Checks.fields(41, ":word;"), "a:word;a:word;", "a:word(norms);", "a:word{};", "a:alias;", "a:word(copy=b);",
            "a:word(copy=a);", "limit 41;"};
        for (int fault = 1; fault <= 10; fault++) {
            MappingTexts x = Checks.with("z:word;");
            Checks.due("fault " + fault, Checks.read(x, texts[fault - 1]), -10 - fault);
            Checks.due("versions", x.told(0, 0), 1);
            Checks.due("no such version", x.told(1, 3), BAD);
            Checks.same("the one that was there", Checks.print(x, 0), "z:word;");
            Checks.due("the next text", Checks.read(x, "y:word;"), 1);
            Checks.same("nothing is left of what had a fault", Checks.print(x, 1), "y:word;");
        }
        readBehindPieces();
    }

    /** A text that breaks off behind one of its tokens leaves nothing behind, whichever that is. */
    private static void readBehindPieces() {
        String[] items = {"o:object{p:nested{a:text(by=x,copy=o.p.b);b:word;};l:bool(null=1);};", "c:alias(of=o.l);", "rule a*b:word;", "limit 40;"};
        StringBuilder piece = new StringBuilder();
        for (String item : items) {
            boolean isText = true;
            for (String token : item.split("(?<=\\W)|(?=\\W)")) {
                MappingTexts x = new MappingTexts();
                Checks.due("read of " + piece, Checks.read(x, piece.toString()), isText ? 0 : -12);
                Checks.due("place of " + piece, x.place(), isText ? NO : piece.length());
                Checks.due("the next text", Checks.read(x, "y:word;"), isText ? 1 : 0);
                Checks.same("the next text", Checks.print(x, isText ? 1 : 0), "y:word;");
                piece.append(token);
                isText = false;
            }
        }
    }

    private static void readFull() {
        stand("FULL: there are 8 (ahead of FAULTS).");
        MappingTexts x = Checks.with("", "", "", "", "", "", "");
        Checks.due("the 8th", Checks.read(x, "h:word;"), 7);
        Checks.due("the 9th", Checks.read(x, "i:word;"), FULL);
        Checks.due("the tape", x.told(0, 1), 0);
        String[] faults = {"$", ";", "a:word;a:word;", "limit 41;"};
        for (String text : faults) {
            Checks.due("the 9th, with a fault", Checks.read(x, text), FULL);
            Checks.due("the tape", x.told(0, 1), 0);
        }
        Checks.due("of an empty tape", x.read(), FULL);
        Checks.same("the 8th", Checks.print(x, 7), "h:word;");
        Checks.due("drop", x.drop(), 7);
        Checks.due("there is room again", Checks.read(x, "j:word;"), 7);
        Checks.same("the 8th", Checks.print(x, 7), "j:word;");
    }

    private static void place() {
        promise("Promise 4: place");
        stand("The place of the FAULT of the latest read();");
        MappingTexts x = new MappingTexts();
        Checks.read(x, "$");
        Checks.due("the first byte", x.place(), 0);
        Checks.read(x, Checks.times(" ", 1999) + "a");
        Checks.due("the end of a full tape", x.place(), 2000);
        Checks.read(x, "a:word;a:word;");
        Checks.due("another", x.place(), 7);
        Checks.due("asked again", x.place(), 7);
        // No other call is a read.
        Checks.feed(x, "  $");
        x.drop();
        x.print(0);
        x.take();
        Checks.grow(x, "$", 0, 0);
        Checks.find(x, "$", 0);
        Checks.rule(x, "$", 0, 0);
        Checks.due("behind other calls", x.place(), 7);
        stand("NO when that had none, or before any.");
        Checks.due("before any", new MappingTexts().place(), NO);
        MappingTexts y = new MappingTexts();
        Checks.feed(y, "$");
        Checks.due("before any, with a tape", y.place(), NO);
        Checks.grow(y, "$", 0, 0);
        Checks.due("before any, behind a grow", y.place(), NO);
        Checks.due("with a fault", Checks.read(y, "$"), -11);
        Checks.due("its place", y.place(), 0);
        Checks.due("without a fault", Checks.read(y, "rule *:word;"), 0);
        Checks.due("its place", y.place(), NO);
        for (int i = 1; i < 7; i++) {
            Checks.read(y, "");
        }
        Checks.due("with a fault", Checks.read(y, "a"), -12);
        Checks.due("the 8th grows", Checks.grow(y, "a", 0, 0), 7);
        Checks.due("the fault is still the latest read's", y.place(), 1);
        Checks.due("FULL is no fault", Checks.read(y, "$"), FULL);
        Checks.due("its place", y.place(), NO);
    }

    private static void grow() {
        promise("Promise 5: grow");
        stand("THE TAPE, which is empty then, has a PATH (as in the grammar, also with BLANKS):");
        MappingTexts x = Checks.with("o:object{p:object;};rule *:word;");
        String[] paths = {"a", " a", "a\n", "o.a", "o . a", "\no\n.\na\n", "o.p.a", "o. p .a"};
        for (String path : paths) {
            Checks.due("grow by " + path, Checks.grow(x, path, 0, 0), 1);
            Checks.due("the tape", x.told(0, 1), 0);
            String plain = path.replaceAll("[ \n]", "");
            Checks.same("its path", Checks.path(x, 1, Checks.find(x, plain, 1)), plain);
            x.drop();
        }
        Checks.due("refused", Checks.grow(x, "q.a", 0, 0), NO);
        Checks.due("the tape", x.told(0, 1), 0);
        Checks.due("refused", Checks.grow(x, "a", 1, 0), BAD);
        Checks.due("the tape", x.told(0, 1), 0);
        stand("the VERSION that comes by GROWING (that told, if nothing grows).");
        Checks.due("it grows", Checks.grow(x, "a", 0, 0), 1);
        Checks.due("nothing grows", Checks.grow(x, "a", 1, 3), 1);
        Checks.due("nothing grows", Checks.grow(x, "o . p", 0, 0), 0);
        Checks.due("it grows", Checks.grow(x, "b", 0, 0), 2);
        Checks.due("it grows", Checks.grow(x, "c", 1, 0), 3);
        Checks.due("nothing grows", Checks.grow(x, "a", 3, 0), 3);
        Checks.due("versions", x.told(0, 0), 4);
        stand("BAD: no such VERSION, what was met;");
        for (int none : Checks.outside(4)) {
            Checks.due("version " + none, Checks.grow(x, "d", none, 0), BAD);
            Checks.due("what was met " + none, Checks.grow(x, "d", 0, none), BAD);
            Checks.due("both", Checks.grow(x, "d", none, none), BAD);
        }
        Checks.due("versions", x.told(0, 0), 4);
    }

    private static void growRefused() {
        stand("NO: it is no PATH (FAULT 1, 2),");
        MappingTexts x = Checks.with("o:object;rule *:word;");
        String[] none = {"", " ", "\n", "$", "a$", "A", "_a", "1", "1a", "a1.1", ".", ".a", "a.", "o.", "o..a", "o a", "o.a b", "a,", "a;", "a:word;", "*",
            "a*", "(a)", "abcdefghijklm", "o.abcdefghijklm", "o. \t a", Checks.times("a", 2000), Checks.times("a.", 1000)};
        for (String path : none) {
            Checks.due("grow by " + path, Checks.grow(Checks.with("o:object;rule *:word;"), path, 0, 0), NO);
        }
        Checks.due("a path longer than any", Checks.grow(x, Checks.times("abcdefghijkl.", 6) + "a", 0, 0), NO);
        Checks.due("a name of 12", Checks.grow(x, "abcdefghijkl", 0, 0), 1);
        stand("no HOLDER is there,");
        MappingTexts y = Checks.with("w:word;o:object;n:nested;a:alias(of=w);rule *:word;");
        Checks.due("within a leaf", Checks.grow(y, "w.x", 0, 0), NO);
        Checks.due("within an alias", Checks.grow(y, "a.x", 0, 0), NO);
        Checks.due("within none", Checks.grow(y, "q.x", 0, 0), NO);
        Checks.due("within none in a holder", Checks.grow(y, "o.q.x", 0, 0), NO);
        Checks.due("within an object", Checks.grow(y, "o.x", 0, 0), 1);
        Checks.due("within a nested", Checks.grow(y, "n.x", 0, 0), 2);
        stand("its last NAME is rule or limit,");
        String[] reserved = {"rule", "limit", "o.rule", "o.limit", "n . rule"};
        for (String path : reserved) {
            Checks.due("grow by " + path, Checks.grow(y, path, 0, 0), NO);
        }
        Checks.due("rules", Checks.grow(y, "rules", 0, 0), 3);
        Checks.due("limi", Checks.grow(y, "o.limi", 0, 0), 4);
        stand("no rule FITS,");
        MappingTexts z = Checks.with("a:word;", "rule b:word;rule *:object;", "rule *:alias;a:word;");
        Checks.due("where there is none", Checks.grow(z, "b", 0, 0), NO);
        Checks.due("where none fits the name", Checks.grow(z, "c", 1, 0), NO);
        Checks.due("where none fits what was met", Checks.grow(Checks.with("rule b:word;"), "b", 0, 3), NO);
        Checks.due("an alias fits nothing", Checks.grow(z, "b", 2, 0), NO);
        Checks.due("where one fits", Checks.grow(z, "b", 1, 0), 3);
        growDeep();
        growToLimit();
        growFull();
    }

    private static void growDeep() {
        stand("or (no matter which) DEPTH would be 5,");
        MappingTexts x = Checks.with("a:object{b:object{c:object{d:object;};};};rule *:object;");
        Checks.due("depth 4", Checks.grow(x, "a.b.c.d.e", 0, 3), 1);
        Checks.due("it is a holder", x.field(1, 4, 0), 5);
        Checks.due("depth 5", Checks.grow(x, "a.b.c.d.e.f", 1, 3), NO);
        Checks.due("depth 5, nothing there", Checks.grow(x, "a.b.c.d.q.f", 1, 3), NO);
        Checks.due("depth 4 again", Checks.grow(x, "a.b.c.d.f", 1, 3), 2);
        Checks.due("depth 3", Checks.grow(x, "a.b.c.f", 1, 3), 3);
        Checks.due("far deeper", Checks.grow(x, Checks.times("a.", 999) + "a", 0, 3), NO);
        // Several of these at once are NO, too: too deep, too many, no rule, no holder.
        Checks.due("all at once", Checks.grow(Checks.with("a:object{b:object{c:object{d:object{e:object;};};};};limit 5;"), "a.b.c.d.e.rule", 0, 0), NO);
    }

    private static void growToLimit() {
        stand("FIELDS above LIMIT;");
        MappingTexts x = Checks.with("a:word;o:object;limit 3;rule *:word;", "limit 0;rule *:word;", "limit 1;rule *:word;");
        Checks.due("to the limit", Checks.grow(x, "o.b", 0, 0), 3);
        Checks.due("above it", Checks.grow(x, "c", 3, 0), NO);
        Checks.due("above it, within", Checks.grow(x, "o.c", 3, 0), NO);
        Checks.due("what is there", Checks.grow(x, "o.b", 3, 0), 3);
        Checks.due("above 0", Checks.grow(x, "a", 1, 0), NO);
        Checks.due("to 1", Checks.grow(x, "a", 2, 0), 4);
        Checks.due("above 1", Checks.grow(x, "b", 4, 0), NO);
        MappingTexts y = Checks.with("rule *:word;" + Checks.fields(39, ":word;"), "rule *:word;limit 40;" + Checks.fields(40, ":word;"));
        Checks.due("to 40", Checks.grow(y, "x", 0, 0), 2);
        Checks.due("they are 40", y.told(2, 3), 40);
        Checks.due("above 40", Checks.grow(y, "y", 2, 0), NO);
        Checks.due("above 40", Checks.grow(y, "y", 1, 0), NO);
    }

    private static void growFull() {
        stand("FULL.");
        MappingTexts x = Checks.with("rule *:word;", "", "", "", "", "", "");
        Checks.due("the 8th", Checks.grow(x, "a", 0, 0), 7);
        Checks.due("the 9th", Checks.grow(x, "b", 0, 0), FULL);
        Checks.due("the tape", x.told(0, 1), 0);
        Checks.due("versions", x.told(0, 0), 8);
        Checks.due("nothing grows", Checks.grow(x, "a", 7, 0), 7);
        Checks.due("NO is ahead", Checks.grow(x, "b", 1, 0), NO);
        Checks.due("drop", x.drop(), 7);
        Checks.due("there is room again", Checks.grow(x, "b", 0, 0), 7);
        Checks.same("and nothing else in it", Checks.print(x, 7), "b:word;rule *:word;");
    }

    private static void drop() {
        promise("Promise 6: drop");
        stand("The latest VERSION goes: how many there are.");
        MappingTexts x = Checks.with("a:word;rule *:word;", "b:text(by=x,norms);rule r:long;limit 9;");
        Checks.due("it grows", Checks.grow(x, "c", 0, 0), 2);
        Checks.due("the one that grew goes", x.drop(), 2);
        Checks.due("it is gone", x.print(2), BAD);
        Checks.due("the next goes", x.drop(), 1);
        Checks.due("it is gone", x.told(1, 3), BAD);
        Checks.same("the first stays", Checks.print(x, 0), "a:word;rule *:word;");
        // What comes in its place has nothing of it.
        Checks.due("a text in its place", Checks.read(x, "b:text;"), 1);
        Checks.due("no options", x.field(1, 0, 1), 0);
        Checks.due("no by", x.field(1, 0, 8), 0);
        Checks.due("no rules", x.told(1, 4), 0);
        Checks.due("no limit", x.told(1, 5), 40);
        Checks.due("drop", x.drop(), 1);
        Checks.due("one that grows in its place", Checks.grow(x, "d", 0, 0), 1);
        Checks.same("printed", Checks.print(x, 1), "a:word;d:word;rule *:word;");
        dropAndReadAnew();
        MappingTexts all = Checks.with("", "", "", "", "", "", "", "");
        for (int left = 7; left >= 0; left--) {
            Checks.due("drop", all.drop(), left);
        }
        Checks.due("all are gone", all.told(0, 3), BAD);
        stand("NO: there is none.");
        Checks.due("behind the last", all.drop(), NO);
        Checks.due("and again", all.drop(), NO);
        Checks.due("versions", all.told(0, 0), 0);
        Checks.due("the first one is 0 again", Checks.read(all, "a:word;"), 0);
        Checks.due("a new object's", new MappingTexts().drop(), NO);
    }

    /** Each field of the second text stands where the first one had one with more to it. */
    private static void dropAndReadAnew() {
        MappingTexts x = Checks.with("o:object{t:text;n:long(null=3,stored);c:text(norms,closed,copy=o.t,by=xyz);a:alias(of=o.t);};z:word;"
            + "rule abc*def:word;rule *x:word;rule y:word;limit 6;");
        x.drop();
        Checks.due("another text", Checks.read(x, "a:object;b:word;c:long;d:text;e:word;f:word;rule g:long;rule h*:long;rule *:long;"), 0);
        int[] kinds = {5, 0, 2, 1, 0, 0};
        for (int field = 0; field < 6; field++) {
            int[] want = {kinds[field], 0, NO, NO, NO, NO, 0, 1, 0, field == 0 ? 0 : 1};
            for (int what = 0; what < 10; what++) {
                Checks.due("field(0, " + field + ", " + what + ") of another text", x.field(0, field, what), want[what]);
            }
        }
        Checks.same("printed", Checks.print(x, 0), "a:object;b:word;c:long;d:text;e:word;f:word;rule g:long;rule h*:long;rule *:long;");
        Checks.due("its leaves", x.told(0, 6), 5);
    }

    private static void find() {
        promise("Promise 7: find");
        stand("The FIELD of the PATH on THE TAPE, which is empty then.");
        MappingTexts x = Checks.with("a:word;o:object{a:word;p:object{a:word;};};b:alias(of=a);", "b:word;");
        String[] paths = {"a", "o", "o.a", "o.p", "o.p.a", "b"};
        for (int field = 0; field < paths.length; field++) {
            Checks.due("find " + paths[field], Checks.find(x, paths[field], 0), field);
            Checks.due("the tape", x.told(0, 1), 0);
        }
        Checks.due("with blanks", Checks.find(x, " o .\np . a\n", 0), 4);
        Checks.due("of another version", Checks.find(x, "b", 1), 0);
        stand("BAD: no such VERSION;");
        for (int none : Checks.outside(2)) {
            Checks.due("find(" + none + ")", Checks.find(x, "a", none), BAD);
            Checks.due("the tape", x.told(0, 1), 0);
        }
        stand("NO: none such.");
        String[] none = {"", " ", "c", "aa", "o.b", "p", "p.a", "o.p.a.a", "a.a", ".a", "a.", "o..a", "o a", "$", "A", "a;", "1", "rule", "abcdefghijklm",
            Checks.times("o.", 999) + "o"};
        for (String path : none) {
            Checks.due("find " + path, Checks.find(Checks.with("a:word;o:object{a:word;p:object{a:word;};};b:alias(of=a);"), path, 0), NO);
        }
        Checks.due("none, and no tape is left", Checks.find(x, "q", 0), NO);
        Checks.due("the tape", x.told(0, 1), 0);
        Checks.due("a path longer than any", Checks.find(x, Checks.times("abcdefghijkl.", 6) + "a", 0), NO);
        Checks.due("does not stand in the way of the next", Checks.find(x, "o.p.a", 0), 4);
        Checks.due("one of the other version alone", Checks.find(x, "a", 1), NO);
        Checks.due("in an empty version", Checks.find(Checks.with(""), "a", 0), NO);
    }

    private static void field() {
        promise("Promise 8: field");
        MappingTexts x = Checks.with("w:word;t:text(by=abcdefghijkl,copy=w);l:long(null=0);d:date(null=999999);b:bool(null=1,copy=t);"
            + "o:object{n:nested{x:word;y:word(stored,closed);};z:text(norms,by=x);};e:nested;a:alias(of=o.n.y);");
        row(x, "Of a FIELD: what = 0 KIND,", 0, 0, 1, 2, 3, 4, 5, 6, 0, 0, 1, 6, 7);
        row(x, "1 OPTIONS (bits by their numbers),", 1, 0, 16 + 32, 8, 8, 8 + 16, 0, 0, 0, 1 + 2, 4 + 32, 0, 64);
        row(x, "2 the number of null (NO without),", 2, NO, NO, 0, 999999, 1, NO, NO, NO, NO, NO, NO, NO);
        row(x, "3 the FIELD of its copy,", 3, NO, 0, NO, NO, 1, NO, NO, NO, NO, NO, NO, NO);
        row(x, "4 of its of (NO without),", 4, NO, NO, NO, NO, NO, NO, NO, NO, NO, NO, NO, 8);
        row(x, "5 its HOLDER (NO: none),", 5, NO, NO, NO, NO, NO, NO, 5, 6, 6, 5, NO, NO);
        row(x, "6 how many FIELDS it has just within,", 6, 0, 0, 0, 0, 0, 2, 2, 0, 0, 0, 0, 0);
        Checks.due("all but itself", Checks.with("o:object{" + Checks.fields(39, ":word;") + "};").field(0, 0, 6), 39);
        row(x, "7 how many bytes its PATH has,", 7, 1, 1, 1, 1, 1, 1, 3, 5, 5, 3, 1, 1);
        String longest = Checks.times("abcdefghijkl:object{", 4) + "abcdefghijkl:word;" + Checks.times("};", 4);
        Checks.due("the longest", Checks.with(longest).field(0, 4, 7), 64);
        row(x, "8 the NAME of by (how many bytes; 0 without),", 8, 0, 12, 0, 0, 0, 0, 0, 0, 0, 1, 0, 0);
        row(x, "9 how many FIELDS a value of it REACHES (0 of no LEAF).", 9, 1, 2, 1, 1, 3, 0, 0, 1, 1, 1, 0, 0);
        stand("BAD: no such VERSION, FIELD, what.");
        for (int what = 0; what < 10; what++) {
            for (int none : Checks.outside(1)) {
                Checks.due("version " + none, x.field(none, 0, what), BAD);
            }
            for (int none : Checks.outside(12)) {
                Checks.due("field " + none, x.field(0, none, what), BAD);
            }
        }
        for (int none : Checks.outside(10)) {
            Checks.due("what " + none, x.field(0, 0, none), BAD);
        }
        Checks.due("a field of an empty version", Checks.with("").field(0, 0, 0), BAD);
    }

    private static void row(MappingTexts x, String words, int what, int... want) {
        stand(words);
        for (int field = 0; field < want.length; field++) {
            Checks.due("field(0, " + field + ", " + what + ")", x.field(0, field, what), want[field]);
        }
    }

    private static void letter() {
        promise("Promise 9: letter");
        stand("Byte i of a FIELD's PATH.");
        MappingTexts x = Checks.with("o_9:object{z0:word;};a:word;");
        String[] paths = {"o_9", "o_9.z0", "a"};
        for (int field = 0; field < paths.length; field++) {
            for (int i = 0; i < paths[field].length(); i++) {
                Checks.due("letter(0, " + field + ", " + i + ")", x.letter(0, field, i), paths[field].charAt(i));
            }
        }
        MappingTexts deep = Checks.with(Checks.times("abcdefghijkl:object{", 4) + "abcdefghijkl:word;" + Checks.times("};", 4));
        Checks.due("the 64th", deep.letter(0, 4, 63), 'l');
        Checks.due("the last point", deep.letter(0, 4, 51), '.');
        stand("BAD.");
        Checks.due("a 65th", deep.letter(0, 4, 64), BAD);
        for (int none : Checks.outside(6)) {
            Checks.due("byte " + none, x.letter(0, 1, none), BAD);
        }
        Checks.due("behind a shorter one's last", x.letter(0, 2, 1), BAD);
        for (int none : Checks.outside(3)) {
            Checks.due("field " + none, x.letter(0, none, 0), BAD);
        }
        for (int none : Checks.outside(1)) {
            Checks.due("version " + none, x.letter(none, 0, 0), BAD);
        }
    }

    private static void leaf() {
        promise("Promise 10: leaf");
        stand("Which LEAF (of a PATH that may be an alias) is meant by a FIELD: itself, or that of its of;");
        MappingTexts x = Checks.with("a:alias(of=o.b);w:word(copy=t);t:text;l:long;d:date;o:object{b:bool;c:alias(of=w);n:nested;};");
        int[][] want = {{0, 6}, {1, 1}, {2, 2}, {3, 3}, {4, 4}, {6, 6}, {7, 1}};
        for (int[] one : want) {
            Checks.due("leaf(0, " + one[0] + ")", x.leaf(0, one[0]), one[1]);
        }
        stand("NO of a HOLDER.");
        Checks.due("of an object", x.leaf(0, 5), NO);
        Checks.due("of a nested", x.leaf(0, 8), NO);
        stand("BAD.");
        for (int none : Checks.outside(9)) {
            Checks.due("field " + none, x.leaf(0, none), BAD);
        }
        for (int none : Checks.outside(1)) {
            Checks.due("version " + none, x.leaf(none, 0), BAD);
        }
    }

    private static void rule() {
        promise("Promise 11: rule");
        stand("The first rule that FITS the NAME on THE TAPE (which is empty then) and what was met: its number, from 0 on.");
        MappingTexts x = Checks.with("rule a*:text;rule a*:long;rule *:word;rule *:bool;rule *:object;rule a:nested;", "rule b:word;");
        Checks.due("a, a text", Checks.rule(x, "a", 0, 0), 0);
        Checks.due("the tape", x.told(0, 1), 0);
        Checks.due("a, a whole number", Checks.rule(x, "a", 0, 1), 1);
        Checks.due("a, a truth", Checks.rule(x, "a", 0, 2), 2);
        Checks.due("a, an object", Checks.rule(x, "a", 0, 3), 4);
        Checks.due("b, a text", Checks.rule(x, "b", 0, 0), 2);
        Checks.due("with blanks", Checks.rule(x, "\n b ", 0, 0), 2);
        Checks.due("a name of 12", Checks.rule(x, "abcdefghijkl", 0, 1), 1);
        Checks.due("of another version", Checks.rule(x, "b", 1, 0), 0);
        // It need be no field's name, nor one that could come.
        Checks.due("rule", Checks.rule(x, "rule", 0, 0), 2);
        Checks.due("the 8th", Checks.rule(Checks.with(Checks.times("rule a:word;", 7) + "rule b:word;"), "b", 0, 0), 7);
        stand("BAD;");
        for (int none : Checks.outside(2)) {
            Checks.due("version " + none, Checks.rule(x, "a", none, 0), BAD);
        }
        for (int none : Checks.outside(4)) {
            Checks.due("what was met " + none, Checks.rule(x, "a", 0, none), BAD);
        }
        Checks.due("the tape", x.told(0, 1), 0);
        stand("NO: none, or it is no NAME.");
        Checks.due("none fits", Checks.rule(x, "c", 1, 0), NO);
        Checks.due("none fits what was met", Checks.rule(x, "b", 1, 3), NO);
        Checks.due("there are none", Checks.rule(Checks.with(""), "a", 0, 0), NO);
        String[] none = {"", " ", "a.b", "a b", "a.", ".a", "1", "1a", "_a", "*", "a*", "A", "$", "a$", "abcdefghijklm", Checks.times("a", 2000)};
        for (String name : none) {
            MappingTexts y = Checks.with("rule *:word;");
            Checks.due("rule for " + name, Checks.rule(y, name, 0, 0), NO);
            Checks.due("the tape", y.told(0, 1), 0);
        }
    }

    private static void print() {
        promise("Promise 12: print");
        stand("A VERSION is PRINTED to OUT: how many bytes.");
        MappingTexts x = Checks.with("", " a:word;", "rule*:word;b:word;");
        Checks.due("of an empty one", x.print(0), 0);
        Checks.due("of OUT", x.told(0, 2), 0);
        Checks.due("of the next", x.print(1), 7);
        Checks.same("OUT", Checks.out(x), "a:word;");
        Checks.due("a longer one", x.print(2), 19);
        Checks.same("OUT", Checks.out(x), "b:word;rule *:word;");
        Checks.due("a shorter one in its place", x.print(1), 7);
        Checks.due("of OUT", x.told(0, 2), 7);
        Checks.due("an empty one in its place", x.print(0), 0);
        Checks.due("of OUT", x.told(0, 2), 0);
        stand("BAD;");
        x.print(1);
        for (int none : Checks.outside(3)) {
            Checks.due("print(" + none + ")", x.print(none), BAD);
        }
        Checks.same("OUT", Checks.out(x), "a:word;");
        printMost();
    }

    /** No text comes to 4000: those that are taken have 2000 bytes, rules without a blank get one, and 7 fields may come. */
    private static void printMost() {
        stand("FULL: above 4000, OUT stays.");
        String rules = "rule*:nested;" + Checks.times("rule*:word;", 7);
        String text = filled(2000 - rules.length()) + rules;
        MappingTexts x = new MappingTexts();
        Checks.due("2000 bytes", Checks.feed(x, text), 2000);
        Checks.due("are read", x.read(), 0);
        Checks.due("and printed", x.print(0), 2008);
        int length = 2008;
        String path = "";
        for (int version = 0; version < 5; version++) {
            path = path + (version == 0 ? "" : ".") + "abcdefghijkl";
            Checks.due("it grows", Checks.grow(x, path, version, 3), version + 1);
            length += version == 0 ? 20 : 22;
            Checks.due("is printed", x.print(version + 1), length);
        }
        Checks.due("it grows beside", Checks.grow(x, "abcdefghijkm", 5, 3), 6);
        Checks.due("it grows within", Checks.grow(x, "abcdefghijkm.abcdefghijkl", 6, 3), 7);
        Checks.due("the longest that can be made here", x.print(7), length + 42);
        Checks.due("of OUT", x.told(0, 2), length + 42);
        Checks.due("its last byte", x.out(length + 41), ';');
        Checks.due("behind it", x.out(length + 42), BAD);
    }

    /** Fields that are printed as they stand, with just so many bytes. */
    private static String filled(int length) {
        StringBuilder text = new StringBuilder("t:text;");
        for (int i = 10; length - text.length() > 140; i++) {
            text.append("abcdefghi_").append(i).append(":text(stored,closed,norms,copy=t,by=abcdefghijkl);");
        }
        for (int parts = 3; parts > 0; parts--) {
            int part = (length - text.length()) / parts;
            String rest = ":text(stored,closed,norms,by=);";
            int by = Math.min(12, part - rest.length() - 1);
            String name = "uvwx".charAt(parts) + Checks.times("y", part - rest.length() - 1 - by);
            text.append(name).append(rest.replace("=", "=" + Checks.times("z", by)));
        }
        return text.toString();
    }

    private static void out() {
        promise("Promise 13: out");
        stand("Byte i of OUT.");
        MappingTexts x = Checks.with("a:long(null=7);");
        x.print(0);
        String text = "a:long(null=7);";
        for (int i = 0; i < text.length(); i++) {
            Checks.due("out(" + i + ")", x.out(i), text.charAt(i));
        }
        x.drop();
        Checks.due("when the version is gone", x.out(0), 'a');
        stand("BAD.");
        for (int none : Checks.outside(text.length())) {
            Checks.due("out(" + none + ")", x.out(none), BAD);
        }
        Checks.due("before any print", new MappingTexts().out(0), BAD);
        MappingTexts y = Checks.with("a:word;", "");
        y.print(0);
        y.print(1);
        Checks.due("of an empty one, where there was one before", y.out(0), BAD);
    }

    private static void take() {
        promise("Promise 14: take");
        stand("OUT, which stays, becomes THE TAPE: how many bytes.");
        MappingTexts x = new MappingTexts();
        Checks.feed(x, "abc");
        Checks.due("an empty OUT", x.take(), 0);
        Checks.due("the tape", x.told(0, 1), 0);
        Checks.due("read", Checks.read(x, "a:word;"), 0);
        x.print(0);
        Checks.feed(x, "what is longer than that");
        Checks.due("in the place of a longer one", x.take(), 7);
        Checks.due("the tape", x.told(0, 1), 7);
        Checks.same("OUT stays", Checks.out(x), "a:word;");
        Checks.due("in the place of itself", x.take(), 7);
        Checks.due("bytes behind it", Checks.feed(x, "b:long;"), 14);
        Checks.same("OUT stays", Checks.out(x), "a:word;");
        Checks.due("read", x.read(), 1);
        Checks.same("both", Checks.print(x, 1), "a:word;b:long;");
        takeMost();
        takeTooMany();
    }

    private static void takeMost() {
        MappingTexts x = new MappingTexts();
        Checks.due("2000 bytes", Checks.feed(x, filled(2000)), 2000);
        Checks.due("are read", x.read(), 0);
        Checks.due("and printed", x.print(0), 2000);
        Checks.due("and taken", x.take(), 2000);
        Checks.due("the tape", x.told(0, 1), 2000);
        Checks.due("no more comes", x.feed(1, ' '), FULL);
        Checks.due("read", x.read(), 1);
        Checks.due("the same", x.differences(0, 1), 0);
    }

    private static void takeTooMany() {
        stand("FULL: they are more than 2000 (THE TAPE stays).");
        String rule = "rule*a:word;";
        MappingTexts x = new MappingTexts();
        Checks.due("2000 bytes", Checks.feed(x, filled(2000 - rule.length()) + rule), 2000);
        Checks.due("are read", x.read(), 0);
        Checks.due("and printed", x.print(0), 2001);
        Checks.due("an empty tape", x.take(), FULL);
        Checks.due("stays", x.told(0, 1), 0);
        Checks.feed(x, "b:long;");
        Checks.due("a tape", x.take(), FULL);
        Checks.due("stays", x.told(0, 1), 7);
        Checks.due("OUT stays", x.told(0, 2), 2001);
        Checks.due("read", x.read(), 1);
        Checks.same("what was there", Checks.print(x, 1), "b:long;");
        Checks.due("less can be taken", x.take(), 7);
    }

    private static void differences() {
        promise("Promise 15: differences");
        stand("How many DIFFERENCES there are.");
        MappingTexts x = Checks.with("", "a:word;b:word;c:word;", "b:long;c:word(stored);d:word;", Checks.fields(40, ":word;"), Checks.fields(40, "_:word;"));
        int[][] want = {{0, 3, 3, 40, 40}, {3, 0, 4, 43, 43}, {3, 4, 0, 43, 43}, {40, 43, 43, 0, 80}, {40, 43, 43, 80, 0}};
        for (int a = 0; a < 5; a++) {
            for (int b = 0; b < 5; b++) {
                Checks.due("differences(" + a + ", " + b + ")", x.differences(a, b), want[a][b]);
            }
        }
        stand("BAD.");
        for (int none : Checks.outside(5)) {
            Checks.due("differences(" + none + ", 0)", x.differences(none, 0), BAD);
            Checks.due("differences(0, " + none + ")", x.differences(0, none), BAD);
            Checks.due("differences(" + none + ", " + none + ")", x.differences(none, none), BAD);
        }
        Checks.due("drop", x.drop(), 4);
        Checks.due("one that is gone", x.differences(0, 4), BAD);
    }

    private static void difference() {
        promise("Promise 16: difference");
        stand("Of DIFFERENCE i: its code (what = 0), the FIELD of a (1), of b (2; NO: none).");
        MappingTexts x = Checks.with("z:word;a:word;b:word;c:word;", "c:word(stored);b:long;d:word;z:word;");
        int[][] want = {{2, 1, NO}, {4, 2, 1}, {3, 3, 0}, {1, NO, 2}};
        for (int i = 0; i < 4; i++) {
            for (int what = 0; what < 3; what++) {
                Checks.due("difference(0, 1, " + i + ", " + what + ")", x.difference(0, 1, i, what), want[i][what]);
            }
        }
        // From the other side, and one after another in any order.
        Checks.due("1 to 0, what came", x.difference(1, 0, 0, 0), 1);
        Checks.due("0 to 1, what went", x.difference(0, 1, 0, 0), 2);
        Checks.due("1 to 0, its field of b", x.difference(1, 0, 0, 2), 1);
        Checks.due("1 to 0, its field of a", x.difference(1, 0, 0, 1), NO);
        MappingTexts most = Checks.with(Checks.fields(40, ":word;"), Checks.fields(40, "_:word;"));
        Checks.due("the 80th", most.difference(0, 1, 79, 2), 9);
        stand("BAD: also no such one.");
        Checks.due("an 81st", most.difference(0, 1, 80, 0), BAD);
        for (int none : Checks.outside(4)) {
            for (int what = 0; what < 3; what++) {
                Checks.due("one of number " + none, x.difference(0, 1, none, what), BAD);
            }
        }
        for (int none : Checks.outside(3)) {
            Checks.due("what " + none, x.difference(0, 1, 0, none), BAD);
        }
        for (int none : Checks.outside(2)) {
            Checks.due("from " + none, x.difference(none, 1, 0, 0), BAD);
            Checks.due("to " + none, x.difference(0, none, 0, 0), BAD);
        }
        Checks.due("where there are none", x.difference(0, 0, 0, 0), BAD);
    }

    private static void told() {
        promise("Promise 17: told");
        stand("What = 0 VERSIONS, 1 bytes of THE TAPE, 2 of OUT;");
        MappingTexts x = new MappingTexts();
        toldOfAll(x, new int[] {0, 0, 0});
        x.feed(7, 0x3b64726f773a61L);
        toldOfAll(x, new int[] {0, 7, 0});
        x.read();
        toldOfAll(x, new int[] {1, 0, 0});
        x.print(0);
        toldOfAll(x, new int[] {1, 0, 7});
        x.take();
        x.feed(1, ' ');
        toldOfAll(x, new int[] {1, 8, 7});
        x.drop();
        toldOfAll(x, new int[] {0, 8, 7});
        stand("of a VERSION: 3 FIELDS, 4 rules, 5 LIMIT, 6 LEAVES.");
        MappingTexts y = Checks.with("", "o:object{w:word;n:nested{t:text;};};a:alias(of=o.w);l:long;d:date;b:bool;rule *:word;rule *:alias;limit 8;",
            Checks.fields(40, ":word;") + Checks.times("rule a:word;", 8));
        int[][] rows = {{0, 0, 40, 0}, {8, 2, 8, 5}, {40, 8, 40, 40}};
        for (int version = 0; version < 3; version++) {
            for (int what = 3; what < 7; what++) {
                Checks.due("told(" + version + ", " + what + ")", y.told(version, what), rows[version][what - 3]);
            }
        }
        stand("BAD.");
        for (int none : Checks.outside(3)) {
            for (int what = 3; what < 7; what++) {
                Checks.due("told(" + none + ", " + what + ")", y.told(none, what), BAD);
            }
        }
        for (int none : Checks.outside(7)) {
            Checks.due("told(0, " + none + ")", y.told(0, none), BAD);
            Checks.due("told(3, " + none + ")", y.told(3, none), BAD);
        }
    }

    /** These are of no version, so whichever is told along with them does not count. */
    private static void toldOfAll(MappingTexts x, int[] want) {
        for (int what = 0; what < 3; what++) {
            Checks.due("told(0, " + what + ")", x.told(0, what), want[what]);
            Checks.due("told(-1, " + what + ")", x.told(-1, what), want[what]);
            Checks.due("told(8, " + what + ")", x.told(8, what), want[what]);
        }
    }
}
