/** The tape and what it is cut into, sentence by sentence. */
final class TokenBoundaries {
    private static final int NO_TOKEN = 1, MISPLACED = 2;
    private static final String MARKS = "{}():;,=*.";

    private TokenBoundaries() {
    }

    static void run() {
        tape();
        longest();
        blanks();
        names();
        numbers();
        marks();
    }

    private static void stand(String words) {
        Sentences.stand(Sentences.TERMS, words);
    }

    private static boolean isSmall(char letter) {
        return letter >= 'a' && letter <= 'z';
    }

    private static boolean isDigit(char letter) {
        return letter >= '0' && letter <= '9';
    }

    private static boolean isBlank(char letter) {
        return letter == 10 || letter == 32;
    }

    private static boolean isMark(char letter) {
        return MARKS.indexOf(letter) >= 0;
    }

    private static void tape() {
        stand("THE TAPE has up to 2000 bytes, any.");
        MappingTexts any = new MappingTexts();
        for (int letter = 0; letter < 256; letter++) {
            Checks.due("feed of byte " + letter, any.feed(1, letter), letter + 1);
        }
        String text = Checks.times(" ", 1993) + "a:word;";
        MappingTexts most = new MappingTexts();
        Checks.due("2000 bytes come", Checks.feed(most, text), 2000);
        Checks.due("2000 bytes are there", most.told(0, 1), 2000);
        Checks.due("one more does not come", most.feed(1, ' '), Checks.FULL);
        Checks.due("2000 bytes are read", most.read(), 0);
        Checks.due("the last ones of them", Checks.find(most, "a", 0), 0);
        Checks.faultAt(NO_TOKEN, Checks.times("\n", 1999) + "@$");
        Checks.faultAt(MISPLACED, "@" + Checks.times(";", 2000));
        Checks.faultAt(MISPLACED, Checks.times(" ", 1994) + "a:word@");
    }

    private static void longest() {
        stand("TOKENS, the longest that can be,");
        // A name is not left where a word of the grammar could end.
        for (String name : new String[] {"rules", "rule1", "rule_", "limits", "limit40", "limit_", "wordy"}) {
            MappingTexts x = Checks.with(name + ":word;");
            Checks.due(name + " is one name", x.field(0, 0, 7), name.length());
        }
        Checks.faultAt(MISPLACED, "a:@wordy;");
        Checks.faultAt(MISPLACED, "a:@word1;");
        Checks.faultAt(MISPLACED, "a:word(@storedclosed);");
        Checks.faultAt(MISPLACED, "limit40@;");
        Checks.faultAt(MISPLACED, "rulea@*:word;");
        // Nor is what is too long cut where it would be short enough.
        Checks.faultAt(NO_TOKEN, "@abcdefghijklmn:word;");
        Checks.faultAt(NO_TOKEN, "limit @0000001;");
        Checks.due("12 and 3 are one number", Checks.with("a:long(null=123);").field(0, 0, 2), 123);
        // A number ends where a letter is, a name goes on where a digit is.
        Checks.faultAt(MISPLACED, "a:long(null=1@a);");
        Checks.due("a digit in a name", Checks.with("a1:word;").field(0, 0, 7), 2);
        Checks.due("marks are one byte each", Checks.with("o:object{p:object{};};").told(0, 3), 2);
    }

    private static void blanks() {
        stand("with BLANKS (bytes 10, 32) between where there are some:");
        for (char letter = 0; letter < 256; letter++) {
            String text = letter + "a" + letter + ":" + letter + letter + "word" + letter + ";" + letter;
            if (isBlank(letter)) {
                Checks.fine(text);
                Checks.fine("" + letter);
                Checks.faultAt(MISPLACED, "a" + letter + "@b:word;");
                Checks.faultAt(MISPLACED, "a:long(null=1" + letter + "@2);");
                Checks.faultAt(MISPLACED, "a:@wo" + letter + "rd;");
            } else if (!isSmall(letter) && !isDigit(letter) && !isMark(letter)) {
                Checks.fault(text, NO_TOKEN, 0);
                Checks.fault("a:word;" + letter, NO_TOKEN, 7);
            }
        }
        Checks.fine("a:word;b:object{c:long(null=1,stored);};rule*x:word;");
        Checks.fine(" \n \na\n\n: long (\nstored , null\n=\n1 , copy = b . c\n) \n;b : object{ c : word ; } ; rule a * b : word ; limit\n9 ; \n");
    }

    private static void names() {
        stand("NAMES: a .. z, then a .. z, 0 .. 9, _ , 12 bytes at most;");
        for (char letter = 0; letter < 256; letter++) {
            nameBegunBy(letter);
            nameGoingOnWith(letter);
        }
        for (int length = 1; length < 15; length++) {
            String name = "z_09abcdefghijk".substring(0, length);
            if (length <= 12) {
                MappingTexts x = Checks.with(name + ":word;");
                Checks.due(name, x.field(0, 0, 7), length);
                Checks.same(name, Checks.path(x, 0, 0), name);
            } else {
                Checks.faultAt(NO_TOKEN, "@" + name + ":word;");
            }
        }
        Checks.faultAt(NO_TOKEN, "a:text(by=@abcdefghijklm);");
        Checks.faultAt(NO_TOKEN, "rule a*@abcdefghijklm:word;");
        Checks.due("by of 12", Checks.with("a:text(by=abcdefghijkl);").field(0, 0, 8), 12);
        Checks.fine("rule abcdefghijkl*abcdefghijkl:word;");
        Checks.faultAt(NO_TOKEN, "@" + Checks.times("a", 2000));
    }

    private static void nameBegunBy(char letter) {
        String text = letter + "b:word;";
        if (isSmall(letter)) {
            Checks.due("a name begun by " + letter, Checks.with(text).field(0, 0, 7), 2);
        } else if (isDigit(letter) || isMark(letter)) {
            Checks.fault(text, MISPLACED, 0);
        } else if (!isBlank(letter)) {
            Checks.fault(text, NO_TOKEN, 0);
        }
    }

    private static void nameGoingOnWith(char letter) {
        String text = "a" + letter + ":word;";
        if (isSmall(letter) || isDigit(letter) || letter == '_') {
            MappingTexts x = Checks.with(text);
            Checks.due("a name going on with " + letter, x.field(0, 0, 7), 2);
            Checks.due("its byte", x.letter(0, 0, 1), letter);
        } else if (isMark(letter)) {
            Checks.fault(text, MISPLACED, letter == ':' ? 2 : 1);
        } else if (!isBlank(letter)) {
            Checks.fault(text, NO_TOKEN, 1);
        }
    }

    private static void numbers() {
        stand("NUMBERS: 0 .. 9, 6 at most;");
        for (char letter = 0; letter < 256; letter++) {
            String text = "a:long(null=" + letter + ");";
            if (isDigit(letter)) {
                Checks.due("the number " + letter, Checks.with(text).field(0, 0, 2), letter - '0');
            } else if (isSmall(letter) || isMark(letter)) {
                Checks.fault(text, MISPLACED, 12);
            } else if (!isBlank(letter)) {
                Checks.fault(text, NO_TOKEN, 12);
            }
        }
        int value = 0;
        for (int length = 1; length < 9; length++) {
            String number = "98765432".substring(0, length);
            if (length <= 6) {
                value = value * 10 + 10 - length;
                Checks.due(number, Checks.with("a:date(null=" + number + ");").field(0, 0, 2), value);
                Checks.due("only 0s", Checks.with("a:date(null=" + Checks.times("0", length) + ");").field(0, 0, 2), 0);
            } else {
                Checks.faultAt(NO_TOKEN, "a:date(null=@" + number + ");");
                Checks.faultAt(NO_TOKEN, "limit @" + Checks.times("0", length) + ";");
            }
        }
        Checks.due("the greatest", Checks.with("a:long(null=999999);").field(0, 0, 2), 999999);
        Checks.faultAt(NO_TOKEN, "a:long(null=1@_);");
        Checks.faultAt(NO_TOKEN, "a:long(null=@-1);");
    }

    private static void marks() {
        stand("MARKS: { } ( ) : ; , = * and the point.");
        for (char letter = 0; letter < 256; letter++) {
            if (isMark(letter)) {
                Checks.fault("" + letter, MISPLACED, 0);
                Checks.fault("$" + letter, NO_TOKEN, 0);
            } else if (isSmall(letter)) {
                Checks.fault("" + letter, MISPLACED, 1);
            } else if (isDigit(letter)) {
                Checks.fault("" + letter, MISPLACED, 0);
            } else if (!isBlank(letter)) {
                Checks.fault(MARKS + letter, NO_TOKEN, 10);
            }
        }
        Checks.fine("o:object{t:text(norms,by=x);};a:word(copy=o.t);rule a*:word;");
    }
}
