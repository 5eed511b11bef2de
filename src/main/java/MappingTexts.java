/**
 * Texts that say which fields objects have in an index: they are read from a tape, kept as
 * versions, printed back, grown by what is met in objects, and held against one another.
 * Every row is made in the constructor; no call makes an object.
 */
public final class MappingTexts {
    public static final int BAD = -1, NO = -2, FULL = -3;

    private static final int MOST_TAPE = 2000, MOST_OUT = 4000, MOST_VERSIONS = 8;
    private static final int MOST_FIELDS = 40, MOST_RULES = 8, MOST_DEPTH = 4;
    private static final int MOST_NAME = 12, MOST_DIGITS = 6, MOST_MET = 3;
    /** One name more than there are open braces, each with a point before it but the first. */
    private static final int MOST_PATH = (MOST_DEPTH + 1) * (MOST_NAME + 1) - 1;
    private static final int FAULT_BASE = -10;

    private final Letters tape = new Letters(MOST_TAPE);
    private final Letters path = new Letters(MOST_PATH);
    private final Tokens tokens = new Tokens(tape);
    private final Version[] versions = new Version[MOST_VERSIONS];
    private final TextReader reader;
    private final Comparison comparison = new Comparison();
    private Letters printed = new Letters(MOST_OUT);
    private Letters spare = new Letters(MOST_OUT);
    private int versionCount = 0;
    private int faultPlace = NO;

    public MappingTexts() {
        for (int i = 0; i < MOST_VERSIONS; i++) {
            versions[i] = new Version();
        }
        reader = new TextReader(tokens, versions[0]);
    }

    public int feed(int n, long bytes) {
        if (n < 1 || n > 8) {
            return BAD;
        }
        if (!tape.hasRoomFor(n)) {
            return FULL;
        }
        for (int i = 0; i < n; i++) {
            tape.add((int) (bytes >>> (8 * i)) & 255);
        }
        return tape.length();
    }

    public int read() {
        if (versionCount >= MOST_VERSIONS) {
            faultPlace = NO;
            tape.clear();
            return FULL;
        }
        // The row behind the versions takes the text; it counts only if no fault is met.
        Version draft = versions[versionCount];
        int fault = reader.readInto(draft);
        faultPlace = reader.placeOfFault();
        tape.clear();
        if (fault != TextReader.FINE) {
            return FAULT_BASE - fault;
        }
        return keep(draft);
    }

    public int place() {
        return faultPlace;
    }

    public int grow(int version, int met) {
        boolean isPath = takePath();
        if (!isVersion(version) || !isMet(met)) {
            return BAD;
        }
        return isPath ? growByPath(version, met) : NO;
    }

    public int drop() {
        if (versionCount == 0) {
            return NO;
        }
        versionCount--;
        return versionCount;
    }

    public int find(int version) {
        boolean isPath = takePath();
        if (!isVersion(version)) {
            return BAD;
        }
        return isPath ? versions[version].fieldOf(path, path.length()) : NO;
    }

    public int field(int version, int field, int what) {
        if (!isField(version, field)) {
            return BAD;
        }
        Version within = versions[version];
        Field told = within.fields[field];
        switch (what) {
            case 0: return told.kind;
            case 1: return told.options;
            case 2: return told.nullNumber;
            case 3: return told.copy;
            case 4: return told.of;
            case 5: return told.holder;
            case 6: return within.countWithin(field);
            case 7: return told.path.length();
            case 8: return told.by.length();
            case 9: return within.countReached(field);
            default: return BAD;
        }
    }

    public int letter(int version, int field, int i) {
        if (!isField(version, field)) {
            return BAD;
        }
        return versions[version].fields[field].path.at(i);
    }

    public int leaf(int version, int field) {
        if (!isField(version, field)) {
            return BAD;
        }
        Field told = versions[version].fields[field];
        return Kinds.isLeaf(told.kind) ? field : told.of;
    }

    public int rule(int version, int met) {
        boolean isName = takePath() && tokens.count() == 1;
        if (!isVersion(version) || !isMet(met)) {
            return BAD;
        }
        return isName ? versions[version].ruleFor(path, 0, met) : NO;
    }

    public int print(int version) {
        if (!isVersion(version)) {
            return BAD;
        }
        spare.clear();
        versions[version].printTo(spare);
        if (spare.isOver()) {
            return FULL;
        }
        Letters old = printed;
        printed = spare;
        spare = old;
        return printed.length();
    }

    public int out(int i) {
        return printed.at(i);
    }

    public int take() {
        if (printed.length() > MOST_TAPE) {
            return FULL;
        }
        tape.copyFrom(printed);
        return tape.length();
    }

    public int differences(int a, int b) {
        if (!isVersion(a) || !isVersion(b)) {
            return BAD;
        }
        comparison.compare(versions[a], versions[b]);
        return comparison.count;
    }

    public int difference(int a, int b, int i, int what) {
        int count = differences(a, b);
        if (count < 0 || i < 0 || i >= count) {
            return BAD;
        }
        switch (what) {
            case 0: return comparison.codes[i];
            case 1: return comparison.fieldsOfA[i];
            case 2: return comparison.fieldsOfB[i];
            default: return BAD;
        }
    }

    public int told(int version, int what) {
        switch (what) {
            case 0: return versionCount;
            case 1: return tape.length();
            case 2: return printed.length();
            default: return isVersion(version) ? toldOf(versions[version], what) : BAD;
        }
    }

    private static int toldOf(Version version, int what) {
        switch (what) {
            case 3: return version.fieldCount;
            case 4: return version.ruleCount;
            case 5: return version.limit;
            case 6: return version.countLeaves();
            default: return BAD;
        }
    }

    private boolean isVersion(int version) {
        return version >= 0 && version < versionCount;
    }

    private boolean isField(int version, int field) {
        return isVersion(version) && field >= 0 && field < versions[version].fieldCount;
    }

    private static boolean isMet(int met) {
        return met >= 0 && met <= MOST_MET;
    }

    private int keep(Version draft) {
        draft.sortByPath();
        versionCount++;
        return versionCount - 1;
    }

    /** Empties the tape into the path; a path too long for any field is as good as none. */
    private boolean takePath() {
        boolean isPath = tokens.readAll() == Tokens.ALL_READ && tokens.arePath();
        path.clear();
        if (isPath) {
            tokens.joinPath(0, path);
        }
        tape.clear();
        return isPath && !path.isOver();
    }

    private int growByPath(int version, int met) {
        Version old = versions[version];
        if (old.fieldOf(path, path.length()) >= 0) {
            return version;
        }
        int kind = old.kindToCome(path, met);
        if (kind < 0) {
            return NO;
        }
        if (versionCount >= MOST_VERSIONS) {
            return FULL;
        }
        Version draft = versions[versionCount];
        draft.growFrom(old, path, kind);
        return keep(draft);
    }

    /** A row of bytes with a most that it holds; what does not fit is left out and remembered. */
    private static final class Letters {
        private final byte[] bytes;
        private int length = 0;
        private boolean over = false;

        Letters(int most) {
            bytes = new byte[Math.max(most, 0)];
        }

        int length() {
            return length;
        }

        boolean isOver() {
            return over;
        }

        boolean hasRoomFor(int more) {
            return more <= bytes.length - length;
        }

        /** BAD outside of the row. */
        int at(int i) {
            return i >= 0 && i < length ? bytes[i] & 255 : BAD;
        }

        void clear() {
            length = 0;
            over = false;
        }

        void add(int letter) {
            if (length >= bytes.length) {
                over = true;
                return;
            }
            bytes[length] = (byte) letter;
            length++;
        }

        void addWord(String word) {
            for (int i = 0; i < word.length(); i++) {
                add(word.charAt(i));
            }
        }

        void addPart(Letters other, int from, int count) {
            if (from < 0 || count < 0 || from > other.length - count) {
                return;
            }
            if (count > bytes.length - length) {
                over = true;
                return;
            }
            System.arraycopy(other.bytes, from, bytes, length, count);
            length += count;
        }

        void addAll(Letters other) {
            addPart(other, 0, other.length);
        }

        /** Numbers of the grammar have no sign and at most MOST_DIGITS digits. */
        void addNumber(int number) {
            int unit = 1;
            for (int i = 1; i < MOST_DIGITS; i++) {
                unit = number / unit >= 10 ? unit * 10 : unit;
            }
            for (int left = unit; left > 0; left = left / 10) {
                add('0' + number / left % 10);
            }
        }

        void copyFrom(Letters other) {
            clear();
            addPart(other, 0, other.length);
        }

        boolean holdsAt(int from, Letters part) {
            if (from < 0 || from > length - part.length) {
                return false;
            }
            for (int i = 0; i < part.length; i++) {
                if (bytes[from + i] != part.bytes[i]) {
                    return false;
                }
            }
            return true;
        }

        /** Whether this row is the first bytes, as many as told, of another. */
        boolean isStartOf(Letters other, int count) {
            return length == count && other.holdsAt(0, this);
        }

        boolean sameAs(Letters other) {
            return length == other.length && other.holdsAt(0, this);
        }

        boolean isWordAt(int from, int count, String word) {
            if (count != word.length()) {
                return false;
            }
            for (int i = 0; i < count; i++) {
                if (at(from + i) != word.charAt(i)) {
                    return false;
                }
            }
            return true;
        }

        int lastPoint() {
            for (int i = length - 1; i >= 0; i--) {
                if (bytes[i] == '.') {
                    return i;
                }
            }
            return NO;
        }

        /** Where a path's last name begins. */
        int nameStart() {
            return Math.max(lastPoint(), -1) + 1;
        }

        int compareWith(Letters other) {
            int shared = Math.min(length, other.length);
            for (int i = 0; i < shared; i++) {
                if (bytes[i] != other.bytes[i]) {
                    return (bytes[i] & 255) - (other.bytes[i] & 255);
                }
            }
            return length - other.length;
        }
    }

    /** What the grammar's words mean; kinds and options are numbered as they stand in it. */
    private static final class Kinds {
        static final int WORD = 0, TEXT = 1, LONG = 2, DATE = 3, BOOL = 4;
        static final int OBJECT = 5, NESTED = 6, ALIAS = 7, KINDS = 8;
        static final int STORED = 0, CLOSED = 1, NORMS = 2, NULL = 3, COPY = 4, BY = 5, OF = 6;
        static final int OPTIONS = 7;

        static String kindWord(int kind) {
            switch (kind) {
                case WORD: return "word";
                case TEXT: return "text";
                case LONG: return "long";
                case DATE: return "date";
                case BOOL: return "bool";
                case OBJECT: return "object";
                case NESTED: return "nested";
                default: return "alias";
            }
        }

        static String optionWord(int option) {
            switch (option) {
                case STORED: return "stored";
                case CLOSED: return "closed";
                case NORMS: return "norms";
                case NULL: return "null";
                case COPY: return "copy";
                case BY: return "by";
                default: return "of";
            }
        }

        static boolean isLeaf(int kind) {
            return kind >= WORD && kind <= BOOL;
        }

        static boolean isHolder(int kind) {
            return kind == OBJECT || kind == NESTED;
        }

        static boolean mayHave(int kind, int option) {
            switch (option) {
                case NORMS:
                case BY: return kind == TEXT;
                case NULL: return kind >= LONG && kind <= BOOL;
                case OF: return kind == ALIAS;
                default: return isLeaf(kind);
            }
        }

        /** Whether the path of a copy, or else of an of, may lead to a field of the kind. */
        static boolean mayBeMeant(int kind, int option) {
            return option == COPY ? kind == WORD || kind == TEXT : isLeaf(kind);
        }

        static boolean fits(int kind, int met) {
            switch (kind) {
                case WORD: return met >= 0 && met <= 2;
                case TEXT: return met == 0;
                case LONG:
                case DATE: return met == 1;
                case BOOL: return met == 2;
                case OBJECT:
                case NESTED: return met == 3;
                default: return false;
            }
        }
    }

    private static final class Field {
        final Letters path = new Letters(MOST_PATH);
        final Letters by = new Letters(MOST_NAME);
        int kind = 0;
        int options = 0;
        int nullNumber = NO;
        int copy = NO;
        int of = NO;
        int holder = NO;
        int depth = 0;

        void begin() {
            path.clear();
            by.clear();
            kind = 0;
            options = 0;
            nullNumber = NO;
            copy = NO;
            of = NO;
            holder = NO;
            depth = 0;
        }

        boolean has(int option) {
            return (options >> option & 1) != 0;
        }

        /** Fields from the new one's number on are one further than they were. */
        void copyFrom(Field other, int added) {
            path.copyFrom(other.path);
            by.copyFrom(other.by);
            kind = other.kind;
            options = other.options;
            nullNumber = other.nullNumber;
            copy = moved(other.copy, added);
            of = moved(other.of, added);
            holder = moved(other.holder, added);
            depth = other.depth;
        }

        private static int moved(int field, int added) {
            return field >= added ? field + 1 : field;
        }
    }

    private static final class Rule {
        final Letters head = new Letters(MOST_NAME);
        final Letters tail = new Letters(MOST_NAME);
        boolean star = false;
        int kind = 0;

        void begin() {
            head.clear();
            tail.clear();
            star = false;
            kind = 0;
        }

        void copyFrom(Rule other) {
            head.copyFrom(other.head);
            tail.copyFrom(other.tail);
            star = other.star;
            kind = other.kind;
        }

        boolean fits(Letters path, int from, int met) {
            int length = path.length() - from;
            int fixed = head.length() + tail.length();
            if (length < fixed || length > fixed && !star) {
                return false;
            }
            return Kinds.fits(kind, met) && path.holdsAt(from, head)
                && path.holdsAt(path.length() - tail.length(), tail);
        }

        void printTo(Letters out) {
            out.addWord("rule ");
            out.addAll(head);
            if (star) {
                out.add('*');
            }
            out.addAll(tail);
            out.add(':');
            out.addWord(Kinds.kindWord(kind));
            out.add(';');
        }
    }

    private static final class Version {
        final Field[] fields = new Field[MOST_FIELDS];
        final Rule[] rules = new Rule[MOST_RULES];
        /** The fields' numbers by their paths' bytes. */
        final int[] order = new int[MOST_FIELDS];
        int fieldCount = 0;
        int ruleCount = 0;
        int limit = MOST_FIELDS;

        Version() {
            for (int i = 0; i < MOST_FIELDS; i++) {
                fields[i] = new Field();
            }
            for (int i = 0; i < MOST_RULES; i++) {
                rules[i] = new Rule();
            }
        }

        void begin() {
            fieldCount = 0;
            ruleCount = 0;
            limit = MOST_FIELDS;
        }

        /** The field whose path is the first bytes of the one told; the first of several. */
        int fieldOf(Letters path, int length) {
            for (int i = 0; i < fieldCount; i++) {
                if (fields[i].path.isStartOf(path, length)) {
                    return i;
                }
            }
            return NO;
        }

        int ruleFor(Letters path, int from, int met) {
            for (int i = 0; i < ruleCount; i++) {
                if (rules[i].fits(path, from, met)) {
                    return i;
                }
            }
            return NO;
        }

        int countWithin(int holder) {
            int count = 0;
            for (int i = 0; i < fieldCount; i++) {
                count += fields[i].holder == holder ? 1 : 0;
            }
            return count;
        }

        int countLeaves() {
            int count = 0;
            for (int i = 0; i < fieldCount; i++) {
                count += Kinds.isLeaf(fields[i].kind) ? 1 : 0;
            }
            return count;
        }

        /** Copies never go in a circle here, so that no field is counted twice. */
        int countReached(int field) {
            if (field < 0 || field >= fieldCount || !Kinds.isLeaf(fields[field].kind)) {
                return 0;
            }
            int at = field;
            for (int count = 1; count < fieldCount; count++) {
                at = fields[at].copy;
                if (at < 0 || at >= fieldCount) {
                    return count;
                }
            }
            return fieldCount;
        }

        /** The kind that a rule tells for a path that no field has yet; NO if none may come. */
        int kindToCome(Letters path, int met) {
            int from = path.nameStart();
            int length = path.length() - from;
            boolean reserved = path.isWordAt(from, length, "rule") || path.isWordAt(from, length, "limit");
            if (reserved || fieldCount >= limit || fieldCount >= MOST_FIELDS || !hasPlaceFor(path)) {
                return NO;
            }
            int rule = ruleFor(path, from, met);
            return rule < 0 ? NO : rules[rule].kind;
        }

        private boolean hasPlaceFor(Letters path) {
            int point = path.lastPoint();
            if (point < 0) {
                return true;
            }
            int holder = fieldOf(path, point);
            return holder >= 0 && Kinds.isHolder(fields[holder].kind) && fields[holder].depth < MOST_DEPTH;
        }

        private int endOf(int holder) {
            if (holder < 0 || holder >= fieldCount) {
                return fieldCount;
            }
            for (int i = holder + 1; i < fieldCount; i++) {
                if (fields[i].depth <= fields[holder].depth) {
                    return i;
                }
            }
            return fieldCount;
        }

        /** The old version must have room for a field more. */
        void growFrom(Version old, Letters path, int kind) {
            int holder = old.fieldOf(path, path.lastPoint());
            int added = old.endOf(holder);
            fieldCount = Math.min(old.fieldCount + 1, MOST_FIELDS);
            for (int i = 0; i < fieldCount; i++) {
                if (i < added) {
                    fields[i].copyFrom(old.fields[i], added);
                } else if (i > added) {
                    fields[i].copyFrom(old.fields[i - 1], added);
                } else {
                    beginField(i, holder);
                    fields[i].path.copyFrom(path);
                    fields[i].kind = kind;
                }
            }
            ruleCount = old.ruleCount;
            for (int i = 0; i < ruleCount; i++) {
                rules[i].copyFrom(old.rules[i]);
            }
            limit = old.limit;
        }

        /** Its path is that of its holder with a point, for its own name to come behind. */
        void beginField(int field, int holder) {
            fields[field].begin();
            if (holder >= 0 && holder < field) {
                fields[field].holder = holder;
                fields[field].depth = fields[holder].depth + 1;
                fields[field].path.addPart(fields[holder].path, 0, fields[holder].path.length());
                fields[field].path.add('.');
            }
        }

        void sortByPath() {
            for (int i = 0; i < fieldCount; i++) {
                int at = i;
                for (int j = i; j > 0 && comesBefore(i, order[j - 1]); j--) {
                    order[j] = order[j - 1];
                    at = j - 1;
                }
                order[at] = i;
            }
        }

        private boolean comesBefore(int field, int other) {
            return fields[field].path.compareWith(fields[other].path) < 0;
        }

        void printTo(Letters out) {
            int depth = 0;
            for (int i = 0; i < fieldCount; i++) {
                if (i > 0) {
                    printBetween(out, depth, fields[i].depth);
                }
                depth = fields[i].depth;
                printHead(out, fields[i]);
            }
            if (fieldCount > 0) {
                printBetween(out, depth, 0);
            }
            for (int i = 0; i < ruleCount; i++) {
                rules[i].printTo(out);
            }
            if (limit != MOST_FIELDS) {
                out.addWord("limit ");
                out.addNumber(limit);
                out.add(';');
            }
        }

        /** Either the next field is within the one before, or that one ends, and holders with it. */
        private static void printBetween(Letters out, int depth, int next) {
            if (next > depth) {
                out.add('{');
                return;
            }
            out.add(';');
            for (int i = next; i < depth; i++) {
                out.addWord("};");
            }
        }

        private void printHead(Letters out, Field field) {
            int from = field.path.nameStart();
            out.addPart(field.path, from, field.path.length() - from);
            out.add(':');
            out.addWord(Kinds.kindWord(field.kind));
            char before = '(';
            for (int option = 0; option < Kinds.OPTIONS; option++) {
                if (field.has(option)) {
                    out.add(before);
                    printOption(out, field, option);
                    before = ',';
                }
            }
            if (before == ',') {
                out.add(')');
            }
        }

        private void printOption(Letters out, Field field, int option) {
            out.addWord(Kinds.optionWord(option));
            if (option < Kinds.NULL) {
                return;
            }
            out.add('=');
            switch (option) {
                case Kinds.NULL: out.addNumber(field.nullNumber); break;
                case Kinds.BY: out.addAll(field.by); break;
                case Kinds.COPY: printPath(out, field.copy); break;
                default: printPath(out, field.of); break;
            }
        }

        private void printPath(Letters out, int field) {
            if (field >= 0 && field < fieldCount) {
                out.addPart(fields[field].path, 0, fields[field].path.length());
            }
        }
    }

    /** The tape's tokens; the kind of a mark is its own byte. */
    private static final class Tokens {
        static final int ALL_READ = -1;
        static final int NONE = 0, NAME = 1, NUMBER = 2;

        private final Letters text;
        private final int[] kinds = new int[MOST_TAPE];
        private final int[] places = new int[MOST_TAPE];
        private final int[] lengths = new int[MOST_TAPE];
        private int count = 0;

        Tokens(Letters text) {
            this.text = text;
        }

        int count() {
            return count;
        }

        int textLength() {
            return text.length();
        }

        int kindAt(int token) {
            return token >= 0 && token < count ? kinds[token] : NONE;
        }

        int placeAt(int token) {
            return token >= 0 && token < count ? places[token] : text.length();
        }

        /** The place where no token can be, or ALL_READ. */
        int readAll() {
            count = 0;
            int kind = NONE;
            for (int at = 0; at < text.length(); at++) {
                int letter = text.at(at);
                if (goesOn(kind, letter)) {
                    if (!lengthenLast(kind)) {
                        return placeAt(count - 1);
                    }
                } else if (letter == ' ' || letter == '\n') {
                    kind = NONE;
                } else {
                    kind = kindBegunBy(letter);
                    if (kind == NONE) {
                        return at;
                    }
                    begin(kind, at);
                }
            }
            return ALL_READ;
        }

        private void begin(int kind, int at) {
            if (count < MOST_TAPE) {
                kinds[count] = kind;
                places[count] = at;
                lengths[count] = 1;
                count++;
            }
        }

        private boolean lengthenLast(int kind) {
            if (count < 1) {
                return false;
            }
            lengths[count - 1]++;
            return lengths[count - 1] <= (kind == NAME ? MOST_NAME : MOST_DIGITS);
        }

        private static boolean goesOn(int kind, int letter) {
            return kind == NAME && (isSmall(letter) || isDigit(letter) || letter == '_')
                || kind == NUMBER && isDigit(letter);
        }

        private static int kindBegunBy(int letter) {
            if (isSmall(letter)) {
                return NAME;
            }
            if (isDigit(letter)) {
                return NUMBER;
            }
            switch (letter) {
                case '{':
                case '}':
                case '(':
                case ')':
                case ':':
                case ';':
                case ',':
                case '=':
                case '*':
                case '.': return letter;
                default: return NONE;
            }
        }

        private static boolean isSmall(int letter) {
            return letter >= 'a' && letter <= 'z';
        }

        private static boolean isDigit(int letter) {
            return letter >= '0' && letter <= '9';
        }

        boolean isWord(int token, String word) {
            return kindAt(token) == NAME && text.isWordAt(places[token], lengths[token], word);
        }

        int numberAt(int token) {
            int number = 0;
            for (int i = 0; kindAt(token) == NUMBER && i < lengths[token]; i++) {
                number = number * 10 + text.at(places[token] + i) - '0';
            }
            return number;
        }

        void addTo(Letters letters, int token) {
            if (token >= 0 && token < count) {
                letters.addPart(text, places[token], lengths[token]);
            }
        }

        boolean arePath() {
            for (int token = 0; token < count; token++) {
                if (kinds[token] != (token % 2 == 0 ? NAME : '.')) {
                    return false;
                }
            }
            return count % 2 == 1;
        }

        /** A path goes on as long as a point follows its name; the tokens must be known to be one. */
        void joinPath(int first, Letters into) {
            for (int token = first; token < count; token += 2) {
                addTo(into, token);
                if (kindAt(token + 1) != '.') {
                    return;
                }
                into.add('.');
            }
        }
    }

    /** Goes along the grammar, a state for each place in it, one token after the other. */
    private static final class TextReader {
        static final int FINE = 0;
        private static final int NO_TOKEN = 1, MISPLACED = 2, TOO_MANY = 3, NAME_TWICE = 4, WRONG_OPTION = 5;
        private static final int WRONG_BRACE = 6, NO_OF = 7, WRONG_PATH = 8, CIRCLE = 9, WRONG_LIMIT = 10;
        private static final int ITEM = 0, COLON = 1, KIND = 2, BEHIND_KIND = 3, OPTION = 4, EQUALS = 5;
        private static final int VALUE = 6, BEHIND_VALUE = 7, PATH_NAME = 8, IN_PATH = 9, BEHIND_OPTIONS = 10;
        private static final int PATTERN = 11, BEHIND_HEAD = 12, BEHIND_STAR = 13, RULE_COLON = 14;
        private static final int RULE_KIND = 15, LIMIT_NUMBER = 16, SEMICOLON = 17;

        private final Tokens tokens;
        private final Letters path = new Letters(MOST_PATH);
        private final int[] open = new int[MOST_DEPTH];
        private final int[] copyTokens = new int[MOST_FIELDS];
        private final int[] copyPathTokens = new int[MOST_FIELDS];
        private final int[] ofPathTokens = new int[MOST_FIELDS];
        private Version version;
        private Field field;
        private Rule rule;
        private int state = ITEM;
        private int depth = 0;
        private int fieldToken = 0;
        private int option = 0;
        private boolean again = false;
        private int limitToken = NO;
        private int fault = FINE;
        private int place = NO;

        TextReader(Tokens tokens, Version version) {
            this.tokens = tokens;
            this.version = version;
            field = version.fields[0];
            rule = version.rules[0];
        }

        int placeOfFault() {
            return place;
        }

        /** The fault, or FINE. */
        int readInto(Version draft) {
            begin(draft);
            int wrong = tokens.readAll();
            if (wrong != Tokens.ALL_READ) {
                return stop(NO_TOKEN, wrong);
            }
            for (int token = 0; token < tokens.count(); token++) {
                int number = step(token);
                if (number != FINE) {
                    return stop(number, tokens.placeAt(token));
                }
            }
            if (state != ITEM || depth > 0) {
                return stop(MISPLACED, tokens.textLength());
            }
            lookAtPaths();
            lookAtCircles();
            lookAtLimit();
            return fault;
        }

        private void begin(Version draft) {
            version = draft;
            version.begin();
            state = ITEM;
            depth = 0;
            limitToken = NO;
            fault = FINE;
            place = NO;
        }

        /** What ends the reading outweighs whatever has been blamed before. */
        private int stop(int number, int at) {
            fault = number;
            place = at;
            return number;
        }

        private void blame(int number, int at) {
            if (fault == FINE || at < place || at == place && number < fault) {
                fault = number;
                place = at;
            }
        }

        private int step(int token) {
            switch (state) {
                case ITEM: return isFieldName(token) ? stepFieldName(token) : stepItem(token);
                case COLON: return expect(token, ':', KIND);
                case KIND: return stepKind(token);
                case BEHIND_KIND: return stepBehindKind(token);
                case OPTION: return stepOption(token);
                case EQUALS: return expect(token, '=', VALUE);
                case VALUE: return stepValue(token);
                case BEHIND_VALUE: return stepBehindValue(token);
                case PATH_NAME: return expect(token, Tokens.NAME, IN_PATH);
                case IN_PATH: return stepInPath(token);
                case BEHIND_OPTIONS: return stepHeadEnd(token);
                case PATTERN: return stepPattern(token);
                case BEHIND_HEAD: return stepBehindHead(token);
                case BEHIND_STAR: return stepBehindStar(token);
                case RULE_COLON: return expect(token, ':', RULE_KIND);
                case RULE_KIND: return stepRuleKind(token);
                case LIMIT_NUMBER: return stepLimitNumber(token);
                default: return expect(token, ';', ITEM);
            }
        }

        private int expect(int token, int kind, int next) {
            if (tokens.kindAt(token) != kind) {
                return MISPLACED;
            }
            state = next;
            return FINE;
        }

        private boolean isFieldName(int token) {
            return tokens.kindAt(token) == Tokens.NAME && !tokens.isWord(token, "rule") && !tokens.isWord(token, "limit");
        }

        /** What else may stand where a field may: the end of a holder, and in none of them a rule or a limit. */
        private int stepItem(int token) {
            if (depth > 0) {
                int wrong = expect(token, '}', SEMICOLON);
                depth -= wrong == FINE ? 1 : 0;
                return wrong;
            }
            if (tokens.kindAt(token) != Tokens.NAME) {
                return MISPLACED;
            }
            return tokens.isWord(token, "rule") ? stepRuleWord() : stepLimitWord(token);
        }

        private int stepFieldName(int token) {
            int number = version.fieldCount;
            if (number >= MOST_FIELDS) {
                return TOO_MANY;
            }
            version.beginField(number, depth > 0 ? open[depth - 1] : NO);
            field = version.fields[number];
            fieldToken = token;
            tokens.addTo(field.path, token);
            if (isNameTwice(number)) {
                blame(NAME_TWICE, tokens.placeAt(token));
            }
            version.fieldCount++;
            state = COLON;
            return FINE;
        }

        private boolean isNameTwice(int number) {
            for (int i = 0; i < number; i++) {
                Field earlier = version.fields[i];
                if (earlier.holder == field.holder && earlier.path.sameAs(field.path)) {
                    return true;
                }
            }
            return false;
        }

        private int kindOf(int token) {
            for (int kind = 0; kind < Kinds.KINDS; kind++) {
                if (tokens.isWord(token, Kinds.kindWord(kind))) {
                    return kind;
                }
            }
            return NO;
        }

        private int optionOf(int token) {
            for (int number = 0; number < Kinds.OPTIONS; number++) {
                if (tokens.isWord(token, Kinds.optionWord(number))) {
                    return number;
                }
            }
            return NO;
        }

        private int stepKind(int token) {
            int kind = kindOf(token);
            if (kind < 0) {
                return MISPLACED;
            }
            field.kind = kind;
            state = BEHIND_KIND;
            return FINE;
        }

        private int stepBehindKind(int token) {
            if (tokens.kindAt(token) == '(') {
                state = OPTION;
                return FINE;
            }
            return stepHeadEnd(token);
        }

        private int stepHeadEnd(int token) {
            int mark = tokens.kindAt(token);
            if (mark != '{' && mark != ';') {
                return MISPLACED;
            }
            if (mark == '{' && depth >= MOST_DEPTH) {
                return TOO_MANY;
            }
            if (field.kind == Kinds.ALIAS && !field.has(Kinds.OF)) {
                blame(NO_OF, tokens.placeAt(fieldToken));
            }
            if (mark == '{') {
                openHolder(token);
            }
            state = ITEM;
            return FINE;
        }

        private void openHolder(int token) {
            if (!Kinds.isHolder(field.kind)) {
                blame(WRONG_BRACE, tokens.placeAt(token));
            }
            if (depth < MOST_DEPTH) {
                open[depth] = version.fieldCount - 1;
                depth++;
            }
        }

        private int stepOption(int token) {
            option = optionOf(token);
            if (option < 0) {
                return MISPLACED;
            }
            again = field.has(option);
            if (again || !Kinds.mayHave(field.kind, option)) {
                blame(WRONG_OPTION, tokens.placeAt(token));
            }
            field.options |= 1 << option;
            noteToken(option == Kinds.COPY, copyTokens, token);
            state = option < Kinds.NULL ? BEHIND_VALUE : EQUALS;
            return FINE;
        }

        /** Of an option told twice the first one counts. */
        private void noteToken(boolean wanted, int[] row, int token) {
            int number = version.fieldCount - 1;
            if (wanted && !again && number >= 0 && number < row.length) {
                row[number] = token;
            }
        }

        private int stepValue(int token) {
            if (tokens.kindAt(token) != (option == Kinds.NULL ? Tokens.NUMBER : Tokens.NAME)) {
                return MISPLACED;
            }
            state = BEHIND_VALUE;
            if (option == Kinds.NULL) {
                takeNull(token);
            } else if (option == Kinds.BY) {
                field.by.clear();
                tokens.addTo(field.by, token);
            } else {
                noteToken(option == Kinds.COPY, copyPathTokens, token);
                noteToken(option == Kinds.OF, ofPathTokens, token);
                state = IN_PATH;
            }
            return FINE;
        }

        private void takeNull(int token) {
            field.nullNumber = tokens.numberAt(token);
            if (field.kind == Kinds.BOOL && field.nullNumber > 1) {
                blame(WRONG_OPTION, tokens.placeAt(token));
            }
        }

        private int stepBehindValue(int token) {
            if (tokens.kindAt(token) == ',') {
                state = OPTION;
                return FINE;
            }
            return expect(token, ')', BEHIND_OPTIONS);
        }

        private int stepInPath(int token) {
            if (tokens.kindAt(token) == '.') {
                state = PATH_NAME;
                return FINE;
            }
            return stepBehindValue(token);
        }

        private int stepRuleWord() {
            if (version.ruleCount >= MOST_RULES) {
                return TOO_MANY;
            }
            rule = version.rules[version.ruleCount];
            rule.begin();
            version.ruleCount++;
            state = PATTERN;
            return FINE;
        }

        private int stepPattern(int token) {
            if (tokens.kindAt(token) == Tokens.NAME) {
                tokens.addTo(rule.head, token);
                state = BEHIND_HEAD;
                return FINE;
            }
            return stepStar(token);
        }

        private int stepStar(int token) {
            int wrong = expect(token, '*', BEHIND_STAR);
            rule.star = wrong == FINE;
            return wrong;
        }

        private int stepBehindHead(int token) {
            return tokens.kindAt(token) == '*' ? stepStar(token) : expect(token, ':', RULE_KIND);
        }

        private int stepBehindStar(int token) {
            if (tokens.kindAt(token) == Tokens.NAME) {
                tokens.addTo(rule.tail, token);
                state = RULE_COLON;
                return FINE;
            }
            return expect(token, ':', RULE_KIND);
        }

        private int stepRuleKind(int token) {
            int kind = kindOf(token);
            if (kind < 0) {
                return MISPLACED;
            }
            rule.kind = kind;
            state = SEMICOLON;
            return FINE;
        }

        private int stepLimitWord(int token) {
            if (limitToken >= 0) {
                blame(WRONG_LIMIT, tokens.placeAt(token));
            }
            state = LIMIT_NUMBER;
            return FINE;
        }

        private int stepLimitNumber(int token) {
            if (limitToken < 0) {
                limitToken = token;
            }
            return expect(token, Tokens.NUMBER, SEMICOLON);
        }

        /** Paths may lead to fields that stand behind them, so they wait for the whole text. */
        private void lookAtPaths() {
            for (int i = 0; i < version.fieldCount; i++) {
                Field from = version.fields[i];
                if (from.has(Kinds.COPY)) {
                    from.copy = fieldMeant(copyPathTokens[i], Kinds.COPY);
                }
                if (from.has(Kinds.OF)) {
                    from.of = fieldMeant(ofPathTokens[i], Kinds.OF);
                }
            }
        }

        private int fieldMeant(int token, int by) {
            path.clear();
            tokens.joinPath(token, path);
            int meant = path.isOver() ? NO : version.fieldOf(path, path.length());
            if (meant < 0 || !Kinds.mayBeMeant(version.fields[meant].kind, by)) {
                blame(WRONG_PATH, tokens.placeAt(token));
            }
            return meant;
        }

        private void lookAtCircles() {
            for (int i = 0; i < version.fieldCount; i++) {
                if (isInCircle(i)) {
                    blame(CIRCLE, tokens.placeAt(copyTokens[i]));
                }
            }
        }

        private boolean isInCircle(int start) {
            int at = start;
            for (int steps = 0; steps < version.fieldCount; steps++) {
                at = version.fields[at].copy;
                if (at < 0 || at == start) {
                    return at == start;
                }
            }
            return false;
        }

        private void lookAtLimit() {
            if (limitToken < 0) {
                return;
            }
            version.limit = tokens.numberAt(limitToken);
            if (version.limit > MOST_FIELDS || version.limit < version.fieldCount) {
                blame(WRONG_LIMIT, tokens.placeAt(limitToken));
            }
        }
    }

    /** The differences from one version to another, by going along both orders at once. */
    private static final class Comparison {
        private static final int CAME = 1, WENT = 2, CHANGED = 3, TO_INDEX_ANEW = 4;

        final int[] codes = new int[2 * MOST_FIELDS];
        final int[] fieldsOfA = new int[2 * MOST_FIELDS];
        final int[] fieldsOfB = new int[2 * MOST_FIELDS];
        int count = 0;

        void compare(Version a, Version b) {
            count = 0;
            int nextOfA = 0;
            int nextOfB = 0;
            int steps = a.fieldCount + b.fieldCount;
            for (int i = 0; i < steps && (nextOfA < a.fieldCount || nextOfB < b.fieldCount); i++) {
                int side = sideOfNext(a, nextOfA, b, nextOfB);
                int ofA = side <= 0 ? a.order[nextOfA] : NO;
                int ofB = side >= 0 ? b.order[nextOfB] : NO;
                addRow(codeOf(a, ofA, b, ofB), ofA, ofB);
                nextOfA += side <= 0 ? 1 : 0;
                nextOfB += side >= 0 ? 1 : 0;
            }
        }

        /** Below 0: the next path is one of a alone; above 0: of b alone; 0: of both. */
        private static int sideOfNext(Version a, int nextOfA, Version b, int nextOfB) {
            if (nextOfA >= a.fieldCount) {
                return 1;
            }
            if (nextOfB >= b.fieldCount) {
                return -1;
            }
            Letters path = a.fields[a.order[nextOfA]].path;
            return path.compareWith(b.fields[b.order[nextOfB]].path);
        }

        private void addRow(int code, int ofA, int ofB) {
            if (code != 0 && count < codes.length) {
                codes[count] = code;
                fieldsOfA[count] = ofA;
                fieldsOfB[count] = ofB;
                count++;
            }
        }

        private static int codeOf(Version a, int ofA, Version b, int ofB) {
            if (ofA < 0) {
                return CAME;
            }
            if (ofB < 0) {
                return WENT;
            }
            Field old = a.fields[ofA];
            Field now = b.fields[ofB];
            int differing = old.options ^ now.options;
            int heavy = 1 << Kinds.CLOSED | 1 << Kinds.NORMS | 1 << Kinds.BY;
            if (old.kind != now.kind || (differing & heavy) != 0 || !old.by.sameAs(now.by)) {
                return TO_INDEX_ANEW;
            }
            boolean changed = differing != 0 || old.nullNumber != now.nullNumber
                || !isSamePath(a, old.copy, b, now.copy) || !isSamePath(a, old.of, b, now.of);
            return changed ? CHANGED : 0;
        }

        private static boolean isSamePath(Version a, int ofA, Version b, int ofB) {
            if (ofA < 0 || ofB < 0) {
                return ofA == ofB;
            }
            return a.fields[ofA].path.sameAs(b.fields[ofB].path);
        }
    }
}
