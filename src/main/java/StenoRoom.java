/**
 * A court stenographers' room: strokes of a chord keyboard are read into translations by a book of
 * outlines, the translations are written as a text, and the fewest strokes for a text are planned.
 */
public final class StenoRoom {
    public static final int NONE = -1;

    private static final int CANNOT_BE_WRITTEN = -2;

    private static final int MOST_ENTRIES = 60;
    private static final int OUTLINE_STROKES = 5;
    private static final int TEXT_BYTES = 16;
    private static final int RECORD_STROKES = 300;
    private static final int TAPE_BYTES = 80;
    private static final int FEED_BYTES = 20;
    private static final int PLAN_BYTES = 60;
    private static final int PAIR_FACTOR = 64;

    private static final String KEYS = "STKPWHRAO*EUFRPBLGTSDZ";
    private static final int KEY_COUNT = 22;
    private static final int FIRST_RIGHT_KEY = 12;
    private static final int ALL_KEYS = 0x3fffff;
    private static final int MIDDLE_KEYS = 0xf80;

    private static final int WORD = 0;
    private static final int PREFIX = 1;
    private static final int SUFFIX = 2;
    private static final int STOP = 3;
    private static final int COMMA = 4;
    private static final int GLUE = 5;
    private static final int CAPITAL = 6;
    private static final int JOIN = 7;
    private static final int UPPER = 8;

    private static final int NO_WAY = 0x7fffffff;
    /** Above every count and number of entries in a plan. */
    private static final int MOST_STEPS = 64;

    private final Tape tape;
    private final Book entries;
    private final Reading record;
    private final Page page;
    private final Transcript transcript;
    private final Planner planner;
    private final Runs runs;
    private final Chord chord;
    private final int[] outline;

    public StenoRoom() {
        tape = new Tape();
        entries = new Book();
        record = new Reading(entries);
        // nothing is longer than a raw stroke of all keys and the blank ahead of it
        page = new Page(entries, RECORD_STROKES * (KEY_COUNT + 1));
        transcript = new Transcript(entries, record, page);
        planner = new Planner(entries);
        runs = new Runs(entries);
        chord = new Chord();
        outline = new int[OUTLINE_STROKES];
    }

    public int feed(int a, int b, int c, int d, int e) {
        if (!tape.hasRoom(FEED_BYTES)) {
            return NONE;
        }
        tape.add(a);
        tape.add(b);
        tape.add(c);
        tape.add(d);
        tape.add(e);
        return tape.size();
    }

    public int entry(int a, int b, int c, int d, int e, int kind, int n) {
        int strokes = layOutline(a, b, c, d, e);
        if (strokes == 0 || !Book.takesLength(kind, n) || n > tape.size()) {
            return NONE;
        }
        boolean taken = tapeFits(kind, n) && !entries.isFull() && !entries.hasOutline(outline, strokes);
        if (taken) {
            entries.add(outline, strokes, kind, tape, n);
            readAnew(0);
        }
        // Whatever has come as far as the bytes of the tape uses them up, refused or not.
        tape.wipe();
        return taken ? entries.size() - 1 : NONE;
    }

    public boolean drop(int k) {
        if (!entries.has(k)) {
            return false;
        }
        entries.remove(k);
        readAnew(0);
        return true;
    }

    public int stroke(int keys) {
        if (!isStroke(keys) || record.isFull()) {
            return NONE;
        }
        record.put(record.size(), keys);
        transcript.forget();
        return record.size();
    }

    public int back() {
        return cut(record.size() - 1);
    }

    public boolean correct(int i, int keys) {
        if (!record.has(i) || !isStroke(keys)) {
            return false;
        }
        record.replace(i, keys);
        readAnew(i);
        return true;
    }

    public boolean insert(int i, int keys) {
        boolean there = i == record.size() || record.has(i);
        if (!there || !isStroke(keys) || record.isFull()) {
            return false;
        }
        record.put(i, keys);
        readAnew(i);
        return true;
    }

    public int cut(int i) {
        if (!record.has(i)) {
            return NONE;
        }
        int keys = record.keysAt(i);
        record.remove(i);
        readAnew(i);
        return keys;
    }

    public int count(int what) {
        transcript.settle();
        switch (what) {
            case 0: return record.size();
            case 1: return transcript.size();
            case 2: return transcript.raws();
            case 3: return page.size();
            case 4: return entries.size();
            case 5: return tape.size();
            case 6: return page.shift();
            case 7: return page.link();
            case 8: return planner.plannedEntries();
            case 9: return planner.plannedStrokes();
            default: return NONE;
        }
    }

    public int told(int t, int what) {
        transcript.settle();
        if (t < 0 || t >= transcript.size()) {
            return NONE;
        }
        switch (what) {
            case 0: return transcript.entryOf(t);
            case 1: return transcript.firstOf(t);
            case 2: return transcript.strokesOf(t);
            case 3: return transcript.lengthAhead(t);
            case 4: return transcript.lengthBehind(t);
            default: return NONE;
        }
    }

    public int octet(int i) {
        transcript.settle();
        return page.byteAt(i);
    }

    public int of(int i) {
        transcript.settle();
        return transcript.ownerOf(i);
    }

    public int written(int k, int i) {
        if (!record.has(k)) {
            return NONE;
        }
        chord.spell(record.keysAt(k));
        return chord.byteAt(i);
    }

    public int plan(int n) {
        if (n < 1 || n > PLAN_BYTES || n > tape.size()) {
            return NONE;
        }
        planner.take(tape, n);
        tape.wipe();
        if (!planner.tookWords()) {
            return NONE;
        }
        return planner.make() ? planner.plannedStrokes() : CANNOT_BE_WRITTEN;
    }

    public int planned(int i) {
        return planner.plannedAt(i);
    }

    public int clear() {
        return planner.clearness();
    }

    public int together(int a, int b) {
        if (!entries.has(a) || !entries.has(b)) {
            return NONE;
        }
        runs.gather(a);
        return runs.runInto(b) ? 1 : 0;
    }

    public int pair(int i) {
        return i < 0 ? NONE : runs.pairAt(i);
    }

    public int book(int k, int what) {
        if (!entries.has(k)) {
            return NONE;
        }
        if (what >= 20) {
            return entries.letterAt(k, what - 20);
        }
        if (what >= 10) {
            return entries.strokeAt(k, what - 10);
        }
        switch (what) {
            case 0: return entries.kindOf(k);
            case 1: return entries.strokesOf(k);
            case 2: return entries.lengthOf(k);
            case 3:
                transcript.settle();
                return transcript.countOf(k);
            default: return NONE;
        }
    }

    private void readAnew(int from) {
        record.unread(from);
        transcript.forget();
    }

    /** Answers how many strokes the outline has; 0 if these numbers are none. */
    private int layOutline(int a, int b, int c, int d, int e) {
        outline[0] = a;
        outline[1] = b;
        outline[2] = c;
        outline[3] = d;
        outline[4] = e;
        int strokes = 0;
        for (int i = 0; i < OUTLINE_STROKES; i++) {
            if (strokes == i && isStroke(outline[i])) {
                strokes++;
            } else if (outline[i] != 0) {
                return 0;
            }
        }
        return strokes;
    }

    private boolean tapeFits(int kind, int n) {
        for (int i = 0; i < n; i++) {
            if (!Book.takesByte(kind, tape.byteAt(i))) {
                return false;
            }
        }
        return true;
    }

    private static boolean isStroke(int keys) {
        return keys > 0 && keys <= ALL_KEYS;
    }

    private static boolean isSmall(int octet) {
        return octet >= 'a' && octet <= 'z';
    }

    private static boolean isLetter(int octet) {
        return octet >= 'a' && octet <= 'z' || octet >= 'A' && octet <= 'Z';
    }

    private static int smallOf(int letter) {
        return letter >= 'A' && letter <= 'Z' ? letter - 'A' + 'a' : letter;
    }

    private static boolean isVowel(int small) {
        return small == 'a' || small == 'e' || small == 'i' || small == 'o' || small == 'u';
    }

    /** The bytes that are fed and wait to be taken. */
    private static final class Tape {
        private final byte[] bytes = new byte[TAPE_BYTES];
        private int size;

        int size() {
            return size;
        }

        boolean hasRoom(int n) {
            return n <= TAPE_BYTES - size;
        }

        void add(int four) {
            for (int shift = 24; shift >= 0; shift -= 8) {
                if (size < TAPE_BYTES) {
                    bytes[size] = (byte) (four >> shift);
                    size++;
                }
            }
        }

        int byteAt(int i) {
            return i >= 0 && i < size ? bytes[i] & 255 : NONE;
        }

        void wipe() {
            size = 0;
        }
    }

    /** One stroke spelled by the letters of its keys. */
    private static final class Chord {
        private final byte[] letters = new byte[KEY_COUNT];
        private int size;

        void spell(int keys) {
            size = 0;
            boolean dashDue = (keys & MIDDLE_KEYS) == 0;
            for (int key = 0; key < KEYS.length(); key++) {
                if ((keys >> key & 1) == 1) {
                    if (dashDue && key >= FIRST_RIGHT_KEY) {
                        put('-');
                        dashDue = false;
                    }
                    put(KEYS.charAt(key));
                }
            }
        }

        int size() {
            return size;
        }

        int byteAt(int i) {
            return i >= 0 && i < size ? letters[i] : NONE;
        }

        private void put(int octet) {
            if (size < KEY_COUNT) {
                letters[size] = (byte) octet;
                size++;
            }
        }
    }

    /** The entries, in flat rows that are made once, so that no call makes objects. */
    private static final class Book {
        private final int[] kinds = new int[MOST_ENTRIES];
        private final int[] strokeCounts = new int[MOST_ENTRIES];
        private final int[] strokes = new int[MOST_ENTRIES * OUTLINE_STROKES];
        private final int[] lengths = new int[MOST_ENTRIES];
        private final byte[] letters = new byte[MOST_ENTRIES * TEXT_BYTES];
        private int size;

        static boolean takesLength(int kind, int n) {
            switch (kind) {
                case WORD:
                case PREFIX:
                case SUFFIX:
                case GLUE:
                    return n >= 1 && n <= TEXT_BYTES;
                case STOP:
                case COMMA:
                    return n == 1;
                case CAPITAL:
                case JOIN:
                case UPPER:
                    return n == 0;
                default:
                    return false;
            }
        }

        static boolean takesByte(int kind, int octet) {
            if (kind != STOP && kind != COMMA) {
                return isSmall(octet);
            }
            return octet == '.' || octet == ',' || octet == ';'
                || octet == ':' || octet == '?' || octet == '!';
        }

        int size() {
            return size;
        }

        boolean isFull() {
            return size >= MOST_ENTRIES;
        }

        boolean has(int k) {
            return k >= 0 && k < size;
        }

        int kindOf(int k) {
            return k >= 0 && k < size ? kinds[k] : NONE;
        }

        int strokesOf(int k) {
            return k >= 0 && k < size ? strokeCounts[k] : 0;
        }

        int lengthOf(int k) {
            return k >= 0 && k < size ? lengths[k] : 0;
        }

        int strokeAt(int k, int i) {
            boolean there = k >= 0 && k < size && i >= 0 && i < strokeCounts[k];
            return there ? strokes[k * OUTLINE_STROKES + i] : NONE;
        }

        int letterAt(int k, int i) {
            boolean there = k >= 0 && k < size && i >= 0 && i < lengths[k];
            return there ? letters[k * TEXT_BYTES + i] : NONE;
        }

        boolean hasOutline(int[] row, int n) {
            for (int k = 0; k < size; k++) {
                if (strokeCounts[k] == n && isOutlineAt(k, row, 0)) {
                    return true;
                }
            }
            return false;
        }

        /** Compares from the last stroke on, for there most outlines differ while a record is read. */
        boolean isOutlineAt(int k, int[] row, int from) {
            int n = strokesOf(k);
            if (from < 0 || from > row.length - n) {
                return false;
            }
            for (int i = n - 1; i >= 0; i--) {
                if (row[from + i] != strokes[k * OUTLINE_STROKES + i]) {
                    return false;
                }
            }
            return true;
        }

        /** Whether the first so many letters of entry k stand in the row. */
        boolean areLettersAt(int k, int n, byte[] row, int from) {
            if (n > lengthOf(k) || from < 0 || from > row.length - n) {
                return false;
            }
            for (int i = 0; i < n; i++) {
                if (row[from + i] != letters[k * TEXT_BYTES + i]) {
                    return false;
                }
            }
            return true;
        }

        void add(int[] row, int n, int kind, Tape tape, int length) {
            if (size >= MOST_ENTRIES || n > row.length || n > OUTLINE_STROKES || length > TEXT_BYTES) {
                return;
            }
            for (int i = 0; i < n; i++) {
                strokes[size * OUTLINE_STROKES + i] = row[i];
            }
            for (int i = 0; i < length; i++) {
                letters[size * TEXT_BYTES + i] = (byte) tape.byteAt(i);
            }
            kinds[size] = kind;
            strokeCounts[size] = n;
            lengths[size] = length;
            size++;
        }

        void remove(int k) {
            if (k < 0 || k >= size) {
                return;
            }
            int next = k + 1;
            int rest = size - next;
            System.arraycopy(kinds, next, kinds, k, rest);
            System.arraycopy(strokeCounts, next, strokeCounts, k, rest);
            System.arraycopy(lengths, next, lengths, k, rest);
            System.arraycopy(strokes, next * OUTLINE_STROKES, strokes, k * OUTLINE_STROKES,
                rest * OUTLINE_STROKES);
            System.arraycopy(letters, next * TEXT_BYTES, letters, k * TEXT_BYTES, rest * TEXT_BYTES);
            size--;
        }
    }

    /**
     * A row of strokes and how it is read. For each stroke it keeps the translation that the stroke
     * ended when it came. The translations ahead of that one are those that stood when the stroke
     * ahead of its first one had come; so these rows hold the reading after every stroke, a stroke
     * taken back needs no reading anew, and a change in the middle only that of what follows.
     */
    private static final class Reading {
        private final Book book;
        private final int[] keys = new int[RECORD_STROKES];
        private final int[] firsts = new int[RECORD_STROKES];
        private final int[] entries = new int[RECORD_STROKES];
        private int size;
        private int readSoFar;

        Reading(Book book) {
            this.book = book;
        }

        int size() {
            return size;
        }

        boolean isFull() {
            return size >= RECORD_STROKES;
        }

        boolean has(int i) {
            return i >= 0 && i < size;
        }

        int keysAt(int i) {
            return i >= 0 && i < size ? keys[i] : NONE;
        }

        /** The entry of the translation that stroke i ended when it came. */
        int entryAt(int i) {
            return i >= 0 && i < size ? entries[i] : NONE;
        }

        /** The first stroke of the translation that stroke i ended when it came. */
        int firstAt(int i) {
            return i >= 0 && i < size ? firsts[i] : NONE;
        }

        void empty() {
            size = 0;
            readSoFar = 0;
        }

        void put(int i, int stroke) {
            if (i < 0 || i > size || size >= RECORD_STROKES) {
                return;
            }
            System.arraycopy(keys, i, keys, i + 1, size - i);
            keys[i] = stroke;
            size++;
        }

        void replace(int i, int stroke) {
            if (i >= 0 && i < size) {
                keys[i] = stroke;
            }
        }

        void remove(int i) {
            if (i < 0 || i >= size) {
                return;
            }
            System.arraycopy(keys, i + 1, keys, i, size - i - 1);
            size--;
        }

        void unread(int from) {
            readSoFar = Math.min(readSoFar, from);
        }

        void read() {
            for (int i = Math.max(readSoFar, 0); i < size; i++) {
                readStroke(i);
            }
            readSoFar = size;
        }

        private void readStroke(int i) {
            int lengths = lengthsAt(i);
            int longest = 0;
            int taken = NONE;
            for (int k = 0; k < book.size(); k++) {
                int n = book.strokesOf(k);
                boolean fits = n > longest && (lengths >> n & 1) == 1;
                if (fits && book.isOutlineAt(k, keys, i - n + 1)) {
                    longest = n;
                    taken = k;
                }
            }
            entries[i] = taken;
            firsts[i] = taken == NONE ? i : i - longest + 1;
        }

        /** Bit n is set if the last n strokes up to stroke i are whole translations and that stroke. */
        private int lengthsAt(int i) {
            int bits = 0;
            int start = i;
            for (int n = 1; n <= OUTLINE_STROKES && start >= 0; n++) {
                if (i - start + 1 == n) {
                    bits |= 1 << n;
                    start = start > 0 ? firsts[start - 1] : NONE;
                }
            }
            return bits;
        }
    }

    /** A text that is written, with what waits for the next writing: shift and link. */
    private static final class Page {
        private static final int AS_IT_IS = 0;
        private static final int Y_BECOMES_I = 1;
        private static final int WITH_E = 2;
        private static final int E_GOES = 3;
        private static final int LAST_ONCE_MORE = 4;

        private final Book book;
        private final byte[] bytes;
        private int size;
        private int shift;
        private int link;
        private int lastWordLength;
        private int lastWordVowels;

        Page(Book book, int most) {
            this.book = book;
            bytes = new byte[Math.max(most, 0)];
        }

        int size() {
            return size;
        }

        int shift() {
            return shift;
        }

        int link() {
            return link;
        }

        int byteAt(int i) {
            return i >= 0 && i < size ? bytes[i] : NONE;
        }

        void empty() {
            size = 0;
            shift = 0;
            link = 0;
        }

        void writeRaw(Chord chord) {
            putBlank();
            for (int i = 0; i < chord.size(); i++) {
                put(chord.byteAt(i));
            }
        }

        void writeEntry(int k, boolean behindGlue) {
            switch (book.kindOf(k)) {
                case WORD:
                    writeText(k);
                    break;
                case PREFIX:
                    writeText(k);
                    link = 1;
                    break;
                case SUFFIX:
                    if (endsByLetter()) {
                        joinSuffix(k);
                    } else {
                        writeText(k);
                    }
                    break;
                case GLUE:
                    link = behindGlue ? 1 : link;
                    writeText(k);
                    break;
                case STOP:
                    writeMark(k);
                    shift = 1;
                    break;
                case COMMA:
                    writeMark(k);
                    break;
                case CAPITAL:
                    shift = 1;
                    break;
                case JOIN:
                    link = 1;
                    break;
                case UPPER:
                    shift = 2;
                    break;
                default:
                    break;
            }
        }

        void writeText(int k) {
            putBlank();
            for (int i = 0; i < book.lengthOf(k); i++) {
                int letter = book.letterAt(k, i);
                boolean capital = shift == 2 || shift == 1 && i == 0;
                put(capital && isSmall(letter) ? letter - 'a' + 'A' : letter);
            }
            shift = 0;
        }

        /** Joins a suffix to the last word; only asked for where the text ends by a letter. */
        void joinSuffix(int k) {
            int begins = book.letterAt(k, 0);
            boolean isS = begins == 's' && book.lengthOf(k) == 1;
            measureLastWord(isVowel(begins));
            int last = smallFromEnd(0);
            switch (ruleFor(last, smallFromEnd(1), begins, isS)) {
                case Y_BECOMES_I:
                    size--;
                    put('i');
                    if (isS) {
                        put('e');
                    }
                    break;
                case WITH_E:
                    put('e');
                    break;
                case E_GOES:
                    size--;
                    break;
                case LAST_ONCE_MORE:
                    put(last);
                    break;
                default:
                    break;
            }
            for (int i = 0; i < book.lengthOf(k); i++) {
                put(book.letterAt(k, i));
            }
            link = 0;
        }

        boolean isAt(byte[] row, int from, int to) {
            if (from < 0 || to > row.length || to - from != size) {
                return false;
            }
            for (int i = 0; i < size; i++) {
                if (row[from + i] != bytes[i]) {
                    return false;
                }
            }
            return true;
        }

        private int ruleFor(int last, int ahead, int begins, boolean isS) {
            if (last == 'y' && lastWordLength >= 2 && !isVowel(ahead) && begins != 'i') {
                return Y_BECOMES_I;
            }
            if (isS && hisses(last, ahead)) {
                return WITH_E;
            }
            if (!isVowel(begins)) {
                return AS_IT_IS;
            }
            if (last == 'e' && lastWordLength >= 2 && ahead != 'e' && ahead != 'o' && ahead != 'y') {
                return E_GOES;
            }
            boolean keepsLast = last == 'w' || last == 'x' || last == 'y';
            // the only vowel stands next to the last letter: so neither of its neighbours is one
            if (lastWordLength >= 3 && !keepsLast && isVowel(ahead) && lastWordVowels == 1) {
                return LAST_ONCE_MORE;
            }
            return AS_IT_IS;
        }

        private static boolean hisses(int last, int ahead) {
            boolean behindH = last == 'h' && (ahead == 'c' || ahead == 's');
            return last == 's' || last == 'x' || last == 'z' || behindH;
        }

        private boolean endsByLetter() {
            return size > 0 && isLetter(bytes[size - 1]);
        }

        /**
         * Counts only as far as a rule may ask: whether there are three letters and, for a suffix that
         * begins by a vowel, a second vowel. So words grown long by joining cost no more than others.
         */
        private void measureLastWord(boolean aheadOfVowel) {
            int vowelsAsked = aheadOfVowel ? 2 : 0;
            lastWordLength = 0;
            lastWordVowels = 0;
            for (int i = size - 1; i >= 0 && isLetter(bytes[i]); i--) {
                if (lastWordLength >= 3 && lastWordVowels >= vowelsAsked) {
                    return;
                }
                lastWordLength++;
                if (isVowel(smallOf(bytes[i]))) {
                    lastWordVowels++;
                }
            }
        }

        /** The letter so far from the end of the last word, made small. */
        private int smallFromEnd(int i) {
            int at = size - 1 - i;
            return i < lastWordLength && at >= 0 && at < size ? smallOf(bytes[at]) : NONE;
        }

        private void writeMark(int k) {
            put(book.letterAt(k, 0));
            link = 0;
        }

        private void putBlank() {
            if (size > 0 && link == 0) {
                put(' ');
            }
            link = 0;
        }

        private void put(int octet) {
            if (size < bytes.length) {
                bytes[size] = (byte) octet;
                size++;
            }
        }
    }

    /**
     * The translations of the record as they stand, and their text. They are made anew by settle(), which
     * goes ahead of every question, so that a row of changes costs no more than one.
     */
    private static final class Transcript {
        private final Book book;
        private final Reading record;
        private final Page page;
        private final Chord chord = new Chord();
        private final int[] lasts = new int[RECORD_STROKES];
        private final int[] behinds = new int[RECORD_STROKES];
        private final int[] owners = new int[RECORD_STROKES];
        private int size;
        private int raws;
        private boolean settled;

        Transcript(Book book, Reading record, Page page) {
            this.book = book;
            this.record = record;
            this.page = page;
        }

        void forget() {
            settled = false;
        }

        void settle() {
            if (settled) {
                return;
            }
            record.read();
            findLasts();
            page.empty();
            raws = 0;
            for (int t = 0; t < size; t++) {
                writeTranslation(t);
                behinds[t] = page.size();
            }
            settled = true;
        }

        int size() {
            return size;
        }

        int raws() {
            return raws;
        }

        int ownerOf(int i) {
            return record.has(i) && i < RECORD_STROKES ? owners[i] : NONE;
        }

        int countOf(int k) {
            int n = 0;
            for (int t = 0; t < size; t++) {
                if (record.entryAt(lasts[t]) == k) {
                    n++;
                }
            }
            return n;
        }

        int entryOf(int t) {
            return record.entryAt(lastOf(t));
        }

        int firstOf(int t) {
            return record.firstAt(lastOf(t));
        }

        int strokesOf(int t) {
            return lastOf(t) - firstOf(t) + 1;
        }

        int lengthAhead(int t) {
            return t == 0 ? 0 : lengthBehind(t - 1);
        }

        int lengthBehind(int t) {
            return t >= 0 && t < size ? behinds[t] : NONE;
        }

        private int lastOf(int t) {
            return t >= 0 && t < size ? lasts[t] : NONE;
        }

        /** From the end on each translation tells where the one ahead of it ends. */
        private void findLasts() {
            int strokes = Math.min(record.size(), RECORD_STROKES);
            int last = strokes - 1;
            for (int i = last; i >= 0; i--) {
                owners[i] = i == last ? 1 : 0;
                if (i == last) {
                    last = record.firstAt(i) - 1;
                }
            }
            size = 0;
            for (int i = 0; i < strokes; i++) {
                boolean ends = owners[i] == 1;
                owners[i] = size;
                if (ends) {
                    lasts[size] = i;
                    size++;
                }
            }
        }

        private void writeTranslation(int t) {
            int k = entryOf(t);
            if (k == NONE) {
                raws++;
                chord.spell(record.keysAt(lastOf(t)));
                page.writeRaw(chord);
            } else {
                page.writeEntry(k, book.kindOf(entryOf(t - 1)) == GLUE);
            }
        }
    }

    /**
     * The best way to write the rest of a word, from each of its letters on, by entries one behind
     * the other: so many of the inner kind, and at the word's end one of the last kind.
     */
    private static final class Chain {
        private final Book book;
        private final int innerKind;
        private final int lastKind;
        private final int[] costs = new int[PLAN_BYTES];
        private final int[] picks = new int[PLAN_BYTES];

        Chain(Book book, int innerKind, int lastKind) {
            this.book = book;
            this.innerKind = innerKind;
            this.lastKind = lastKind;
        }

        /**
         * One number that orders ways as the document does: by strokes, then by entries, then by the
         * first entry. Ways with one first entry differ behind it alone, where the best rest is known.
         */
        static int costOf(int strokes, int entries, int first) {
            return (strokes * MOST_STEPS + entries) * MOST_STEPS + first;
        }

        int solve(byte[] words, int from, int to) {
            if (from < 0 || from >= to || to > PLAN_BYTES) {
                return NO_WAY;
            }
            for (int at = to - 1; at >= from; at--) {
                pickFor(words, at, to);
            }
            return costs[from];
        }

        int pickAt(int at) {
            return at >= 0 && at < PLAN_BYTES ? picks[at] : NONE;
        }

        private void pickFor(byte[] words, int at, int to) {
            costs[at] = NO_WAY;
            picks[at] = NONE;
            for (int k = 0; k < book.size(); k++) {
                int cost = costThrough(k, at + book.lengthOf(k), to);
                if (cost < costs[at] && book.areLettersAt(k, book.lengthOf(k), words, at)) {
                    costs[at] = cost;
                    picks[at] = k;
                }
            }
        }

        private int costThrough(int k, int next, int to) {
            int kind = book.kindOf(k);
            int own = costOf(book.strokesOf(k), 1, k);
            if (next == to) {
                return kind == lastKind ? own : NO_WAY;
            }
            if (next > to || kind != innerKind || costs[next] == NO_WAY) {
                return NO_WAY;
            }
            return own + costs[next] - costs[next] % MOST_STEPS;
        }
    }

    /** The best word and suffix that are joined to a word. */
    private static final class Join {
        private final Book book;
        private final Page trial;
        private int word;
        private int suffix;

        Join(Book book) {
            this.book = book;
            // word and suffix, and one letter that a rule of spelling adds
            trial = new Page(book, 2 * TEXT_BYTES + 1);
        }

        int word() {
            return word;
        }

        int suffix() {
            return suffix;
        }

        int solve(byte[] words, int from, int to) {
            int best = NO_WAY;
            for (int w = 0; w < book.size(); w++) {
                if (!mayBegin(w, words, from, to)) {
                    continue;
                }
                for (int s = 0; s < book.size(); s++) {
                    int strokes = book.strokesOf(w) + book.strokesOf(s);
                    int cost = Chain.costOf(strokes, 2, w);
                    if (book.kindOf(s) == SUFFIX && cost < best && isJoined(w, s, words, from, to)) {
                        best = cost;
                        word = w;
                        suffix = s;
                    }
                }
            }
            return best;
        }

        /** A suffix changes the last letter of a word at most. */
        private boolean mayBegin(int w, byte[] words, int from, int to) {
            int kept = book.lengthOf(w) - 1;
            return book.kindOf(w) == WORD && kept < to - from && book.areLettersAt(w, kept, words, from);
        }

        private boolean isJoined(int w, int s, byte[] words, int from, int to) {
            int length = book.lengthOf(s);
            if (length > to - from || !book.areLettersAt(s, length, words, to - length)) {
                return false;
            }
            trial.empty();
            trial.writeText(w);
            trial.joinSuffix(s);
            return trial.isAt(words, from, to);
        }
    }

    /** Makes plans: a draft first, which becomes the latest plan only if all its words can be written. */
    private static final class Planner {
        private final Book book;
        private final Chain prefixed;
        private final Chain glued;
        private final Join joined;
        private final Reading trial;
        private final byte[] words = new byte[PLAN_BYTES];
        private int length;
        private final int[] draft = new int[PLAN_BYTES];
        private int drafted;
        private final int[] latest = new int[PLAN_BYTES];
        private int latestEntries;
        private int latestStrokes;
        private int latestClear = NONE;

        Planner(Book book) {
            this.book = book;
            prefixed = new Chain(book, PREFIX, WORD);
            glued = new Chain(book, GLUE, GLUE);
            joined = new Join(book);
            trial = new Reading(book);
        }

        int plannedEntries() {
            return latestEntries;
        }

        int plannedStrokes() {
            return latestStrokes;
        }

        int plannedAt(int i) {
            return i >= 0 && i < latestEntries ? latest[i] : NONE;
        }

        int clearness() {
            return latestClear;
        }

        void take(Tape tape, int n) {
            length = 0;
            for (int i = 0; i < n && i < PLAN_BYTES; i++) {
                words[i] = (byte) tape.byteAt(i);
                length++;
            }
        }

        boolean tookWords() {
            boolean blankMay = false;
            for (int i = 0; i < length; i++) {
                boolean blank = words[i] == ' ';
                if (blank ? !blankMay : !isSmall(words[i])) {
                    return false;
                }
                blankMay = !blank;
            }
            return blankMay;
        }

        boolean make() {
            drafted = 0;
            int from = 0;
            for (int i = 0; i <= length; i++) {
                if (i == length || words[i] == ' ') {
                    if (!draftWord(from, i)) {
                        return false;
                    }
                    from = i + 1;
                }
            }
            readDraft();
            System.arraycopy(draft, 0, latest, 0, drafted);
            latestEntries = drafted;
            latestStrokes = trial.size();
            latestClear = isDraftRead() ? 1 : 0;
            return true;
        }

        private boolean draftWord(int from, int to) {
            int prefixedCost = prefixed.solve(words, from, to);
            int gluedCost = glued.solve(words, from, to);
            int joinedCost = joined.solve(words, from, to);
            int best = Math.min(prefixedCost, Math.min(gluedCost, joinedCost));
            if (best == NO_WAY) {
                return false;
            }
            // two of these never cost the same, for their first entries differ
            if (best == joinedCost) {
                draftEntry(joined.word());
                draftEntry(joined.suffix());
            } else {
                draftChain(best == prefixedCost ? prefixed : glued, from, to);
            }
            return true;
        }

        private void draftChain(Chain chain, int from, int to) {
            int next = from;
            for (int at = from; at < to; at++) {
                if (at == next) {
                    draftEntry(chain.pickAt(at));
                    next += book.lengthOf(chain.pickAt(at));
                }
            }
        }

        private void draftEntry(int k) {
            if (drafted < PLAN_BYTES) {
                draft[drafted] = k;
                drafted++;
            }
        }

        private void readDraft() {
            trial.empty();
            for (int i = 0; i < drafted; i++) {
                for (int j = 0; j < book.strokesOf(draft[i]); j++) {
                    trial.put(trial.size(), book.strokeAt(draft[i], j));
                }
            }
            trial.read();
        }

        /** Outlines are all unlike, so like entries from the end on are like strokes, too. */
        private boolean isDraftRead() {
            int last = trial.size() - 1;
            for (int i = drafted - 1; i >= 0; i--) {
                if (trial.entryAt(last) != draft[i]) {
                    return false;
                }
                last = trial.firstAt(last) - 1;
            }
            return last == NONE;
        }
    }

    /**
     * Entries that run together. An outline that is read alone is its own entry, for the longest is
     * taken. So a and b run together just if a longer outline begins by all of a and then goes on as b
     * begins: it is taken as soon as its last stroke comes, and never parted again.
     */
    private static final class Runs {
        private final Book book;
        private final int[] longer = new int[MOST_ENTRIES];
        private int size;
        private int skipped;

        Runs(Book book) {
            this.book = book;
        }

        /** Keeps the outlines that go on behind all of entry a. */
        void gather(int a) {
            size = 0;
            skipped = book.strokesOf(a);
            for (int k = 0; k < book.size(); k++) {
                boolean goesOn = book.strokesOf(k) > skipped && areStrokesAlike(a, k, 0, skipped);
                if (goesOn && size < MOST_ENTRIES) {
                    longer[size] = k;
                    size++;
                }
            }
        }

        /** Whether one of the gathered outlines goes on as entry b begins. */
        boolean runInto(int b) {
            for (int i = 0; i < size; i++) {
                int rest = book.strokesOf(longer[i]) - skipped;
                if (rest <= book.strokesOf(b) && areStrokesAlike(b, longer[i], skipped, rest)) {
                    return true;
                }
            }
            return false;
        }

        int pairAt(int i) {
            int left = i;
            for (int a = 0; a < book.size(); a++) {
                gather(a);
                for (int b = 0; b < book.size() && size > 0; b++) {
                    if (runInto(b)) {
                        if (left == 0) {
                            return PAIR_FACTOR * a + b;
                        }
                        left--;
                    }
                }
            }
            return NONE;
        }

        /** Whether the first n strokes of entry k stand in another's outline behind so many. */
        private boolean areStrokesAlike(int k, int other, int behind, int n) {
            for (int i = 0; i < n; i++) {
                if (book.strokeAt(k, i) != book.strokeAt(other, behind + i)) {
                    return false;
                }
            }
            return true;
        }
    }
}
