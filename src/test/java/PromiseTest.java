/** Each promise of the document by hand: ordinary calls, the edges, and wrong inputs. */
public final class PromiseTest {
    private static final int WORD = 0;
    private static final int PREFIX = 1;
    private static final int SUFFIX = 2;
    private static final int STOP = 3;
    private static final int COMMA = 4;
    private static final int GLUE = 5;
    private static final int CAPITAL = 6;
    private static final int JOIN = 7;
    private static final int UPPER = 8;
    private static final int ALL = 4194303;
    private static final int NONE = -1;
    private static final int[] NO_NUMBERS = {-1, Integer.MIN_VALUE, Integer.MAX_VALUE};

    private static final Check CHECK = new Check();

    public static void main(String[] args) {
        newObject();
        feed();
        entryAnswers();
        entryStrokes();
        entryLengths();
        entryBytes();
        entryTape();
        entryFull();
        entryReadsAnew();
        drop();
        stroke();
        longestOutline();
        back();
        correct();
        insert();
        cut();
        count();
        told();
        octet();
        shifts();
        links();
        marks();
        glues();
        suffixes();
        suffixesBehindRaw();
        of();
        written();
        planWays();
        planOrder();
        planRefused();
        planLongest();
        planned();
        clear();
        together();
        pair();
        book();
        wrongNumbers();
        CHECK.end("PromiseTest");
    }

    private static void due(String call, int got, int want) {
        CHECK.due(call, got, want);
    }

    private static void due(String call, boolean got, boolean want) {
        CHECK.due(call, got, want);
    }

    private static void due(String call, String got, String want) {
        CHECK.due(call, got, want);
    }

    private static StenoRoom room(String... entries) {
        StenoRoom room = new StenoRoom();
        for (String e : entries) {
            add(room, e);
        }
        return room;
    }

    /** An entry told as "kind text stroke stroke ..", a text of none as -. */
    private static int add(StenoRoom room, String told) {
        String[] parts = told.split(" ");
        int[] outline = new int[parts.length - 2];
        for (int i = 2; i < parts.length; i++) {
            outline[i - 2] = Integer.parseInt(parts[i]);
        }
        return Check.entry(room, Integer.parseInt(parts[0]), parts[1].equals("-") ? "" : parts[1], outline);
    }

    private static void strokes(StenoRoom room, int... keys) {
        for (int k : keys) {
            room.stroke(k);
        }
    }

    private static String textOf(StenoRoom room, int... keys) {
        strokes(room, keys);
        return Check.text(room);
    }

    private static void newObject() {
        StenoRoom room = new StenoRoom();
        for (int what = 0; what <= 9; what++) {
            due("1: new count " + what, room.count(what), 0);
        }
        due("1: new octet", room.octet(0), NONE);
        due("1: new told", room.told(0, 0), NONE);
        due("1: new of", room.of(0), NONE);
        due("1: new written", room.written(0, 0), NONE);
        due("1: new planned", room.planned(0), NONE);
        due("1: new clear", room.clear(), NONE);
        due("1: new pair", room.pair(0), NONE);
        due("1: new together", room.together(0, 0), NONE);
        due("1: new book", room.book(0, 0), NONE);
        due("1: new back", room.back(), NONE);
        due("1: new cut", room.cut(0), NONE);
        due("1: new drop", room.drop(0), false);
        due("1: new correct", room.correct(0, 1), false);
        StenoRoom other = room("0 cat 1");
        strokes(other, 1);
        due("1: rooms share nothing", room.count(4) + room.count(0), 0);
    }

    private static void feed() {
        StenoRoom room = new StenoRoom();
        due("2: 20", room.feed(0x61626364, 0x65666768, 0x696a6b6c, 0x6d6e6f70, 0x71727374), 20);
        due("2: order of bytes", room.entry(1, 0, 0, 0, 0, WORD, 16), 0);
        for (int i = 0; i < 16; i++) {
            due("2: byte " + i, room.book(0, 20 + i), 'a' + i);
        }
        for (int i = 1; i <= 4; i++) {
            due("2: feed " + i, room.feed(0x61000000 | i, -1, 0, 0, 0), 20 * i);
        }
        due("2: the fifth", room.feed(0, 0, 0, 0, 0), NONE);
        due("2: the tape stays", room.count(5), 80);
        due("2: the first bytes are the first fed", room.entry(2, 0, 0, 0, 0, WORD, 1), 1);
        due("2: empty then", room.count(5), 0);
        due("2: feed again", room.feed(0, 0, 0, 0, 0), 20);
    }

    private static void entryAnswers() {
        StenoRoom room = new StenoRoom();
        due("3: first", add(room, "0 cat 1"), 0);
        due("3: second, two strokes", add(room, "1 re 1 2"), 1);
        due("3: five strokes", add(room, "2 s 1 2 1 2 1"), 2);
        due("3: stop", add(room, "3 . 4"), 3);
        due("3: comma", add(room, "4 , 5"), 4);
        due("3: glue", add(room, "5 b 6"), 5);
        due("3: capital", add(room, "6 - 7"), 6);
        due("3: join", add(room, "7 - 8"), 7);
        due("3: upper", add(room, "8 - 9"), 8);
        due("3: outline is there", add(room, "0 dog 1"), NONE);
        due("3: outline is there, other kind", add(room, "8 - 1 2"), NONE);
        due("3: its strokes the other way", add(room, "0 dog 2 1"), 9);
        due("3: same text", add(room, "0 cat 10"), 10);
        due("3: entries", room.count(4), 11);
    }

    private static void entryStrokes() {
        int[][] wrong = {{0, 0, 0, 0, 0}, {0, 1, 0, 0, 0}, {1, 0, 1, 0, 0}, {1, 2, 3, 0, 5}, {-1, 0, 0, 0, 0},
            {4194304, 0, 0, 0, 0}, {1, -1, 0, 0, 0}, {1, 2, 3, 4, 4194304}, {Integer.MIN_VALUE, 0, 0, 0, 0},
            {Integer.MAX_VALUE, 0, 0, 0, 0}, {1, 1, 1, 1, -5}, {1, 0, 0, 0, -1}};
        StenoRoom room = new StenoRoom();
        Check.feed(room, "abc");
        for (int[] o : wrong) {
            due("3: no such strokes", room.entry(o[0], o[1], o[2], o[3], o[4], WORD, 3), NONE);
        }
        due("3: no such strokes, the tape stays", room.count(5), 20);
        due("3: all keys, five times", room.entry(ALL, ALL, ALL, ALL, ALL, WORD, 3), 0);
        due("3: then it is empty", room.count(5), 0);
    }

    private static void entryLengths() {
        StenoRoom room = new StenoRoom();
        Check.feed(room, "abcdefghijklmnopqrst");
        for (int kind : new int[] {WORD, PREFIX, SUFFIX, GLUE}) {
            due("3: 0 of " + kind, room.entry(1, 0, 0, 0, 0, kind, 0), NONE);
            due("3: 17 of " + kind, room.entry(1, 0, 0, 0, 0, kind, 17), NONE);
            due("3: -1 of " + kind, room.entry(1, 0, 0, 0, 0, kind, -1), NONE);
        }
        for (int kind : new int[] {STOP, COMMA}) {
            due("3: 0 of " + kind, room.entry(1, 0, 0, 0, 0, kind, 0), NONE);
            due("3: 2 of " + kind, room.entry(1, 0, 0, 0, 0, kind, 2), NONE);
        }
        for (int kind : new int[] {CAPITAL, JOIN, UPPER}) {
            due("3: 1 of " + kind, room.entry(1, 0, 0, 0, 0, kind, 1), NONE);
            due("3: -1 of " + kind, room.entry(1, 0, 0, 0, 0, kind, -1), NONE);
        }
        for (int kind : new int[] {-1, 9, Integer.MIN_VALUE, Integer.MAX_VALUE}) {
            due("3: kind " + kind, room.entry(1, 0, 0, 0, 0, kind, 1), NONE);
            due("3: kind " + kind + " of none", room.entry(1, 0, 0, 0, 0, kind, 0), NONE);
        }
        due("3: the tape stays by kind and n", room.count(5), 20);
        due("3: none has come", room.count(4), 0);
        due("3: 16", room.entry(1, 0, 0, 0, 0, GLUE, 16), 0);
        due("3: not so many", room.entry(2, 0, 0, 0, 0, GLUE, 1), NONE);
        due("3: a command needs none", room.entry(2, 0, 0, 0, 0, JOIN, 0), 1);
    }

    private static void entryBytes() {
        String[] noWords = {"a b", "Abc", "ab{", "a`", "ab.", "-", "\0", "\u00e9", "ab\u00ff"};
        for (int kind : new int[] {WORD, PREFIX, SUFFIX, GLUE}) {
            for (String text : noWords) {
                StenoRoom room = new StenoRoom();
                due("3: bytes of " + kind, Check.entry(room, kind, text, 1), NONE);
                due("3: refused by bytes, the tape is empty", room.count(5), 0);
                due("3: refused by bytes", room.count(4), 0);
            }
        }
        for (int kind : new int[] {STOP, COMMA}) {
            for (int octet = 0; octet < 256; octet++) {
                StenoRoom room = new StenoRoom();
                boolean mark = ".,;:?!".indexOf(octet) >= 0;
                due("3: mark " + octet, Check.entry(room, kind, "" + (char) octet, 1), mark ? 0 : NONE);
                due("3: the tape behind mark " + octet, room.count(5), 0);
            }
        }
        for (int octet = 0; octet < 256; octet++) {
            StenoRoom room = new StenoRoom();
            boolean small = octet >= 'a' && octet <= 'z';
            due("3: letter " + octet, Check.entry(room, WORD, "" + (char) octet, 1), small ? 0 : NONE);
        }
        due("3: bytes behind the n-th are not asked for", nBytesOf("ab.", 2), 0);
    }

    private static int nBytesOf(String fed, int n) {
        StenoRoom room = new StenoRoom();
        Check.feed(room, fed);
        return room.entry(1, 0, 0, 0, 0, WORD, n);
    }

    private static void entryTape() {
        StenoRoom room = room("0 cat 1");
        Check.feed(room, "dog");
        due("3: outline is there", room.entry(1, 0, 0, 0, 0, WORD, 3), NONE);
        due("3: outline is there, the tape is empty", room.count(5), 0);
        due("3: nothing is there to take", room.entry(2, 0, 0, 0, 0, WORD, 3), NONE);
        due("3: the book is as it was", room.count(4), 1);
        due("3: its text, too", room.book(0, 20), 'c');
        Check.feed(room, "dog");
        due("3: outline is there and n above 16", room.entry(1, 0, 0, 0, 0, WORD, 17), NONE);
        due("3: outline is there and no such kind", room.entry(1, 0, 0, 0, 0, 9, 3), NONE);
        due("3: outline is there and no such n", room.entry(1, 0, 0, 0, 0, UPPER, 3), NONE);
        due("3: what stands ahead in the list leaves the tape", room.count(5), 20);
        due("3: outline is there, a command", room.entry(1, 0, 0, 0, 0, UPPER, 0), NONE);
        due("3: a command refused so empties the tape", room.count(5), 0);
        due("3: outline is there and an empty tape", room.entry(1, 0, 0, 0, 0, WORD, 3), NONE);
        Check.feed(room, "dog");
        due("3: taken then", room.entry(2, 0, 0, 0, 0, WORD, 3), 1);
        Check.feed(room, "Dog");
        due("3: outline is there and bytes", room.entry(1, 0, 0, 0, 0, WORD, 3), NONE);
        due("3: refused by its bytes, too", room.count(5), 0);
        Check.feed(room, "xyz");
        due("3: a command", room.entry(4, 0, 0, 0, 0, UPPER, 0), 2);
        due("3: a command empties the tape", room.count(5), 0);
        Check.feed(room, "abcdefghijklmnopqrst");
        room.feed(0x61616161, 0, 0, 0, 0);
        due("3: 16 of 40", room.entry(5, 0, 0, 0, 0, WORD, 16), 3);
        due("3: all is gone", room.count(5), 0);
    }

    private static void entryFull() {
        StenoRoom room = new StenoRoom();
        for (int k = 0; k < 60; k++) {
            due("3: entry " + k, room.entry(k + 1, 0, 0, 0, 0, CAPITAL, 0), k);
        }
        Check.feed(room, "abc");
        due("3: 60 are there", room.entry(100, 0, 0, 0, 0, WORD, 3), NONE);
        due("3: 60 are there, the tape is empty", room.count(5), 0);
        Check.feed(room, "abc");
        due("3: 60 are there, a command", room.entry(100, 0, 0, 0, 0, CAPITAL, 0), NONE);
        due("3: 60 are there, a command empties the tape", room.count(5), 0);
        Check.feed(room, "abc");
        due("3: 60 are there, wrong n", room.entry(100, 0, 0, 0, 0, WORD, 17), NONE);
        due("3: 60 are there, wrong n, the tape stays", room.count(5), 20);
        due("3: count", room.count(4), 60);
        due("4: last goes", room.drop(59), true);
        due("3: room again", room.entry(100, 0, 0, 0, 0, WORD, 3), 59);
        due("20: the last one's text", room.book(59, 22), 'c');
        due("4: first goes", room.drop(0), true);
        due("20: the last one's text moved", room.book(58, 22), 'c');
        due("20: its stroke moved", room.book(58, 10), 100);
    }

    private static void entryReadsAnew() {
        StenoRoom room = room("0 cat 1");
        due("3: raw so far", textOf(room, 1, 2), "cat T");
        add(room, "0 dog 2");
        due("3: read anew", Check.text(room), "cat dog");
        add(room, "0 catalog 1 2");
        due("3: read anew, longer", Check.text(room), "catalog");
        due("10: one translation", room.count(1), 1);
    }

    private static void drop() {
        StenoRoom room = room("0 cat 1", "0 dog 2", "0 catalog 1 2", "2 s 4");
        due("4: text", textOf(room, 1, 2, 4), "catalogs");
        due("4: drop 2", room.drop(2), true);
        due("4: read anew", Check.text(room), "cat dogs");
        due("4: numbers behind it", Check.translations(room), "0 1 2");
        due("4: kind of the moved one", room.book(2, 0), SUFFIX);
        due("4: its stroke", room.book(2, 10), 4);
        due("4: its byte", room.book(2, 20), 's');
        due("4: none such", room.drop(3), false);
        due("4: none such", room.drop(-1), false);
        due("4: drop 0", room.drop(0), true);
        due("4: raw now", Check.text(room), "S dogs");
        due("4: entries", room.count(4), 2);
        due("4: its outline is free", add(room, "0 cow 1"), 2);
        due("4: text at the end", Check.text(room), "cow dogs");
    }

    private static void stroke() {
        StenoRoom room = new StenoRoom();
        for (int keys : new int[] {0, -1, 4194304, Integer.MIN_VALUE, Integer.MAX_VALUE}) {
            due("5: no such stroke", room.stroke(keys), NONE);
        }
        for (int i = 1; i <= 300; i++) {
            due("5: stroke " + i, room.stroke(ALL), i);
        }
        due("5: 300 are there", room.stroke(1), NONE);
        due("10: strokes", room.count(0), 300);
        due("10: the longest text", room.count(3), 300 * 23 - 1);
        due("12: its last byte", room.octet(300 * 23 - 2), 'Z');
        due("12: behind it", room.octet(300 * 23 - 1), NONE);
        due("8: 300 are there", room.insert(0, 1), false);
        due("8: 300 are there, behind the last", room.insert(300, 1), false);
        due("7: the last one", room.correct(299, 1), true);
        due("12: the last is S", room.octet(room.count(3) - 1), 'S');
        due("9: the first of 300", room.cut(0), ALL);
        due("8: room again", room.insert(299, 2), true);
        due("12: the last is T", room.octet(room.count(3) - 1), 'T');
    }

    private static void longestOutline() {
        StenoRoom room = room("0 a 1", "0 b 2", "0 ab 1 2", "0 abab 1 2 1 2", "0 ba 2 1");
        strokes(room, 1, 2);
        due("2.: the longest", Check.translations(room), "2");
        strokes(room, 1);
        due("2.: no outline over half a translation", Check.translations(room), "2 0");
        strokes(room, 2);
        due("2.: two translations and the stroke", Check.translations(room), "3");
        strokes(room, 1);
        due("2.: six would be too many", Check.translations(room), "3 0");
        StenoRoom raw = room("0 x 1 2 3", "0 y 2 3");
        strokes(raw, 1, 2);
        due("2.: raw ones", Check.translations(raw), "* *");
        strokes(raw, 3);
        due("2.: raw ones are taken, too", Check.translations(raw), "0");
        due("10: none raw", raw.count(2), 0);
        StenoRoom five = room("0 five 1 1 1 1 1", "0 two 1 1");
        due("2.: five", textOf(five, 1, 1, 1, 1, 1), "five");
        strokes(five, 1, 1, 1);
        due("2.: and so on", Check.translations(five), "0 1 *");
        StenoRoom part = room("0 x 1 2", "0 y 2 3", "0 z 3");
        strokes(part, 1, 2, 3);
        due("2.: what is one stays one", Check.translations(part), "0 2");
    }

    private static void back() {
        StenoRoom room = room("0 a 1", "0 b 2", "0 catch 1 2", "2 s 4", "0 care 8", "2 ing 16");
        due("6: text", textOf(room, 8, 16, 1, 2, 4), "caring catches");
        due("6: the suffix", room.back(), 4);
        due("6: without it", Check.text(room), "caring catch");
        due("6: half an outline", room.back(), 2);
        due("6: what stood ahead of it stands again", Check.text(room), "caring a");
        due("6: its translations", Check.translations(room), "4 5 0");
        due("6: more", room.back(), 1);
        due("6: more", room.back(), 16);
        due("6: the e comes back", Check.text(room), "care");
        due("6: the last", room.back(), 8);
        due("6: empty", room.count(3), 0);
        due("6: none", room.back(), NONE);
        due("6: strokes", room.count(0), 0);
        due("6: a stroke behind it", room.stroke(1), 1);
    }

    private static void correct() {
        StenoRoom room = room("0 a 1", "0 b 2", "0 ab 1 2", "0 c 3");
        due("7: text", textOf(room, 1, 2, 3), "ab c");
        due("7: first", room.correct(0, 3), true);
        due("7: read anew", Check.text(room), "c b c");
        due("7: last", room.correct(2, 1), true);
        due("7: text", Check.text(room), "c b a");
        due("7: the same again", room.correct(2, 1), true);
        due("7: middle", room.correct(1, ALL), true);
        due("7: raw", Check.translations(room), "3 * 0");
        due("7: none such", room.correct(3, 1), false);
        due("7: none such", room.correct(-1, 1), false);
        due("7: no stroke", room.correct(0, 0), false);
        due("7: no stroke", room.correct(0, -1), false);
        due("7: no stroke", room.correct(0, 4194304), false);
        due("7: nothing changed", Check.translations(room), "3 * 0");
        due("7: strokes", room.count(0), 3);
    }

    private static void insert() {
        StenoRoom room = room("0 a 1", "0 b 2", "0 ab 1 2", "0 c 3");
        due("8: into none", room.insert(1, 1), false);
        due("8: behind the last of none", room.insert(0, 2), true);
        due("8: ahead of it", room.insert(0, 1), true);
        due("8: one now", Check.text(room), "ab");
        due("8: between", room.insert(1, 3), true);
        due("8: three", Check.text(room), "a c b");
        due("8: behind the last", room.insert(3, 1), true);
        due("8: four", Check.text(room), "a c b a");
        due("8: none such", room.insert(5, 1), false);
        due("8: none such", room.insert(-1, 1), false);
        due("8: no stroke", room.insert(0, 0), false);
        due("8: no stroke", room.insert(4, 4194304), false);
        due("8: no stroke", room.insert(4, -7), false);
        due("8: nothing changed", Check.text(room), "a c b a");
    }

    private static void cut() {
        StenoRoom room = room("0 a 1", "0 b 2", "0 ab 1 2", "0 c 3");
        due("9: text", textOf(room, 1, 3, 2), "a c b");
        due("9: none such", room.cut(3), NONE);
        due("9: none such", room.cut(-1), NONE);
        due("9: middle", room.cut(1), 3);
        due("9: read anew", Check.text(room), "ab");
        due("9: first", room.cut(0), 1);
        due("9: text", Check.text(room), "b");
        due("9: last", room.cut(0), 2);
        due("9: none", room.cut(0), NONE);
        due("9: strokes", room.count(0), 0);
    }

    private static void count() {
        StenoRoom room = room("0 cat 1", "0 dog 2 2", "6 - 3", "7 - 4", "8 - 5", "2 s 6");
        strokes(room, 1, 2, 2, 8, 1, 16);
        int[] want = {6, 5, 2, 3 + 4 + 2 + 4 + 2, 6, 0, 0, 0, 0, 0};
        for (int what = 0; what < want.length; what++) {
            due("10: count " + what, room.count(what), want[what]);
        }
        strokes(room, 3, 4);
        due("10: shift 1", room.count(6), 1);
        due("10: link 1", room.count(7), 1);
        strokes(room, 5);
        due("10: shift 2", room.count(6), 2);
        Check.feed(room, "cat dogs");
        due("10: tape", room.count(5), 20);
        due("15: plan", room.plan(8), 4);
        due("10: entries of the plan", room.count(8), 3);
        due("10: strokes of the plan", room.count(9), 4);
        due("10: tape behind it", room.count(5), 0);
        due("10: 10", room.count(10), NONE);
        due("10: -1", room.count(-1), NONE);
    }

    private static void told() {
        StenoRoom room = room("0 care 1", "2 ing 2", "0 catalog 3 3", "6 - 4");
        strokes(room, 1, 2, 4, 3, 3, 8);
        int[][] want = {{0, 0, 1, 0, 4}, {1, 1, 1, 4, 6}, {3, 2, 1, 6, 6}, {2, 3, 2, 6, 14}, {NONE, 5, 1, 14, 16}};
        for (int t = 0; t < want.length; t++) {
            for (int what = 0; what < 5; what++) {
                due("11: told " + t + " " + what, room.told(t, what), want[t][what]);
            }
            due("11: told 5", room.told(t, 5), NONE);
            due("11: told -1", room.told(t, -1), NONE);
        }
        for (int what = 0; what < 5; what++) {
            due("11: no such translation", room.told(5, what), NONE);
            due("11: no such translation", room.told(-1, what), NONE);
        }
        due("11: text", Check.text(room), "caring Catalog P");
    }

    private static void octet() {
        StenoRoom room = room("0 az 1", "6 - 2");
        strokes(room, 1, 2, 1, 128 + 4096);
        int[] want = {'a', 'z', ' ', 'A', 'z', ' ', 'A', 'F', NONE, NONE};
        for (int i = 0; i < want.length; i++) {
            due("12: octet " + i, room.octet(i), want[i]);
        }
        due("12: octet -1", room.octet(-1), NONE);
        due("12: far", room.octet(6900), NONE);
        room.back();
        due("12: gone", room.octet(6), NONE);
    }

    private static void shifts() {
        String[] book = {"0 cat 1", "6 - 2", "8 - 3", "1 re 4", "5 b 5", "2 s 6", "3 . 7", "4 , 8", "7 - 9"};
        due("12: capital", textOf(room(book), 2, 1, 1), "Cat cat");
        due("12: upper", textOf(room(book), 3, 1, 1), "CAT cat");
        due("12: upper, then capital", textOf(room(book), 3, 2, 1), "Cat");
        due("12: capital, then upper", textOf(room(book), 2, 3, 1), "CAT");
        due("12: a prefix takes it", textOf(room(book), 2, 4, 1), "Recat");
        due("12: a prefix takes upper", textOf(room(book), 3, 4, 1), "REcat");
        due("12: a glue takes it", textOf(room(book), 2, 5, 5), "Bb");
        due("12: raw leaves it", textOf(room(book), 2, 128, 1), "A Cat");
        due("12: raw leaves upper", textOf(room(book), 3, 128, 1), "A CAT");
        due("12: a joined suffix leaves it", textOf(room(book), 1, 2, 6, 1), "cats Cat");
        due("12: a joined suffix leaves upper", textOf(room(book), 1, 3, 6, 1), "cats CAT");
        due("12: a suffix alone takes it", textOf(room(book), 2, 6, 1), "S cat");
        due("12: a comma leaves it", textOf(room(book), 3, 8, 1), ", CAT");
        due("12: a stop makes it 1", textOf(room(book), 3, 7, 1), ". Cat");
        due("12: join leaves it", textOf(room(book), 1, 2, 9, 1), "catCat");
        StenoRoom waits = room(book);
        due("12: a shift that waits", textOf(waits, 1, 2), "cat");
        due("12: is not there when all is written anew", textOf(waits, 1), "cat Cat");
    }

    private static void links() {
        String[] book = {"0 cat 1", "7 - 2", "1 re 4", "5 b 5", "2 s 6", "3 . 7", "4 , 8", "6 - 9", "8 - 10"};
        due("12: join", textOf(room(book), 1, 2, 1, 1), "catcat cat");
        due("12: join twice", textOf(room(book), 1, 2, 2, 1, 1), "catcat cat");
        due("12: join ahead of all", textOf(room(book), 2, 1, 1), "cat cat");
        due("12: prefix", textOf(room(book), 1, 4, 1, 1), "cat recat cat");
        due("12: prefixes", textOf(room(book), 4, 4, 1), "rerecat");
        due("12: prefix and raw", textOf(room(book), 4, 128, 1), "reA cat");
        due("12: prefix and glue", textOf(room(book), 4, 5, 5, 1), "rebb cat");
        due("12: prefix and stop", textOf(room(book), 4, 7, 1), "re. Cat");
        due("12: prefix and comma", textOf(room(book), 4, 8, 1), "re, cat");
        due("12: join and suffix", textOf(room(book), 1, 2, 6, 1), "cats cat");
        due("12: prefix and suffix", textOf(room(book), 4, 6, 1), "res cat");
        due("12: commands leave the link", textOf(room(book), 1, 2, 9, 1), "catCat");
        due("12: join and a suffix without a word", textOf(room(book), 8, 2, 6, 1), ",s cat");
        due("12: a suffix without a word", textOf(room(book), 1, 8, 6), "cat, s");
        due("12: a suffix behind a stop", textOf(room(book), 1, 7, 6), "cat. S");
        due("12: a suffix ahead of all", textOf(room(book), 6, 6), "ses");
        StenoRoom waits = room(book);
        strokes(waits, 2);
        due("10: a link that waits", waits.count(7), 1);
        waits.back();
        due("10: is taken back", waits.count(7), 0);
    }

    private static void marks() {
        String[] book = {"0 cat 1", "3 . 2", "3 ? 3", "4 ; 4", "4 ! 5", "3 , 6", "7 - 7"};
        StenoRoom stop = room(book);
        due("12: a stop behind nothing", textOf(stop, 2), ".");
        due("10: shift behind it", stop.count(6), 1);
        due("10: link behind it", stop.count(7), 0);
        due("12: then a word", textOf(stop, 1), ". Cat");
        due("12: stops", textOf(room(book), 1, 3, 2, 1), "cat?. Cat");
        due("12: commas", textOf(room(book), 1, 4, 5, 1), "cat;! cat");
        due("12: a stop by its kind", textOf(room(book), 1, 6, 1), "cat, Cat");
        due("12: join behind a stop", textOf(room(book), 1, 2, 7, 1), "cat.Cat");
        due("12: join ahead of a stop", textOf(room(book), 1, 7, 2, 1), "cat. Cat");
        due("12: join ahead of a comma", textOf(room(book), 1, 7, 4, 1), "cat; cat");
    }

    private static void glues() {
        String[] book = {"0 cat 1", "5 b 2", "5 ca 3", "7 - 4", "6 - 5", "2 s 6", "1 re 7"};
        due("12: glues", textOf(room(book), 1, 2, 3, 2, 1), "cat bcab cat");
        due("12: glues first", textOf(room(book), 2, 2), "bb");
        due("12: a command between", textOf(room(book), 2, 5, 2), "b B");
        due("12: join between", textOf(room(book), 2, 4, 2), "bb");
        due("12: a word between", textOf(room(book), 2, 1, 2), "b cat b");
        due("12: raw between", textOf(room(book), 2, 8, 2), "b P b");
        due("12: a suffix between", textOf(room(book), 2, 6, 2), "bs b");
        due("12: a prefix between", textOf(room(book), 2, 7, 2), "b reb");
        due("12: a suffix behind glues", textOf(room(book), 3, 2, 6), "cabs");
        StenoRoom room = room(book);
        strokes(room, 2, 3);
        room.cut(0);
        due("12: the glue ahead is gone", textOf(room, 2), "cab");
    }

    private static void suffix(String word, String suffix, String want) {
        StenoRoom room = room("0 " + word + " 1", "2 " + suffix + " 2", "8 - 4", "0 q 8");
        due("12: " + word + " and " + suffix, textOf(room, 8, 1, 2), "q " + want);
        StenoRoom plan = room("0 " + word + " 1", "2 " + suffix + " 2");
        due("15: " + want, Check.plan(plan, want), 2);
        due("16: " + want, Check.planned(plan), "0 1");
    }

    private static void suffixes() {
        suffix("carry", "ed", "carried");
        suffix("carry", "s", "carries");
        suffix("carry", "ing", "carrying");
        suffix("carry", "ly", "carrily");
        suffix("play", "ed", "played");
        suffix("play", "s", "plays");
        suffix("y", "s", "ys");
        suffix("y", "ed", "yed");
        suffix("yy", "s", "yies");
        suffix("by", "ss", "biss");
        suffix("sky", "i", "skyi");
        suffix("bus", "s", "buses");
        suffix("box", "s", "boxes");
        suffix("buzz", "s", "buzzes");
        suffix("church", "s", "churches");
        suffix("bush", "s", "bushes");
        suffix("h", "s", "hs");
        suffix("path", "s", "paths");
        suffix("box", "sy", "boxsy");
        suffix("cat", "s", "cats");
        suffix("care", "ing", "caring");
        suffix("care", "ed", "cared");
        suffix("care", "ful", "careful");
        suffix("care", "s", "cares");
        suffix("see", "ing", "seeing");
        suffix("toe", "ing", "toeing");
        suffix("dye", "ing", "dyeing");
        suffix("blue", "er", "bluer");
        suffix("be", "ing", "bing");
        suffix("e", "ing", "eing");
        suffix("stop", "ed", "stopped");
        suffix("stop", "s", "stops");
        suffix("stop", "ly", "stoply");
        suffix("sit", "ing", "sitting");
        suffix("box", "ed", "boxed");
        suffix("row", "ed", "rowed");
        suffix("ray", "ing", "raying");
        suffix("rain", "ed", "rained");
        suffix("it", "ing", "iting");
        suffix("quit", "ing", "quiting");
        suffix("visit", "ed", "visited");
        suffix("yet", "i", "yetti");
        suffix("tyt", "ing", "tyting");
        suffix("ytat", "er", "ytatter");
        suffix("go", "ing", "going");
        suffix("bell", "ed", "belled");
        suffix("abcdefghijklmnop", "abcdefghijklmnop", "abcdefghijklmnopabcdefghijklmnop");
        suffix("bcdfghjklmnpqrat", "edcdefghijklmnop", "bcdfghjklmnpqrattedcdefghijklmnop");
    }

    private static void suffixesBehindRaw() {
        String[] book = {"2 s 1", "2 ed 2", "8 - 4", "0 carry 8", "0 stop 16", "0 care 32", "6 - 64", "1 be 3", "0 at 5", "7 - 6"};
        due("12: raw S", textOf(room(book), 524288, 1), "-Ses");
        due("12: raw at", textOf(room(book), 128 + 2048, 1), "AUs");
        due("12: raw star", textOf(room(book), 512, 1), "* s");
        due("12: raw TAT", textOf(room(book), 2 + 4 + 128 + 262144, 2), "TKATted");
        due("12: raw SE", textOf(room(book), 1 + 2 + 1024, 2), "STed");
        due("12: upper carry", textOf(room(book), 4, 8, 2), "CARRied");
        due("12: upper carry s", textOf(room(book), 4, 8, 1), "CARRies");
        due("12: upper stop", textOf(room(book), 4, 16, 2), "STOPped");
        due("12: upper care", textOf(room(book), 4, 32, 2), "CARed");
        due("12: capital care", textOf(room(book), 64, 32, 2), "Cared");
        due("12: prefix and at", textOf(room(book), 3, 5, 2), "beated");
        due("12: joined words are one", textOf(room(book), 16, 6, 16, 2), "stopstoped");
        due("12: suffixes one behind the other", textOf(room(book), 16, 2, 1), "stoppeds");
        due("12: raw A", textOf(room(book), 128, 1), "As");
        due("12: raw Z", textOf(room(book), 2097152, 1), "-Zes");
        due("12: after a dash", textOf(room(book), 4096, 2), "-Fed");
    }

    private static void of() {
        StenoRoom room = room("0 catalog 1 2", "0 dog 2");
        strokes(room, 4, 1, 2, 2, 1);
        int[] want = {0, 1, 1, 2, 3, NONE};
        for (int i = 0; i < want.length; i++) {
            due("13: of " + i, room.of(i), want[i]);
        }
        due("13: of -1", room.of(-1), NONE);
        due("13: of 300", room.of(300), NONE);
        room.back();
        due("13: taken back", room.of(4), NONE);
    }

    private static void written() {
        StenoRoom room = new StenoRoom();
        int[] keys = {1, 2, 64, 127, 128, 512, 3968, 4096, 2097152, 1 + 4096, 1 + 128 + 4096, 128 + 4096, ALL,
            ALL - 3968, 4190208, 512 + 524288, 8192 + 64};
        String[] want = {"S", "T", "R", "STKPWHR", "A", "*", "AO*EU", "-F", "-Z", "S-F", "SAF", "AF",
            "STKPWHRAO*EUFRPBLGTSDZ", "STKPWHR-FRPBLGTSDZ", "-FRPBLGTSDZ", "*S", "R-R"};
        for (int i = 0; i < keys.length; i++) {
            strokes(room, keys[i]);
            due("14: written " + keys[i], Check.written(room, i), want[i]);
            due("14: behind it", room.written(i, want[i].length()), NONE);
            due("14: ahead of it", room.written(i, -1), NONE);
        }
        due("14: none such", room.written(keys.length, 0), NONE);
        due("14: none such", room.written(-1, 0), NONE);
        StenoRoom known = room("0 cat 1");
        strokes(known, 1);
        due("14: a stroke of an entry", Check.written(known, 0), "S");
    }

    private static void plans(String want, int strokes, String words, String... book) {
        StenoRoom room = room(book);
        due("15: plan " + words, Check.plan(room, words), strokes);
        due("16: plan " + words, Check.planned(room), want);
        due("10: its strokes " + words, room.count(9), Math.max(strokes, 0));
    }

    private static void planWays() {
        plans("0", 1, "cat", "0 cat 1");
        plans("0 0", 2, "cat cat", "0 cat 1");
        plans("1 0", 2, "recat", "0 cat 1", "1 re 2");
        plans("1 2 1 0", 5, "reunrecat", "0 cat 1", "1 re 2", "1 un 3 3");
        plans("0 1", 2, "cats", "0 cat 1", "2 s 2");
        plans("0 1", 2, "carries", "0 carry 1", "2 s 2");
        plans("0 2", 2, "baa", "5 b 1", "5 a 2", "5 aa 3");
        plans("1 0 0 2", 4, "recat cats", "0 cat 1", "1 re 2", "2 s 3");
        plans("", -2, "carrys", "0 carry 1", "2 s 2");
        plans("", -2, "re", "0 cat 1", "1 re 2");
        plans("", -2, "s", "0 cat 1", "2 s 2");
        plans("", -2, "catre", "0 cat 1", "1 re 2");
        plans("", -2, "recats", "0 cat 1", "1 re 2", "2 s 3");
        plans("", -2, "catss", "0 cat 1", "2 s 2");
        plans("", -2, "bcat", "0 cat 1", "5 b 2");
        plans("", -2, "catcat", "0 cat 1", "7 - 2");
        plans("", -2, "ca", "0 cat 1");
        plans("", -2, "cat dog", "0 cat 1");
        plans("", -2, "a");
        plans("", -2, "ad", "0 e 1", "2 d 2");
        plans("", -2, "ebd", "0 eb 1", "2 ad 2");
        plans("", -2, "cat", "3 . 1", "4 , 2", "6 - 3", "7 - 4", "8 - 5");
    }

    private static void planOrder() {
        plans("1 2 3", 3, "cat", "0 cat 1 1 1 1", "5 c 2", "5 a 3", "5 t 4");
        plans("0", 3, "cat", "0 cat 1 1 1", "5 c 2", "5 a 3", "5 t 4");
        plans("1", 1, "cat", "0 cat 1 1", "0 cat 2");
        plans("0", 1, "cat", "0 cat 1", "0 cat 2");
        plans("1", 1, "cat", "5 cat 1 1", "5 cat 2");
        plans("0", 1, "cat", "5 cat 1", "0 cat 2");
        plans("0", 1, "cat", "0 cat 1", "5 cat 2");
        plans("0 1", 2, "reads", "1 re 1", "0 ads 2", "0 read 3", "2 s 4");
        plans("0 3", 2, "reads", "0 read 1", "1 re 2", "0 ads 3", "2 s 4");
        plans("1 0", 2, "reads", "2 s 4", "0 read 1", "2 s 2", "1 re 3", "0 ads 5");
        plans("1 2", 2, "reads", "2 s 4 4", "0 read 1", "2 s 2", "1 re 3", "0 ads 5 5");
        plans("0 2", 2, "cares", "0 care 1", "0 car 2", "2 s 3", "2 es 4");
        plans("1 2", 2, "cares", "0 car 1", "0 care 2", "2 es 3", "2 s 4");
        plans("0 3", 2, "abc", "5 a 1", "5 ab 2", "5 c 3", "5 bc 4");
        plans("0 2", 2, "abc", "5 ab 1", "5 a 2", "5 c 3", "5 bc 4");
        plans("0 3", 3, "abc", "5 a 1", "5 b 2", "5 c 3", "5 bc 4 4");
        plans("0 1 2", 3, "abc", "5 a 1", "5 b 2", "5 c 3", "5 bc 4 4 4");
        plans("0 1 2", 3, "abcd", "1 a 1", "1 bc 2", "0 d 3", "1 b 4", "0 cd 5");
        plans("0 1 2", 3, "abcd", "1 a 1", "1 b 2", "0 cd 3", "1 bc 4", "0 d 5");
        plans("3 2", 2, "abcd", "1 a 1", "1 b 2", "0 cd 3", "1 ab 4");
        plans("0", 5, "catcatcatcatcats", "0 catcatcatcatcats 1 1 1 1 1", "5 cat 2", "5 s 3 3");
        plans("1 1 1 1 1 2", 6, "catcatcatcatcats", "2 catcatcatcatcats 1 1 1 1 1", "5 cat 2", "5 s 3");
    }

    private static void planRefused() {
        StenoRoom room = room("0 cat 1", "0 dog 2");
        due("15: nothing there", room.plan(1), NONE);
        Check.feed(room, "cat");
        for (int n : new int[] {0, -1, 21, 60, 61, 80, Integer.MIN_VALUE, Integer.MAX_VALUE}) {
            due("15: n " + n, room.plan(n), NONE);
            due("15: the tape stays", room.count(5), 20);
        }
        due("17: no plan yet", room.clear(), NONE);
        due("15: n 3", room.plan(3), 1);
        due("15: empty then", room.count(5), 0);
        String[] others = {"Cat", "cat ", " cat", "cat  dog", "ca.t", " ", "cat\tdog", "{", "`", "ca\u00e9", "cat\0"};
        for (String words : others) {
            due("15: other bytes", Check.plan(room, words), NONE);
            due("15: other bytes, the tape is empty", room.count(5), 0);
            due("16: what was planned stays", Check.planned(room), "0");
        }
        due("15: -2", Check.plan(room, "dog cow"), -2);
        due("15: -2, the tape is empty", room.count(5), 0);
        due("16: what was planned stays by -2", Check.planned(room), "0");
        due("10: its entries", room.count(8), 1);
        due("10: its strokes", room.count(9), 1);
        due("17: clear stays", room.clear(), 1);
        Check.feed(room, "dog dog dog dog dog dog dog dog dog dog dog dog dog dog dog dog dog");
        due("10: 80 bytes", room.count(5), 80);
        due("15: 61 of 80", room.plan(61), NONE);
        due("15: 59 of 80", room.plan(59), 15);
        Check.feed(room, "dog dog dog dog dog dog dog dog dog dog dog dog dog dog dog dog dog");
        due("15: 60 of 80 ends by a blank", room.plan(60), NONE);
        due("10: tape", room.count(5), 0);
    }

    private static void planLongest() {
        String sixty = "a".repeat(60);
        StenoRoom room = room("5 a 1 1 1 1 1");
        due("15: 300 strokes", Check.plan(room, sixty), 300);
        due("10: 60 entries", room.count(8), 60);
        due("10: 300 strokes", room.count(9), 300);
        due("16: the last", room.planned(59), 0);
        due("16: behind it", room.planned(60), NONE);
        due("17: clear", room.clear(), 1);
        StenoRoom halves = room("5 a 1 1 1 1 1", "5 aaaaaaaaaaaaaaaa 2", "1 aaa 3", "0 aaaaaaaaaaaa 4");
        due("15: prefixes of three and a word of twelve", Check.plan(halves, sixty), 17);
        due("16: prefixes", Check.planned(halves), "2 2 2 2 2 2 2 2 2 2 2 2 2 2 2 2 3");
        String words = "a a a a a a a a a a a a a a a a a a a a a a a a a a a a a bb";
        due("15: thirty words, the last can't be", Check.plan(halves, words), -2);
        add(halves, "5 b 7 7 7");
        due("15: thirty words", Check.plan(halves, words), 29 * 5 + 6);
        due("10: 31 entries", halves.count(8), 31);
    }

    private static void planned() {
        StenoRoom room = room("0 dog 1", "0 cat 2", "2 s 3");
        Check.plan(room, "cats");
        int[] want = {1, 2, NONE};
        for (int i = 0; i < want.length; i++) {
            due("16: planned " + i, room.planned(i), want[i]);
        }
        due("16: planned -1", room.planned(-1), NONE);
        room.drop(0);
        due("16: as it was numbered then", Check.planned(room), "1 2");
        due("10: strokes as they were", room.count(9), 2);
        Check.plan(room, "cat");
        due("16: the latest", Check.planned(room), "0");
        due("16: only it", room.planned(1), NONE);
    }

    private static void clear() {
        StenoRoom room = room("0 a 1", "0 b 2", "0 ab 1 2", "0 c 3");
        due("15: b a", Check.plan(room, "b a"), 2);
        due("17: b a", room.clear(), 1);
        due("15: a b", Check.plan(room, "a b"), 2);
        due("17: a b", room.clear(), 0);
        room.drop(2);
        due("17: as it was when it was made", room.clear(), 0);
        due("15: a b", Check.plan(room, "a b"), 2);
        due("17: a b now", room.clear(), 1);
        add(room, "0 bc 2 3");
        due("17: as it was when it was made", room.clear(), 1);
        due("15: a b c", Check.plan(room, "a b c"), 3);
        due("17: the last two", room.clear(), 0);
        StenoRoom record = room("0 a 1", "0 b 2", "0 ab 1 2");
        strokes(record, 1);
        due("15: b", Check.plan(record, "b"), 1);
        due("17: the record is not asked for", record.clear(), 1);
        due("10: nor changed", record.count(0), 1);
        StenoRoom middle = room("0 x 1", "0 y 2 3", "0 z 1 2", "0 w 3");
        due("15: x y", Check.plan(middle, "x y"), 3);
        due("17: other entries of the same strokes", middle.clear(), 0);
    }

    private static void together() {
        StenoRoom room = room("0 a 1", "0 b 2", "0 ab 1 2", "0 bc 2 3", "0 c 3");
        int[][] want = {{0, 1, 0, 1, 0}, {0, 0, 0, 0, 1}, {0, 0, 0, 0, 0}, {0, 0, 0, 0, 0}, {0, 0, 0, 0, 0}};
        for (int a = 0; a < 5; a++) {
            for (int b = 0; b < 5; b++) {
                due("18: together " + a + " " + b, room.together(a, b), want[a][b]);
            }
            due("18: none such", room.together(a, 5), NONE);
            due("18: none such", room.together(5, a), NONE);
            due("18: none such", room.together(a, -1), NONE);
            due("18: none such", room.together(-1, a), NONE);
        }
        StenoRoom self = room("0 a 1", "6 - 1 1");
        due("18: twice the same", self.together(0, 0), 1);
        due("18: a and aa", self.together(0, 1), 1);
        due("18: aa and a", self.together(1, 0), 0);
        due("18: aa and aa", self.together(1, 1), 0);
        StenoRoom first = room("0 ab 1 2", "0 a 1", "0 b 2");
        due("18: the longer one comes first", first.together(1, 2), 1);
        due("19: so in pairs", Check.pairs(first), "1+2");
        StenoRoom five = room("0 a 1 2 3 4", "0 b 5", "0 c 5 6 7 8 9", "0 e 1 2 3 4 5", "0 f 6");
        due("18: five strokes", five.together(0, 1), 1);
        due("18: five of nine", five.together(0, 2), 1);
        due("18: other ones", five.together(0, 4), 0);
        due("18: behind five", five.together(3, 4), 0);
    }

    private static void pair() {
        StenoRoom room = room("0 a 1", "0 b 2", "0 ab 1 2", "0 bc 2 3", "0 c 3");
        int[] want = {1, 3, 64 + 4, NONE, NONE};
        for (int i = 0; i < want.length; i++) {
            due("19: pair " + i, room.pair(i), want[i]);
        }
        due("19: pair -1", room.pair(-1), NONE);
        room.drop(2);
        due("19: pairs anew", Check.pairs(room), "1+3");
        add(room, "0 cc 3 3");
        due("19: pairs anew", Check.pairs(room), "1+3 1+4 3+3 3+4");
        StenoRoom full = new StenoRoom();
        full.entry(1, 0, 0, 0, 0, CAPITAL, 0);
        for (int k = 1; k < 60; k++) {
            full.entry(1, k, 0, 0, 0, CAPITAL, 0);
        }
        due("19: the first", full.pair(0), 0);
        due("19: the last", full.pair(59), 59);
        due("19: behind it", full.pair(60), NONE);
    }

    private static void book() {
        StenoRoom room = room("0 cat 1 2 3 4 5", "3 ; 4194303", "8 - 7 8", "5 abcdefghijklmnop 9");
        strokes(room, 7, 8, 9, 9, 1, 7, 8, ALL);
        int[][] heads = {{0, 5, 3, 0}, {3, 1, 1, 1}, {8, 2, 0, 2}, {5, 1, 16, 2}};
        int[][] outlines = {{1, 2, 3, 4, 5}, {ALL}, {7, 8}, {9}};
        String[] texts = {"cat", ";", "", "abcdefghijklmnop"};
        for (int k = 0; k < 4; k++) {
            for (int what = -3; what < 50; what++) {
                int want = NONE;
                if (what >= 0 && what < 4) {
                    want = heads[k][what];
                } else if (what >= 10 && what < 10 + outlines[k].length) {
                    want = outlines[k][what - 10];
                } else if (what >= 20 && what < 20 + texts[k].length()) {
                    want = texts[k].charAt(what - 20);
                }
                due("20: book " + k + " " + what, room.book(k, what), want);
            }
        }
        for (int what = 0; what < 40; what++) {
            due("20: none such", room.book(4, what), NONE);
            due("20: none such", room.book(-1, what), NONE);
        }
        room.cut(2);
        due("20: translations that are it", room.book(3, 3), 1);
    }

    /** Whatever is asked for, nothing is thrown, and what is refused changes nothing. */
    private static void wrongNumbers() {
        StenoRoom room = room("0 cat 1", "2 s 2", "0 cats 1 2");
        strokes(room, 1, 2, 3);
        Check.plan(room, "cats");
        for (int i : NO_NUMBERS) {
            due("4: drop " + i, room.drop(i), false);
            due("5: stroke " + i, room.stroke(i), NONE);
            due("9: cut " + i, room.cut(i), NONE);
            due("10: count " + i, room.count(i), NONE);
            due("12: octet " + i, room.octet(i), NONE);
            due("13: of " + i, room.of(i), NONE);
            due("15: plan " + i, room.plan(i), NONE);
            due("16: planned " + i, room.planned(i), NONE);
            due("19: pair " + i, room.pair(i), NONE);
            for (int j : new int[] {-1, 0, 1, Integer.MIN_VALUE, Integer.MAX_VALUE}) {
                due("7: correct " + i + " " + j, room.correct(i, j), false);
                due("7: correct " + j + " " + i, room.correct(j, i), false);
                due("8: insert " + i + " " + j, room.insert(i, j), false);
                due("8: insert " + j + " " + i, room.insert(j, i), false);
                due("11: told " + i + " " + j, room.told(i, j), NONE);
                due("11: told " + j + " " + i, room.told(j, i), NONE);
                due("14: written " + i + " " + j, room.written(i, j), NONE);
                due("14: written " + j + " " + i, room.written(j, i), NONE);
                due("18: together " + i + " " + j, room.together(i, j), NONE);
                due("18: together " + j + " " + i, room.together(j, i), NONE);
                due("20: book " + i + " " + j, room.book(i, j), NONE);
                due("20: book " + j + " " + i, room.book(j, i), NONE);
                due("3: entry " + i, room.entry(5, 0, 0, 0, 0, i, j), NONE);
                due("3: entry of " + i, room.entry(5, 0, 0, 0, 0, WORD, i), NONE);
            }
        }
        due("12: text as it was", Check.text(room), "cats ST");
        due("16: plan as it was", Check.planned(room), "2");
        due("10: entries as they were", room.count(4), 3);
    }
}
