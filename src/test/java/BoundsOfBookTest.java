/**
 * The sentences of the document that name a boundary of the keys, the tape and the book (terms 1, promises
 * 1 to 4 and 20), each on both sides: the last value that is taken and the first that is not.
 */
public final class BoundsOfBookTest {
    private static final int WORD = 0;
    private static final int STOP = 3;
    private static final int CAPITAL = 6;
    private static final int JOIN = 7;
    private static final int UPPER = 8;
    private static final int ALL = 4194303;
    private static final int NONE = -1;
    private static final int LOWEST = Integer.MIN_VALUE;
    private static final int HIGHEST = Integer.MAX_VALUE;
    private static final int[] LETTER_KINDS = {0, 1, 2, 5};
    private static final int[] MARK_KINDS = {3, 4};
    private static final int[] COMMANDS = {6, 7, 8};
    private static final int[] NO_STROKES = {-1, ALL + 1, ALL + 2, 1 << 30, LOWEST, LOWEST + 1, HIGHEST, -ALL};
    private static final String SIXTEEN = "abcdefghijklmnop";

    private static final Check CHECK = new Check();

    public static void main(String[] args) {
        everyKeyIsAStroke();
        strokesOfAnOutline();
        oneToFiveStrokes();
        zerosBehindTheLastOne();
        dashAheadOfTheRightOnes();
        newObjectIsEmpty();
        eightyBytesOfTape();
        highestByteFirst();
        nineKinds();
        oneToSixteenBytes();
        commandsHaveNone();
        oneByteOfMarks();
        smallLettersAlone();
        marksAlone();
        notSoMany();
        bytesBehindTheText();
        outlinesAreUnlike();
        sixtyAtMost();
        sixtyAgainAndAgain();
        numbersFromZero();
        dropsOnlyWhatIsThere();
        numbersOneLower();
        allOfAnEntryMoves();
        firstStrokeIsReadAnew();
        droppedOutlineIsFree();
        factsOfAnEntry();
        strokesAndBytesOfAnEntry();
        noSuchEntry();
        CHECK.end("BoundsOfBookTest");
    }

    private static void sentence(String words) {
        CHECK.sentence(words);
    }

    private static void due(String call, int got, int want) {
        CHECK.due(call, got, want);
    }

    private static void due(String call, boolean got, boolean want) {
        CHECK.due(call, got, want);
    }

    private static void due(String call, String got, String want) {
        CHECK.due(call, got, want);
    }

    private static void everyKeyIsAStroke() {
        sentence("The 22 KEYS in their order: S T K P W H R, A O * E U, F R P B L G T S D Z");
        String keys = "STKPWHRAO*EUFRPBLGTSDZ";
        Desk desk = new Desk();
        for (int bit = 0; bit < 32; bit++) {
            due("key " + bit, desk.stroke(1 << bit), bit < 22 ? bit + 1 : NONE);
        }
        for (int bit = 0; bit < 22; bit++) {
            due("letter " + bit, desk.written(bit), (bit >= 12 ? "-" : "") + keys.charAt(bit));
        }
        due("all of them", desk.stroke(ALL), 23);
        due("all letters", desk.written(22), keys);
    }

    private static void strokesOfAnOutline() {
        sentence("NONE: no such STROKES");
        for (int place = 0; place < 5; place++) {
            int[] o = {1, 1, 1, 1, 1};
            for (int keys : NO_STROKES) {
                Desk desk = new Desk();
                desk.feed("abc");
                o[place] = keys;
                due(keys + " at " + place, desk.entryOfTape(WORD, 3, o), NONE);
                due(keys + " at " + place + ", entries", desk.count(4), 0);
                due(keys + " at " + place + ", the tape stays", desk.count(5), 20);
            }
            for (int keys : new int[] {1, ALL}) {
                Desk desk = new Desk();
                desk.feed("abc");
                o[place] = keys;
                due(keys + " at " + place, desk.entryOfTape(WORD, 3, o), 0);
                due(keys + " is there", desk.book(0, 10 + place), keys);
                due(keys + " at " + place + ", the tape is empty", desk.count(5), 0);
            }
        }
    }

    private static void oneToFiveStrokes() {
        sentence("An OUTLINE is one to five STROKES.");
        int[][] outlines = {{1}, {1, 1}, {1, 1, 1}, {1, 1, 1, 1}, {1, 1, 1, 1, 1}};
        Desk desk = new Desk();
        due("none", desk.entryOfTape(CAPITAL, 0), NONE);
        for (int i = 0; i < outlines.length; i++) {
            due("so many: " + (i + 1), desk.entryOfTape(CAPITAL, 0, outlines[i]), i);
            due("strokes of it: " + (i + 1), desk.book(i, 1), i + 1);
            due("the last of it: " + (i + 1), desk.book(i, 10 + i), 1);
            due("behind the last of it: " + (i + 1), desk.book(i, 11 + i), NONE);
        }
    }

    private static void zerosBehindTheLastOne() {
        sentence("the OUTLINE a, b, .. (0s behind the last one)");
        for (int bits = 0; bits < 32; bits++) {
            Desk desk = new Desk();
            int[] o = new int[5];
            for (int i = 0; i < 5; i++) {
                o[i] = (bits >> i & 1) * (i + 1);
            }
            boolean zerosBehind = bits != 0 && (bits & bits + 1) == 0;
            due("strokes at the bits of " + bits, desk.entryOfTape(JOIN, 0, o), zerosBehind ? 0 : NONE);
            due("entries by the bits of " + bits, desk.count(4), zerosBehind ? 1 : 0);
        }
    }

    private static void dashAheadOfTheRightOnes() {
        sentence("with a - ahead of the right ones, if there are right ones and no middle ones");
        int[] keys = {64, 64 + 4096, 4096, 64 + 128, 64 + 128 + 4096, 128 + 4096, 1 + 256 + 4096, 1 + 512 + 4096,
            1 + 1024 + 4096, 1 + 2048 + 4096, 2048 + 2097152, 127 + 4190208, ALL - 2048, 3968, 2048, 2097152};
        String[] letters = {"R", "R-F", "-F", "RA", "RAF", "AF", "SOF", "S*F", "SEF", "SUF", "UZ",
            "STKPWHR-FRPBLGTSDZ", "STKPWHRAO*EFRPBLGTSDZ", "AO*EU", "U", "-Z"};
        Desk desk = new Desk().strokes(keys);
        for (int i = 0; i < keys.length; i++) {
            due("stroke " + keys[i], desk.written(i), letters[i]);
        }
    }

    private static void newObjectIsEmpty() {
        sentence("An empty BOOK, RECORD, tape.");
        due("all of it", new Desk().state(), "0 0 0 0 0 0 0 0 0 0 |  | |  | -1 | ");
        Desk desk = new Desk();
        due("no byte for an entry", desk.entry(1, 0, 0, 0, 0, WORD, 1), NONE);
        due("no byte for a plan", desk.plan(1), NONE);
        due("none to drop", desk.drop(0), false);
        due("none to take back", desk.back(), NONE);
        due("none to correct", desk.correct(0, 1), false);
        due("none to cut", desk.cut(0), NONE);
        due("none to be ahead of", desk.insert(1, 1), false);
        due("the first entry", desk.entry(1, 0, 0, 0, 0, CAPITAL, 0), 0);
        due("the first stroke", desk.stroke(1), 1);
        due("the first bytes", desk.feed(0, 0, 0, 0, 0), 20);
        due("another object is empty still", new Desk().counts(), "0 0 0 0 0 0 0 0 0 0");
    }

    private static void eightyBytesOfTape() {
        sentence("how many it has; NONE if that would be more than 80");
        Desk desk = new Desk();
        for (int size = 20; size <= 80; size += 20) {
            due("so many: " + size, desk.feed(0x61626364, 0, 0, 0, size), size);
            due("count(5) at " + size, desk.count(5), size);
        }
        due("the fifth", desk.feed(0x7a7a7a7a, 0x7a7a7a7a, 0x7a7a7a7a, 0x7a7a7a7a, 0x7a7a7a7a), NONE);
        due("and once more", desk.feed(0x7a7a7a7a, 0, 0, 0, 0), NONE);
        due("80 still", desk.count(5), 80);
        due("its first bytes are taken", desk.entry(1, 0, 0, 0, 0, WORD, 4), 0);
        due("they are the first that were fed", desk.entryTold(0), "0 abcd 1");
        due("empty", desk.count(5), 0);
        due("from 20 on again", desk.feed(0, 0, 0, 0, 0), 20);
        Desk full = new Desk("5 abcd 1");
        full.feed("abcd".repeat(20));
        due("refused", full.feed(0, 0, 0, 0, 0), NONE);
        due("the bytes up to the 60th stand", full.plan(60), 15);
    }

    private static void highestByteFirst() {
        sentence("Twenty bytes come behind the tape, the highest of each int first");
        Desk desk = new Desk();
        desk.feed(0x61626364, 0x65666768, 0x696a6b6c, 0x6d6e6f70, 0x71727374);
        due("sixteen of twenty", desk.entry(1, 0, 0, 0, 0, WORD, 16), 0);
        due("in this order", desk.entryTold(0), "0 abcdefghijklmnop 1");
        String forty = "abcdefghijklmnopqrstuvwxyzabcdefghijklmn";
        Desk second = new Desk("5 abcdefghijklmnop 1", "5 qrst 2", "5 uvwxyzabcdefghij 3", "5 klmn 4");
        second.feed(forty);
        due("the second twenty come behind the first", second.plan(40), 4);
        due("all forty", second.planned(), "0 1 2 3");
        for (int top : new int[] {0x80000061, 0xe1000000, 0x00000061, 0xff616161}) {
            Desk high = new Desk();
            high.feed(top, 0, 0, 0, 0);
            due("the first byte of " + top + " is no a", high.entry(1, 0, 0, 0, 0, WORD, 1), NONE);
        }
    }

    private static void nineKinds() {
        sentence("no such STROKES, KIND");
        for (int kind : new int[] {-1, 9, 10, LOWEST, HIGHEST, 256, 65536, -8}) {
            for (int n = 0; n <= 2; n++) {
                Desk desk = new Desk();
                desk.feed("ab");
                due("kind " + kind + " of " + n, desk.entry(1, 0, 0, 0, 0, kind, n), NONE);
                due("kind " + kind + ", the tape stays", desk.count(5), 20);
                due("kind " + kind + ", the tape's bytes stay", desk.entry(1, 0, 0, 0, 0, WORD, 2), 0);
            }
        }
        String[] texts = {"a", "a", "a", ".", ".", "a", "", "", ""};
        for (int kind = 0; kind <= 8; kind++) {
            Desk desk = new Desk();
            due("kind " + kind, desk.entry(kind, texts[kind], 1), 0);
            due("it is " + kind, desk.book(0, 0), kind);
        }
    }

    private static void oneToSixteenBytes() {
        sentence("n (commands 0, STOP and COMMA 1, others 1 to 16)");
        for (int kind : LETTER_KINDS) {
            for (int n : new int[] {0, -1, 17, 20, LOWEST, HIGHEST}) {
                Desk desk = new Desk();
                desk.feed(SIXTEEN + "qrst");
                due(n + " of " + kind, desk.entry(1, 0, 0, 0, 0, kind, n), NONE);
                due(n + " of " + kind + ", the tape stays", desk.count(5), 20);
                due(n + " of " + kind + ", no entry", desk.count(4), 0);
                due(n + " of " + kind + ", its bytes stay", desk.entry(1, 0, 0, 0, 0, kind, 16), 0);
                due(n + " of " + kind + ", these", desk.entryTold(0), kind + " " + SIXTEEN + " 1");
            }
            for (int n = 1; n <= 16; n++) {
                Desk desk = new Desk();
                desk.feed(SIXTEEN + "qrst");
                due(n + " of " + kind, desk.entry(1, 0, 0, 0, 0, kind, n), 0);
                due(n + " of " + kind, desk.entryTold(0), kind + " " + SIXTEEN.substring(0, n) + " 1");
            }
        }
    }

    private static void commandsHaveNone() {
        sentence("a TEXT of 1 to 16 bytes (commands: none)");
        for (int kind : COMMANDS) {
            for (int n : new int[] {1, -1, 16, 17, LOWEST, HIGHEST}) {
                Desk desk = new Desk();
                desk.feed("abc");
                due(n + " of " + kind, desk.entry(1, 0, 0, 0, 0, kind, n), NONE);
                due(n + " of " + kind + ", the tape stays", desk.count(5), 20);
            }
            Desk desk = new Desk();
            due("0 of " + kind + " of an empty tape", desk.entry(1, 0, 0, 0, 0, kind, 0), 0);
            due("bytes of " + kind, desk.book(0, 2), 0);
            due("byte 0 of " + kind, desk.book(0, 20), NONE);
            desk.feed("ABC");
            due("0 of " + kind + ", whatever the tape has", desk.entry(2, 0, 0, 0, 0, kind, 0), 1);
            due("the tape is empty then", desk.count(5), 0);
        }
    }

    private static void oneByteOfMarks() {
        sentence("STOP and COMMA 1");
        for (int kind : MARK_KINDS) {
            for (int n : new int[] {0, 2, -1, 16, 17, LOWEST, HIGHEST}) {
                Desk desk = new Desk();
                desk.feed("..");
                due(n + " of " + kind, desk.entry(1, 0, 0, 0, 0, kind, n), NONE);
                due(n + " of " + kind + ", the tape stays", desk.count(5), 20);
                due("1 of " + kind, desk.entry(1, 0, 0, 0, 0, kind, 1), 0);
                due("1 of " + kind + ", bytes", desk.book(0, 2), 1);
            }
        }
    }

    private static void smallLettersAlone() {
        sentence("0 WORD, 1 PREFIX, 2 SUFFIX, 5 GLUE: a .. z alone");
        for (int kind : LETTER_KINDS) {
            for (int octet = 0; octet < 256; octet++) {
                boolean small = octet >= 'a' && octet <= 'z';
                for (int place : new int[] {0, 7, 15}) {
                    Desk desk = new Desk();
                    String text = SIXTEEN.substring(0, place) + (char) octet + SIXTEEN.substring(place + 1);
                    due(octet + " at " + place + " of " + kind, desk.entry(kind, text, 1), small ? 0 : NONE);
                    due("entries by " + octet, desk.count(4), small ? 1 : 0);
                    due("the tape is empty then, also if it is refused by them: " + octet, desk.count(5), 0);
                }
            }
        }
    }

    private static void marksAlone() {
        sentence("3 STOP, 4 COMMA: one of . , ; : ? ! alone");
        for (int kind : MARK_KINDS) {
            for (int octet = 0; octet < 256; octet++) {
                boolean mark = ".,;:?!".indexOf(octet) >= 0;
                Desk desk = new Desk();
                due(octet + " of " + kind, desk.entry(kind, "" + (char) octet, 1), mark ? 0 : NONE);
                due("its byte " + octet, desk.book(0, 20), mark ? octet : NONE);
                due("the tape is empty then, also if it is refused by them: " + octet, desk.count(5), 0);
            }
        }
    }

    private static void notSoMany() {
        sentence("it has not so many (the tape stays)");
        for (int kind : LETTER_KINDS) {
            Desk desk = new Desk();
            due("1 of none, " + kind, desk.entry(1, 0, 0, 0, 0, kind, 1), NONE);
            due("16 of none, " + kind, desk.entry(1, 0, 0, 0, 0, kind, 16), NONE);
            due("none has come, " + kind, desk.count(4), 0);
            desk.feed(SIXTEEN);
            due("16 of twenty, " + kind, desk.entry(1, 0, 0, 0, 0, kind, 16), 0);
            due("the four behind them are gone, too, " + kind, desk.entry(2, 0, 0, 0, 0, kind, 1), NONE);
        }
        Desk marks = new Desk();
        due("STOP of none", marks.entry(1, 0, 0, 0, 0, STOP, 1), NONE);
        marks.feed(".");
        due("STOP of twenty", marks.entry(1, 0, 0, 0, 0, STOP, 1), 0);
    }

    private static void bytesBehindTheText() {
        sentence("its TEXT the first n bytes of the tape (empty then, also if it is refused by them)");
        Desk desk = new Desk();
        desk.feed("abC");
        due("the third is not asked for", desk.entry(1, 0, 0, 0, 0, WORD, 2), 0);
        due("two of them", desk.entryTold(0), "0 ab 1");
        due("empty by success", desk.count(5), 0);
        desk.feed("abC");
        due("the third is asked for", desk.entry(2, 0, 0, 0, 0, WORD, 3), NONE);
        due("empty by other bytes", desk.count(5), 0);
        desk.feed("x".repeat(80));
        due("of eighty", desk.entry(2, 0, 0, 0, 0, WORD, 1), 1);
        due("all eighty are gone", desk.count(5), 0);
        desk.feed("x".repeat(80));
        due("a command of eighty", desk.entry(4, 0, 0, 0, 0, UPPER, 0), 2);
        due("all eighty are gone by a command", desk.count(5), 0);
    }

    private static void outlinesAreUnlike() {
        sentence("an OUTLINE (no two alike)");
        Desk desk = new Desk("0 cat 1 2 3 4 5");
        desk.feed("dog");
        due("the same", desk.entry(1, 2, 3, 4, 5, WORD, 3), NONE);
        due("the same: the tape is empty then", desk.count(5), 0);
        due("the same, another kind", desk.entry(1, 2, 3, 4, 5, UPPER, 0), NONE);
        due("none has come", desk.count(4), 1);
        due("it is as it was", desk.entryTold(0), "0 cat 1 2 3 4 5");
        due("another last one", desk.add("0 dog 1 2 3 4 6"), 1);
        due("another first one", desk.add("0 dog 6 2 3 4 5"), 2);
        due("another in the middle", desk.add("0 dog 1 2 6 4 5"), 3);
        due("its first four", desk.add("0 dog 1 2 3 4"), 4);
        due("its last four", desk.add("0 dog 2 3 4 5"), 5);
        due("the other way round", desk.add("0 dog 5 4 3 2 1"), 6);
        due("its first alone", desk.add("0 dog 1"), 7);
        due("that again", desk.add("0 dog 1"), NONE);
        due("that twice", desk.add("0 dog 1 1"), 8);
        due("the last that came again", desk.add("7 - 1 1"), NONE);
        due("the same text and kind by another", desk.add("0 cat 2"), 9);
        due("ten", desk.count(4), 10);
    }

    private static Desk sixty() {
        Desk desk = new Desk();
        for (int k = 0; k < 60; k++) {
            due("entry " + k, desk.entry(k + 1, k + 1, 0, 0, 0, CAPITAL, 0), k);
        }
        return desk;
    }

    private static void sixtyAtMost() {
        sentence("THE BOOK has ENTRIES, 60 at most; NONE: .. 60 are there");
        Desk desk = sixty();
        due("the 61st", desk.entry(100, 0, 0, 0, 0, CAPITAL, 0), NONE);
        due("sixty", desk.count(4), 60);
        due("there is no 60", desk.book(60, 0), NONE);
        due("59 is as it was", desk.entryTold(59), "6 - 60 60");
        due("0 is as it was", desk.entryTold(0), "6 - 1 1");
        desk.feed("abc");
        due("the 61st with a text", desk.entry(100, 0, 0, 0, 0, WORD, 3), NONE);
        due("the tape is empty then", desk.count(5), 0);
        desk.feed("abc");
        due("the 61st of no such n", desk.entry(100, 0, 0, 0, 0, WORD, 17), NONE);
        due("the tape stays", desk.count(5), 20);
        due("a stroke of the refused one is raw", desk.strokes(100).translations(), "*");
        due("the last one is read", desk.strokes(60, 60).translations(), "* 59");
        due("the first one is read", desk.strokes(1, 1).translations(), "* 59 0");
    }

    private static void sixtyAgainAndAgain() {
        sentence("ENTRY k is gone, others behind it get numbers 1 lower");
        for (int k : new int[] {0, 30, 59}) {
            Desk desk = sixty();
            due("of sixty " + k, desk.drop(k), true);
            due("59 are there", desk.count(4), 59);
            due("there is no 59", desk.book(59, 0), NONE);
            due("no 59 to drop", desk.drop(59), false);
            due("the one behind it", desk.book(k, 10), k == 59 ? NONE : k + 2);
            due("the one ahead of it", desk.book(k - 1, 10), k == 0 ? NONE : k);
            due("the sixtieth again", desk.add("5 " + SIXTEEN + " 7 7 7 7 7"), 59);
            due("all of it", desk.entryTold(59), "5 " + SIXTEEN + " 7 7 7 7 7");
            due("the one ahead of it stands", desk.entryTold(58), k == 59 ? "6 - 59 59" : "6 - 60 60");
            due("full again", desk.entry(100, 0, 0, 0, 0, CAPITAL, 0), NONE);
        }
    }

    private static void numbersFromZero() {
        sentence("An ENTRY: its number (from 0 on; all is READ anew)");
        Desk desk = new Desk().strokes(1, 2);
        due("raw so far", desk.text(), "S T");
        due("the first is 0", desk.add("0 cat 1"), 0);
        due("read anew", desk.text(), "cat T");
        due("the second is 1", desk.add("0 dog 1 2"), 1);
        due("read anew by the longer one", desk.text(), "dog");
        due("a refused one", desk.add("0 cow 1 2"), NONE);
        due("has no number: the third is 2", desk.add("0 cow 3"), 2);
        due("nothing to read by it", desk.text(), "dog");
    }

    private static void dropsOnlyWhatIsThere() {
        sentence("true; false: there is none such");
        Desk desk = new Desk("0 a 1", "0 b 2", "0 c 3");
        for (int k : new int[] {-1, 3, 4, 60, LOWEST, HIGHEST}) {
            due("drop " + k, desk.drop(k), false);
        }
        due("three", desk.count(4), 3);
        due("the last", desk.drop(2), true);
        due("it is gone", desk.drop(2), false);
        due("the first", desk.drop(0), true);
        due("the one that is left", desk.entryTold(0), "0 b 2");
        due("the only one", desk.drop(0), true);
        due("none is left", desk.drop(0), false);
        due("none", desk.count(4), 0);
    }

    private static void numbersOneLower() {
        sentence("others behind it get numbers 1 lower; all is READ anew");
        Desk desk = new Desk("0 a 1", "0 b 2", "0 c 1 2", "2 s 3", "3 ; 4");
        due("ahead of it", desk.translationsOf(1, 2, 3, 4, 1), "2 3 4 0");
        due("drop 2", desk.drop(2), true);
        due("behind it", desk.translations(), "0 1 2 3 0");
        due("texts", desk.text(), "a bs; A");
        due("entry 1 stands", desk.entryTold(1), "0 b 2");
        due("entry 2 was 3", desk.entryTold(2), "2 s 3");
        due("entry 3 was 4", desk.entryTold(3), "3 ; 4");
        due("there is no 4", desk.book(4, 0), NONE);
        due("drop 3, the last", desk.drop(3), true);
        due("those ahead keep their numbers", desk.translations(), "0 1 2 * 0");
    }

    private static void allOfAnEntryMoves() {
        sentence("others behind it get numbers 1 lower");
        String[] all = {"0 cat 1", "8 - 1 2", "5 " + SIXTEEN + " 1 2 3 4 5", "3 ; 4194303", "2 ing 4 5 6", "1 re 7 8 9 10"};
        for (int k = 0; k < all.length; k++) {
            Desk desk = new Desk(all);
            due("drop " + k, desk.drop(k), true);
            for (int left = 0; left < all.length - 1; left++) {
                due(left + " behind drop " + k, desk.entryTold(left), all[left < k ? left : left + 1]);
            }
            due("the last number is none now", desk.book(all.length - 1, 0), NONE);
        }
    }

    private static void firstStrokeIsReadAnew() {
        sentence("others behind it get numbers 1 lower; all is READ anew");
        Desk desk = new Desk("0 a 1", "0 b 2");
        due("ahead of it", desk.translationsOf(1, 2, 1), "0 1 0");
        desk.drop(0);
        due("the first stroke is raw", desk.translations(), "* 0 *");
        desk.add("0 c 1");
        due("the first stroke is another's", desk.translations(), "1 0 1");
        desk.add("0 d 1 2");
        due("the first two are one's", desk.translations(), "2 1");
        desk.drop(0);
        due("numbers alone have changed", desk.translations(), "1 0");
    }

    private static void droppedOutlineIsFree() {
        sentence("ENTRY k is gone");
        Desk desk = new Desk("0 a 1 2", "0 b 3");
        due("it is there", desk.add("0 c 1 2"), NONE);
        desk.drop(0);
        due("its outline is free", desk.add("1 c 1 2"), 1);
        due("it is another one", desk.entryTold(1), "1 c 1 2");
        Desk shorter = new Desk("0 abcdefgh 1 2 3");
        shorter.drop(0);
        shorter.add("0 z 1");
        due("nothing of the old one is left", shorter.entryTold(0), "0 z 1");
        due("no second stroke", shorter.book(0, 11), NONE);
        due("no second byte", shorter.book(0, 21), NONE);
    }

    private static void factsOfAnEntry() {
        sentence("what 0 KIND, 1 how many STROKES, 2 bytes of its TEXT, 3 how many TRANSLATIONS are it");
        Desk desk = new Desk("0 cat 1 1", "8 - 2", "4 ! 1").strokes(1, 1, 1, 1, 1, 8);
        int[][] want = {{0, 2, 3, 2}, {8, 1, 0, 0}, {4, 1, 1, 1}};
        for (int k = 0; k < 3; k++) {
            for (int what = 0; what < 4; what++) {
                due("book " + k + " " + what, desk.book(k, what), want[k][what]);
            }
            for (int what : new int[] {-1, 4, 5, 9, LOWEST, HIGHEST, LOWEST + 10, LOWEST + 20}) {
                due("NONE for others: book " + k + " " + what, desk.book(k, what), NONE);
            }
        }
        desk.back();
        desk.back();
        due("taken back", desk.book(2, 3), 0);
        due("two still", desk.book(0, 3), 2);
        desk.cut(0);
        due("one", desk.book(0, 3), 1);
        due("and the other", desk.book(2, 3), 1);
    }

    private static void strokesAndBytesOfAnEntry() {
        sentence("10 + i STROKE i; 20 + i byte i of its TEXT. NONE for others.");
        Desk desk = new Desk("0 " + SIXTEEN + " 11 12 13 14 15", "5 z 4194303", "6 - 7 8");
        for (int i = 0; i < 10; i++) {
            due("stroke " + i + " of five", desk.book(0, 10 + i), i < 5 ? 11 + i : NONE);
            due("stroke " + i + " of one", desk.book(1, 10 + i), i < 1 ? ALL : NONE);
            due("stroke " + i + " of two", desk.book(2, 10 + i), i < 2 ? 7 + i : NONE);
        }
        for (int i = 0; i < 20; i++) {
            due("byte " + i + " of sixteen", desk.book(0, 20 + i), i < 16 ? 'a' + i : NONE);
            due("byte " + i + " of one", desk.book(1, 20 + i), i < 1 ? 'z' : NONE);
            due("byte " + i + " of none", desk.book(2, 20 + i), NONE);
        }
    }

    private static void noSuchEntry() {
        sentence("Of ENTRY k");
        Desk desk = new Desk("0 cat 1", "0 dog 2");
        for (int k : new int[] {-1, 2, 3, 60, LOWEST, HIGHEST}) {
            for (int what : new int[] {0, 1, 2, 3, 10, 20, -1, LOWEST, HIGHEST}) {
                due("book " + k + " " + what, desk.book(k, what), NONE);
            }
        }
        due("the last that is there", desk.book(1, 20), 'd');
        due("the first that is there", desk.book(0, 20), 'c');
    }
}
