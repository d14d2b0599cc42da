/**
 * The sentences of the document that name a boundary of the record and of how it is read (terms 2, promises
 * 5 to 14), each on both sides: the last value that is taken and the first that is not.
 */
public final class BoundsOfRecordTest {
    private static final int ALL = 4194303;
    private static final int NONE = -1;
    private static final int LOWEST = Integer.MIN_VALUE;
    private static final int HIGHEST = Integer.MAX_VALUE;
    private static final int[] STROKES = {1, 2, 2097152, ALL - 1, ALL};
    private static final int[] NO_STROKES = {0, -1, ALL + 1, ALL + 2, 1 << 30, LOWEST, LOWEST + 1, HIGHEST, -ALL};

    private static final Check CHECK = new Check();

    public static void main(String[] args) {
        strokeTakesOneToAll();
        correctTakesOneToAll();
        insertTakesOneToAll();
        threeHundredByStroke();
        threeHundredByInsert();
        threeHundredCorrected();
        threeHundredTakenBack();
        threeHundredOfOneEntry();
        backWithout();
        backWithAllThatHungOnIt();
        correctOnlyWhatIsThere();
        correctOfTheSame();
        insertAheadOrBehind();
        insertIntoNone();
        cutOnlyWhatIsThere();
        cutTheOnlyOne();
        noneOneTwoTranslations();
        allStrokesOfTranslations();
        longestIsTaken();
        fiveStrokesAtMost();
        rawByItself();
        countWhat();
        countOfShiftAndLink();
        shiftAndLinkFromZero();
        toldWhat();
        toldLengths();
        toldNoSuchTranslation();
        octetOfTheText();
        octetOfNone();
        ofStrokes();
        writtenBytes();
        writtenNoSuchStroke();
        fiveHundredAndTwelveCalls();
        CHECK.end("BoundsOfRecordTest");
    }

    private static void sentence(String words) {
        CHECK.sentence(words);
    }

    private static void due(String call, int got, int want) {
        CHECK.due(call, got, want);
    }

    private static void due(String call, boolean got, boolean want) {
        CHECK.due(call, got, want);
    }

    private static void due(String call, String got, String want) {
        CHECK.due(call, got, want);
    }

    private static void strokeTakesOneToAll() {
        sentence("A STROKE comes behind THE RECORD: how many it has; NONE: no such one");
        Desk desk = new Desk();
        for (int keys : NO_STROKES) {
            due("stroke " + keys + " to none", desk.stroke(keys), NONE);
        }
        due("none has come", desk.count(0), 0);
        for (int i = 0; i < STROKES.length; i++) {
            due("stroke " + STROKES[i], desk.stroke(STROKES[i]), i + 1);
            due("how many", desk.count(0), i + 1);
        }
        for (int keys : NO_STROKES) {
            due("stroke " + keys + " to some", desk.stroke(keys), NONE);
        }
        due("how many still", desk.count(0), STROKES.length);
        due("the last still", desk.back(), ALL);
    }

    private static void correctTakesOneToAll() {
        sentence("STROKE i of THE RECORD is another one: true; false: .. or no such STROKE");
        Desk desk = new Desk().strokes(4, 8, 16);
        for (int i = 0; i < 3; i++) {
            for (int keys : NO_STROKES) {
                due("correct " + i + " to " + keys, desk.correct(i, keys), false);
            }
        }
        due("as it was", desk.text(), "K P W");
        for (int keys : STROKES) {
            due("correct 1 to " + keys, desk.correct(1, keys), true);
            due("it is this now", desk.told(1, 4) - desk.told(1, 3) - 1, desk.written(1).length());
        }
        due("the others as they were", desk.text(), "K STKPWHRAO*EUFRPBLGTSDZ W");
        due("no more than there were", desk.count(0), 3);
    }

    private static void insertTakesOneToAll() {
        sentence("A STROKE comes ahead of STROKE i (or behind the last): true; false: none such");
        Desk desk = new Desk().strokes(4, 8);
        for (int i = 0; i < 3; i++) {
            for (int keys : NO_STROKES) {
                due("insert " + keys + " at " + i, desk.insert(i, keys), false);
            }
        }
        due("as it was", desk.text(), "K P");
        for (int keys : STROKES) {
            due("insert " + keys + " at 1", desk.insert(1, keys), true);
        }
        due("so many", desk.count(0), 2 + STROKES.length);
        for (int i = STROKES.length - 1; i >= 0; i--) {
            due("cut it", desk.cut(1), STROKES[i]);
        }
        due("as it was again", desk.text(), "K P");
    }

    private static Desk record(int strokes) {
        Desk desk = new Desk();
        for (int i = 0; i < strokes; i++) {
            desk.stroke(i % 2 + 1);
        }
        return desk;
    }

    private static void threeHundredByStroke() {
        sentence("THE RECORD is a row of STROKES, 300 at most; NONE: no such one, 300 are there");
        Desk desk = record(298);
        due("the 299th", desk.stroke(4), 299);
        due("the 300th", desk.stroke(8), 300);
        due("the 301st", desk.stroke(16), NONE);
        due("the 301st of all keys", desk.stroke(ALL), NONE);
        due("300", desk.count(0), 300);
        due("300 translations", desk.count(1), 300);
        due("the text", desk.count(3), 599);
        due("its last byte", desk.octet(598), 'P');
        due("of 299", desk.of(299), 299);
        due("of 300", desk.of(300), NONE);
        due("told 299", desk.told(299, 1), 299);
        due("told 300", desk.told(300, 1), NONE);
        due("the last taken back", desk.back(), 8);
        due("the 300th again", desk.stroke(16), 300);
        due("and no more", desk.stroke(16), NONE);
        due("its last byte", desk.octet(598), 'W');
    }

    private static void threeHundredByInsert() {
        sentence("A STROKE comes ahead of STROKE i (or behind the last): true; false: none such, 300 are there");
        for (int at : new int[] {0, 150, 299}) {
            Desk desk = record(299);
            due("the 300th at " + at, desk.insert(at, 4), true);
            due("300", desk.count(0), 300);
            due("it stands there", desk.written(at), "K");
            due("the 301st at 0", desk.insert(0, 8), false);
            due("the 301st at 299", desk.insert(299, 8), false);
            due("the 301st behind the last", desk.insert(300, 8), false);
            due("300 still", desk.count(0), 300);
            due("the first", desk.written(0), at == 0 ? "K" : "S");
            due("the last", desk.written(299), at == 299 ? "K" : "S");
            due("cut it", desk.cut(at), 4);
            due("room again, behind the last", desk.insert(299, 8), true);
            due("the last now", desk.written(299), "P");
        }
    }

    private static void threeHundredCorrected() {
        sentence("STROKE i of THE RECORD is another one: true; false: there is none such");
        Desk desk = record(300);
        due("299", desk.correct(299, 4), true);
        due("300", desk.correct(300, 4), false);
        due("0", desk.correct(0, 8), true);
        due("-1", desk.correct(-1, 8), false);
        due("the last", desk.octet(598), 'K');
        due("the first", desk.octet(0), 'P');
        due("300 still", desk.count(0), 300);
    }

    private static void threeHundredTakenBack() {
        sentence("The last STROKE is taken back: it; NONE without.");
        Desk desk = record(150);
        for (int i = 149; i >= 0; i--) {
            due("back to " + i, desk.back(), i % 2 + 1);
        }
        due("without", desk.back(), NONE);
        due("an empty text", desk.count(3), 0);
        Desk cut = record(300);
        due("cut 300 of 300", cut.cut(300), NONE);
        due("cut 299 of 300", cut.cut(299), 2);
        due("cut 299 of 299", cut.cut(299), NONE);
        due("cut 0", cut.cut(0), 1);
        due("298", cut.count(0), 298);
        due("the first now", cut.octet(0), 'T');
    }

    private static void threeHundredOfOneEntry() {
        sentence("It is READ STROKE by STROKE into TRANSLATIONS, each of so many STROKES");
        Desk desk = new Desk("0 abcdefghijklmnop 1 1 1 1 1");
        for (int i = 0; i < 300; i++) {
            desk.stroke(1);
        }
        due("sixty of five", desk.count(1), 60);
        due("the last one's first", desk.told(59, 1), 295);
        due("the last one's strokes", desk.told(59, 2), 5);
        due("all are it", desk.book(0, 3), 60);
        due("the text", desk.count(3), 60 * 17 - 1);
        due("one more", desk.stroke(1), NONE);
        due("as it was", desk.of(299), 59);
        desk.cut(0);
        due("four are left over at the end", desk.count(1), 59 + 4);
        due("they are raw", desk.count(2), 4);
        due("the first of them", desk.told(59, 1), 295);
    }

    private static void backWithout() {
        sentence("The last STROKE is taken back: it; NONE without.");
        Desk desk = new Desk("0 cat 1");
        due("without", desk.back(), NONE);
        due("without, again", desk.back(), NONE);
        due("none, not less", desk.count(0), 0);
        due("the first", desk.stroke(1), 1);
        due("it", desk.back(), 1);
        due("without", desk.back(), NONE);
        due("all keys", desk.strokes(ALL).back(), ALL);
        due("the book is not asked", desk.count(4), 1);
    }

    private static void backWithAllThatHungOnIt() {
        sentence("strokes are taken back one by one with all that hung on them");
        Desk desk = new Desk("0 a 1", "0 b 1 2", "0 c 1 2 3", "0 d 1 2 3 4", "0 e 1 2 3 4 5");
        String[] want = {"0", "1", "2", "3", "4"};
        for (int i = 0; i < 5; i++) {
            desk.stroke(i + 1);
            due("up to " + (i + 1), desk.translations(), want[i]);
        }
        for (int i = 3; i >= 0; i--) {
            due("taken back", desk.back(), i + 2);
            due("back to " + (i + 1), desk.translations(), want[i]);
        }
        Desk apart = new Desk("0 x 1 2 3", "0 y 2");
        due("one of three", apart.translationsOf(1, 2, 3), "0");
        apart.back();
        due("a raw one and another stand again", apart.translations(), "* 1");
    }

    private static void correctOnlyWhatIsThere() {
        sentence("STROKE i of THE RECORD is another one: true; false: there is none such");
        Desk desk = new Desk();
        due("0 of none", desk.correct(0, 1), false);
        desk.strokes(1, 2, 4);
        for (int i : new int[] {-1, 3, 4, 299, 300, LOWEST, HIGHEST}) {
            due("correct " + i, desk.correct(i, 8), false);
        }
        due("as it was", desk.text(), "S T K");
        due("the last", desk.correct(2, 8), true);
        due("the first", desk.correct(0, 8), true);
        due("these two", desk.text(), "P T P");
        due("neither", desk.correct(3, 0), false);
    }

    private static void correctOfTheSame() {
        sentence("any stroke of the day is corrected");
        Desk desk = new Desk("0 a 1", "0 b 2", "0 ab 1 2", "2 s 4", "6 - 8");
        due("ahead", desk.textOf(8, 1, 2, 4, 1), "Abs a");
        due("to the same", desk.correct(2, 2), true);
        due("as it was", desk.text(), "Abs a");
        due("an outline goes", desk.correct(2, 1), true);
        due("what hung on it is other", desk.text(), "A as a");
        due("an outline comes", desk.correct(4, 2), true);
        due("no outline behind the suffix", desk.text(), "A as b");
        due("the suffix goes", desk.correct(3, 1), true);
        due("an outline of what was apart", desk.text(), "A a ab");
        due("the shift goes", desk.correct(0, 1), true);
        due("small now", desk.text(), "a a a ab");
    }

    private static void insertAheadOrBehind() {
        sentence("A STROKE comes ahead of STROKE i (or behind the last): true; false: none such");
        Desk desk = new Desk().strokes(1, 2);
        for (int i : new int[] {-1, 3, 4, 300, LOWEST, HIGHEST}) {
            due("insert at " + i, desk.insert(i, 8), false);
        }
        due("as it was", desk.text(), "S T");
        due("behind the last", desk.insert(2, 4), true);
        due("ahead of the first", desk.insert(0, 8), true);
        due("ahead of the last", desk.insert(3, 16), true);
        due("all of them", desk.text(), "P S T W K");
        due("one behind where it may be", desk.insert(6, 1), false);
        due("five", desk.count(0), 5);
    }

    private static void insertIntoNone() {
        sentence("A STROKE comes ahead of STROKE i (or behind the last)");
        Desk desk = new Desk("0 ab 1 2");
        due("1 of none", desk.insert(1, 1), false);
        due("-1 of none", desk.insert(-1, 1), false);
        due("no stroke to none", desk.insert(0, 0), false);
        due("none", desk.count(0), 0);
        due("0 of none", desk.insert(0, 2), true);
        due("raw", desk.text(), "T");
        due("0 of one", desk.insert(0, 1), true);
        due("an outline now", desk.text(), "ab");
        due("into it", desk.insert(1, 4), true);
        due("no outline now", desk.text(), "S K T");
    }

    private static void cutOnlyWhatIsThere() {
        sentence("STROKE i is gone: it; NONE: there is none such.");
        Desk desk = new Desk("0 ab 1 2");
        due("0 of none", desk.cut(0), NONE);
        due("-1 of none", desk.cut(-1), NONE);
        desk.strokes(1, ALL, 2);
        for (int i : new int[] {-1, 3, 4, 300, LOWEST, HIGHEST}) {
            due("cut " + i, desk.cut(i), NONE);
        }
        due("as it was", desk.count(0), 3);
        due("the one between", desk.cut(1), ALL);
        due("an outline now", desk.text(), "ab");
        due("the last", desk.cut(1), 2);
        due("raw", desk.text(), "S");
    }

    private static void cutTheOnlyOne() {
        sentence("STROKE i is gone: it; NONE: there is none such.");
        Desk desk = new Desk("7 - 1").strokes(1);
        due("a link waits", desk.count(7), 1);
        due("the only one", desk.cut(0), 1);
        due("no link", desk.count(7), 0);
        due("none", desk.counts(), "0 0 0 0 1 0 0 0 0 0");
        due("none such now", desk.cut(0), NONE);
        due("of none", desk.of(0), NONE);
    }

    private static void noneOneTwoTranslations() {
        sentence("of the OUTLINES that are made of all STROKES of the last so many TRANSLATIONS (none, one, two, ..) and this one");
        due("none", new Desk("0 a 1").translationsOf(1), "0");
        due("one", new Desk("0 a 1 1").translationsOf(1, 1), "0");
        due("two", new Desk("0 a 1 1 1").translationsOf(1, 1, 1), "0");
        due("three", new Desk("0 a 1 1 1 1").translationsOf(1, 1, 1, 1), "0");
        due("four", new Desk("0 a 1 1 1 1 1").translationsOf(1, 1, 1, 1, 1), "0");
        due("four of entries", new Desk("0 a 1", "0 b 1 1 1 1 1").translationsOf(1, 1, 1, 1, 1), "1");
        due("one of four strokes", new Desk("0 a 1 1 1 1", "0 b 1 1 1 1 1").translationsOf(1, 1, 1, 1, 1), "1");
        due("two of two", new Desk("0 a 1 1", "0 b 1 1 1 1 2").translationsOf(1, 1, 1, 1, 2), "1");
        due("not quite all", new Desk("0 a 1 1 1 1 1").translationsOf(1, 1, 1, 1), "* * * *");
    }

    private static void allStrokesOfTranslations() {
        sentence("made of all STROKES of the last so many TRANSLATIONS");
        due("not of a part of one", new Desk("0 a 1 2", "0 b 2 3").translationsOf(1, 2, 3), "0 *");
        due("not even if it is the longest", new Desk("0 a 1 2", "0 b 2 3 4 5 6").translationsOf(1, 2, 3, 4, 5, 6),
            "0 * * * *");
        due("of all of one", new Desk("0 a 1 2", "0 b 1 2 3").translationsOf(1, 2, 3), "1");
        due("a one ahead is not needed", new Desk("0 a 1 2", "0 b 1 2 3").translationsOf(3, 1, 2, 3), "* 1");
        due("a part behind all", new Desk("0 a 1 2", "0 b 2 3", "0 c 3").translationsOf(1, 2, 3, 2, 3), "0 2 1");
        due("apart, then together", new Desk("0 a 1 2", "0 b 3 4", "0 c 1 2 3 4").translationsOf(1, 2, 3, 4), "2");
        due("apart, for a raw one stands between", new Desk("0 a 1 2", "0 c 1 2 3 4").translationsOf(1, 2, 8, 3, 4),
            "0 * * *");
    }

    private static void longestIsTaken() {
        sentence("and which THE BOOK has, the longest is taken");
        due("of one and two", new Desk("0 a 2", "0 b 1 2").translationsOf(1, 2), "1");
        due("of two and one, in the other order", new Desk("0 b 1 2", "0 a 2").translationsOf(1, 2), "0");
        due("of all five lengths", new Desk("0 a 5", "0 b 4 5", "0 c 3 4 5", "0 d 2 3 4 5", "0 e 1 2 3 4 5")
            .translationsOf(1, 2, 3, 4, 5), "4");
        due("of four, if the fifth is another", new Desk("0 a 5", "0 b 4 5", "0 c 3 4 5", "0 d 2 3 4 5", "0 e 1 2 3 4 5")
            .translationsOf(2, 2, 3, 4, 5), "* 3");
        due("of three, if a part has been taken", new Desk("0 a 1 2", "0 c 3 4 5", "0 d 2 3 4 5")
            .translationsOf(1, 2, 3, 4, 5), "0 1");
        due("the shorter one, if the longer is not of whole ones", new Desk("0 a 1 2", "0 b 2 3", "0 c 3")
            .translationsOf(1, 2, 3), "0 2");
    }

    private static void fiveStrokesAtMost() {
        sentence("An OUTLINE is one to five STROKES.");
        Desk desk = new Desk("0 five 1 1 1 1 1", "0 one 1");
        due("four", desk.translationsOf(1, 1, 1, 1), "1 1 1 1");
        due("five", desk.translationsOf(1), "0");
        due("six", desk.translationsOf(1), "0 1");
        due("nine", desk.translationsOf(1, 1, 1), "0 1 1 1 1");
        due("ten", desk.translationsOf(1), "0 0");
    }

    private static void rawByItself() {
        sentence("If there is none, the STROKE is a TRANSLATION by itself, RAW.");
        Desk desk = new Desk("0 ab 1 2").strokes(2, 1, 1, 2);
        due("raw and not", desk.translations(), "* * 0");
        due("two raw", desk.count(2), 2);
        due("one stroke", desk.told(0, 2), 1);
        due("its own", desk.told(1, 1), 1);
        due("its entry is NONE", desk.told(1, 0), NONE);
        desk.back();
        due("three raw", desk.count(2), 3);
        desk.drop(0);
        desk.strokes(2);
        due("all raw", desk.count(2), 4);
        due("as many", desk.count(1), 4);
    }

    private static void countWhat() {
        sentence("What 0 STROKES of THE RECORD, .. 9 its STROKES. NONE for others.");
        Desk desk = new Desk("0 cat 1", "0 dogs 2 2", "2 s 2", "8 - 8", "7 - 16").strokes(1, 2, 2, 4, 8, 16);
        due("a plan", desk.plan("cat dogs cats"), 5);
        desk.feed("abc");
        due("all ten", desk.counts(), "6 5 1 10 5 20 2 1 4 5");
        for (int what : new int[] {-1, 10, 11, 20, LOWEST, HIGHEST}) {
            due("count " + what, desk.count(what), NONE);
        }
    }

    private static void countOfShiftAndLink() {
        sentence("6 SHIFT, 7 LINK");
        String[] book = {"0 cat 1", "6 - 2", "7 - 4", "8 - 8", "1 re 16", "3 . 32", "4 , 64", "2 s 128", "5 b 256"};
        int[][] runs = {{2}, {8}, {2, 8}, {8, 2}, {4}, {4, 4}, {16}, {32}, {64}, {2, 1}, {8, 1}, {4, 1}, {16, 1},
            {4, 32}, {4, 64}, {8, 64}, {8, 32}, {1, 4, 128}, {1, 8, 128}, {4, 512}, {8, 512}, {2, 256}, {4, 256},
            {8, 4}, {4, 8}, {2, 16}, {32, 128}, {2, 128}};
        String[] want = {"1 0", "2 0", "2 0", "1 0", "0 1", "0 1", "0 1", "1 0", "0 0", "0 0", "0 0", "0 0", "0 0",
            "1 0", "0 0", "2 0", "1 0", "0 0", "2 0", "0 0", "2 0", "0 0", "0 0",
            "2 1", "2 1", "0 1", "0 0", "0 0"};
        for (int i = 0; i < runs.length; i++) {
            Desk desk = new Desk(book).strokes(runs[i]);
            due("run " + i, desk.count(6) + " " + desk.count(7), want[i]);
        }
        Desk empty = new Desk(book).strokes(8, 4);
        empty.back();
        empty.back();
        due("taken back", empty.count(6) + " " + empty.count(7), "0 0");
    }

    private static void shiftAndLinkFromZero() {
        sentence("THE TEXT of TRANSLATIONS, one behind the other, from an empty text and SHIFT, LINK 0");
        Desk desk = new Desk("0 cat 1", "8 - 2", "7 - 4").strokes(1, 2, 4);
        due("both wait", desk.counts(), "3 3 0 3 3 0 2 1 0 0");
        due("ahead of them", desk.text(), "cat");
        due("back", desk.back(), 4);
        due("the shift alone", desk.count(6) + " " + desk.count(7), "2 0");
        due("back", desk.back(), 2);
        due("neither", desk.count(6) + " " + desk.count(7), "0 0");
        due("small, with a blank", desk.textOf(1), "cat cat");
        desk.strokes(2, 4);
        due("both wait again", desk.count(6) + " " + desk.count(7), "2 1");
        desk.insert(0, 1);
        due("the first is small still", desk.text(), "cat cat cat");
        due("both wait still", desk.count(6) + " " + desk.count(7), "2 1");
        due("for the next", desk.textOf(1), "cat cat catCAT");
    }

    private static void toldWhat() {
        sentence("what 0 its ENTRY (RAW: NONE), .. 4 how long it is behind it. NONE for others (0 can be that).");
        Desk desk = new Desk("0 cat 1 1", "6 - 2").strokes(2, 1, 1, 4);
        String[] want = {"1 0 1 0 0", "0 1 2 0 3", "-1 3 1 3 5"};
        for (int t = 0; t < 3; t++) {
            StringBuilder sum = new StringBuilder();
            for (int what = 0; what < 5; what++) {
                sum.append(what == 0 ? "" : " ").append(desk.told(t, what));
            }
            due("told " + t, sum.toString(), want[t]);
            for (int what : new int[] {-1, 5, 6, LOWEST, HIGHEST}) {
                due("told " + t + " " + what, desk.told(t, what), NONE);
            }
        }
    }

    private static void toldLengths() {
        sentence("3 where THE TEXT was long so far ahead of it, 4 how long it is behind it");
        Desk desk = new Desk("0 care 1", "2 ing 2", "7 - 4", "2 a 8").strokes(1, 2, 4, 1, 8);
        int[][] want = {{0, 4}, {4, 6}, {6, 6}, {6, 10}, {10, 10}};
        for (int t = 0; t < want.length; t++) {
            due("ahead of " + t, desk.told(t, 3), want[t][0]);
            due("behind " + t, desk.told(t, 4), want[t][1]);
        }
        due("the e has gone, and an a come", desk.text(), "caringcara");
    }

    private static void toldNoSuchTranslation() {
        sentence("Of TRANSLATION t");
        Desk desk = new Desk("0 cat 1 1");
        due("none at all", desk.told(0, 1), NONE);
        desk.strokes(1, 1, 2);
        for (int t : new int[] {-1, 2, 3, 300, LOWEST, HIGHEST}) {
            for (int what = 0; what < 5; what++) {
                due("told " + t + " " + what, desk.told(t, what), NONE);
            }
        }
        due("the last", desk.told(1, 1), 2);
        due("the first", desk.told(0, 1), 0);
        desk.back();
        due("it is gone", desk.told(1, 1), NONE);
    }

    private static void octetOfTheText() {
        sentence("Byte i of THE TEXT; NONE if there is none.");
        Desk desk = new Desk("0 cat 1").strokes(1, 2);
        String text = "cat T";
        for (int i = -2; i < 8; i++) {
            due("octet " + i, desk.octet(i), i >= 0 && i < 5 ? text.charAt(i) : NONE);
        }
        for (int i : new int[] {6899, 6900, 6901, LOWEST, HIGHEST}) {
            due("octet " + i, desk.octet(i), NONE);
        }
        desk.back();
        due("the last that is left", desk.octet(2), 't');
        due("behind it", desk.octet(3), NONE);
        Desk longest = new Desk();
        for (int i = 0; i < 300; i++) {
            longest.stroke(ALL);
        }
        due("the longest text", longest.count(3), 300 * 23 - 1);
        due("its last byte", longest.octet(300 * 23 - 2), 'Z');
        due("behind it", longest.octet(300 * 23 - 1), NONE);
    }

    private static void octetOfNone() {
        sentence("from an empty text and SHIFT, LINK 0");
        Desk desk = new Desk("6 - 1", "7 - 2");
        due("no stroke", desk.octet(0), NONE);
        desk.strokes(1, 2);
        due("commands alone", desk.octet(0), NONE);
        due("no byte", desk.count(3), 0);
        due("two translations", desk.count(1), 2);
    }

    private static void ofStrokes() {
        sentence("The TRANSLATION of which STROKE i is; NONE: none such.");
        Desk desk = new Desk("0 abcde 1 1 1 1 1", "0 ab 2 2");
        due("0 of none", desk.of(0), NONE);
        desk.strokes(1, 1, 1, 1, 1, 4, 2, 2);
        int[] want = {0, 0, 0, 0, 0, 1, 2, 2};
        for (int i = 0; i < want.length; i++) {
            due("of " + i, desk.of(i), want[i]);
        }
        for (int i : new int[] {-1, 8, 9, 299, 300, LOWEST, HIGHEST}) {
            due("of " + i, desk.of(i), NONE);
        }
        desk.back();
        due("half of it", desk.of(6), 2);
        due("the other half is gone", desk.of(7), NONE);
    }

    private static void writtenBytes() {
        sentence("Byte i of STROKE k of THE RECORD as it is WRITTEN; NONE if there is none.");
        Desk desk = new Desk("0 cat 1").strokes(1, 1 + 4096, ALL);
        String[] want = {"S", "S-F", "STKPWHRAO*EUFRPBLGTSDZ"};
        for (int k = 0; k < want.length; k++) {
            due("stroke " + k, desk.written(k), want[k]);
            for (int i : new int[] {-1, want[k].length(), want[k].length() + 1, LOWEST, HIGHEST}) {
                due("written " + k + " " + i, desk.written(k, i), NONE);
            }
        }
    }

    private static void writtenNoSuchStroke() {
        sentence("Byte i of STROKE k of THE RECORD as it is WRITTEN; NONE if there is none.");
        Desk desk = new Desk();
        due("of none", desk.written(0, 0), NONE);
        desk.strokes(1, 2);
        for (int k : new int[] {-1, 2, 3, 299, 300, LOWEST, HIGHEST}) {
            due("written " + k, desk.written(k, 0), NONE);
        }
        due("the last", desk.written(1, 0), 'T');
        desk.back();
        due("it is gone", desk.written(1, 0), NONE);
    }

    private static void fiveHundredAndTwelveCalls() {
        sentence("An object is used for at most 512 calls after it has been made");
        Desk desk = new Desk();
        for (int i = 0; i < 300; i++) {
            desk.stroke(1 + 4096);
        }
        for (int i = 0; i < 210; i++) {
            due("written by the way", desk.written(i, 1), '-');
        }
        due("the 511th", desk.back(), 4097);
        due("the 512th", desk.count(3), 299 * 4 - 1);
        due("so many", desk.calls(), 512);
    }
}
