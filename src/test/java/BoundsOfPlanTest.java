/**
 * The sentences of the document that name a boundary of the plan and of entries that run together (terms 3,
 * promises 15 to 19), each on both sides.
 */
public final class BoundsOfPlanTest {
    private static final int NONE = -1;
    private static final int CANNOT = -2;
    private static final int LOWEST = Integer.MIN_VALUE;
    private static final int HIGHEST = Integer.MAX_VALUE;

    private static final Check CHECK = new Check();

    public static void main(String[] args) {
        oneToSixtyBytes();
        notSoMany();
        theTapeStays();
        theTapeIsEmptyThen();
        bytesBehindTheWords();
        everyByte();
        oneBlankBetween();
        aWordThatIsIt();
        prefixesOneOrMore();
        aWordAndASuffix();
        gluesAlone();
        noOtherKinds();
        noWayOfTwoSorts();
        aWordThatCannotBeWritten();
        fewestStrokes();
        fewestEntries();
        leastByNumbers();
        eachWordByItself();
        longestPlans();
        latestPlanStays();
        plannedOnlyWhatIsThere();
        plannedAsNumberedThen();
        clearWithout();
        clearOrNot();
        clearWhenItWasMade();
        clearFromAnEmptyRecord();
        togetherOnlyWhatIsThere();
        togetherOrNot();
        togetherOfFive();
        togetherFromAnEmptyRecord();
        pairsInOrder();
        pairsOfNone();
        pairsOfSixty();
        CHECK.end("BoundsOfPlanTest");
    }

    private static void sentence(String words) {
        CHECK.sentence(words);
    }

    private static void due(String call, int got, int want) {
        CHECK.due(call, got, want);
    }

    private static void due(String call, String got, String want) {
        CHECK.due(call, got, want);
    }

    /** A plan for these words by this book: its entries, or NONE or -2 as such. */
    private static void plans(String want, String words, String... book) {
        Desk desk = new Desk(book);
        int answer = desk.plan(words);
        String got = answer < 0 ? "" + answer : desk.planned();
        due("plan for \"" + words + "\" by " + String.join(", ", book), got, want);
        if (answer >= 0) {
            int strokes = 0;
            for (String k : got.split(" ")) {
                strokes += desk.book(Integer.parseInt(k), 1);
            }
            due("strokes for \"" + words + "\"", answer, strokes);
            due("count(9) for \"" + words + "\"", desk.count(9), strokes);
        }
    }

    private static void oneToSixtyBytes() {
        sentence("n is not 1 to 60 (the tape stays)");
        for (int n : new int[] {0, -1, -60, 61, 62, 80, 81, LOWEST, HIGHEST}) {
            Desk desk = new Desk("5 a 1");
            desk.feed("a".repeat(80));
            due("plan " + n, desk.plan(n), NONE);
            due("plan " + n + ", the tape stays", desk.count(5), 80);
            due("plan " + n + ", no plan", desk.count(8), 0);
        }
        for (int n = 1; n <= 60; n++) {
            Desk desk = new Desk("5 a 1");
            desk.feed("a".repeat(80));
            due("plan " + n, desk.plan(n), n);
            due("plan " + n + ", its entries", desk.count(8), n);
        }
    }

    private static void notSoMany() {
        sentence("NONE: it has not so many");
        for (int fed = 0; fed <= 60; fed += 20) {
            Desk more = new Desk("5 a 1");
            more.feed("a".repeat(fed));
            due("one more than " + fed, more.plan(fed + 1), NONE);
            due("the tape of " + fed + " stays", more.count(5), fed);
            if (fed > 0) {
                due("all " + fed, more.plan(fed), fed);
                due("the tape of " + fed + " is empty", more.count(5), 0);
            }
        }
    }

    private static void theTapeStays() {
        sentence("it has not so many, n is not 1 to 60 (the tape stays)");
        for (int n : new int[] {0, 21, 60, 61, LOWEST, HIGHEST}) {
            Desk desk = new Desk("0 cat 1");
            desk.feed("catalog");
            due("plan " + n, desk.plan(n), NONE);
            due("an entry of what stays", desk.entry(2, 0, 0, 0, 0, 0, 7), 1);
            due("these bytes", desk.entryTold(1), "0 catalog 2");
        }
    }

    private static void theTapeIsEmptyThen() {
        sentence("THE PLAN for the first n bytes of the tape (empty then)");
        String[] words = {"cat", "dog", "Cat", "cat "};
        int[] answers = {1, CANNOT, NONE, NONE};
        for (int i = 0; i < words.length; i++) {
            Desk desk = new Desk("0 cat 1");
            desk.feed(words[i] + "x".repeat(70));
            due("80 bytes", desk.count(5), 80);
            due("plan for " + words[i], desk.plan(words[i].length()), answers[i]);
            due("all 80 are gone by " + words[i], desk.count(5), 0);
            due("none for the next", desk.plan(1), NONE);
            due("room again", desk.feed(0, 0, 0, 0, 0), 20);
        }
    }

    private static void bytesBehindTheWords() {
        sentence("THE PLAN for the first n bytes of the tape");
        Desk desk = new Desk("0 cat 1", "0 cats 2", "0 ca 4");
        int[][] rows = {{2, 2}, {3, 0}, {4, 1}};
        for (int[] row : rows) {
            desk.feed("cats.");
            due("plan " + row[0], desk.plan(row[0]), 1);
            due("planned by " + row[0], desk.planned(0), row[1]);
        }
        desk.feed("cats.");
        due("the fifth is asked for", desk.plan(5), NONE);
    }

    private static void everyByte() {
        sentence("words (a .. z, one blank between, 60 bytes at most); NONE: .. other bytes");
        for (int octet = 0; octet < 256; octet++) {
            boolean small = octet >= 'a' && octet <= 'z';
            for (int place = 0; place < 3; place++) {
                Desk desk = new Desk("5 q 1");
                String words = "qqq".substring(0, place) + (char) octet + "qqq".substring(place + 1);
                boolean blankBetween = octet == ' ' && place == 1;
                int want = blankBetween ? 2 : octet == 'q' ? 3 : small ? CANNOT : NONE;
                due(octet + " at " + place, desk.plan(words), want);
                due(octet + " at " + place + ", the tape is empty", desk.count(5), 0);
            }
        }
    }

    private static void oneBlankBetween() {
        sentence("one blank between");
        plans("0", "cat", "0 cat 1");
        plans("0 0", "cat cat", "0 cat 1");
        plans("0 0 0", "cat cat cat", "0 cat 1");
        plans("-1", "cat  cat", "0 cat 1");
        plans("-1", "cat   cat", "0 cat 1");
        plans("-1", " cat", "0 cat 1");
        plans("-1", "cat ", "0 cat 1");
        plans("-1", " ", "0 cat 1");
        plans("-1", "  ", "0 cat 1");
        plans("-1", " cat cat", "0 cat 1");
        plans("-1", "cat cat  cat", "0 cat 1");
        plans("-1", "dog  dog", "0 cat 1");
        plans("-2", "dog dog", "0 cat 1");
    }

    private static void aWordThatIsIt() {
        sentence("a WORD that is it");
        plans("0", "cat", "0 cat 1");
        plans("-2", "ca", "0 cat 1");
        plans("-2", "cats", "0 cat 1");
        plans("-2", "at", "0 cat 1");
        plans("-2", "cau", "0 cat 1");
        plans("-2", "dat", "0 cat 1");
        plans("0", "abcdefghijklmnop", "0 abcdefghijklmnop 1 2 3 4 5");
        plans("-2", "abcdefghijklmnopq", "0 abcdefghijklmnop 1 2 3 4 5");
        plans("-2", "catcat", "0 cat 1");
        plans("0", "a", "0 a 1");
    }

    private static void prefixesOneOrMore() {
        sentence("or PREFIXES, one or more, and a WORD, one behind the other");
        plans("0", "cat", "0 cat 1", "1 re 2");
        plans("1 0", "recat", "0 cat 1", "1 re 2");
        plans("1 1 0", "rerecat", "0 cat 1", "1 re 2");
        plans("1 2 0", "reuncat", "0 cat 1", "1 re 2", "1 un 3");
        plans("-2", "re", "0 cat 1", "1 re 2");
        plans("-2", "rere", "0 cat 1", "1 re 2");
        plans("-2", "catre", "0 cat 1", "1 re 2");
        plans("-2", "recatcat", "0 cat 1", "1 re 2");
        plans("-2", "recare", "0 car 1", "1 re 2", "1 ca 3");
        plans("0 1", "reering", "1 re 1", "0 ering 2", "2 ing 3");
        plans("0 1", "carering", "1 care 1", "0 ring 2");
        plans("-2", "caring", "1 care 1", "0 ing 2");
    }

    private static void aWordAndASuffix() {
        sentence("or a WORD and a SUFFIX, joined by the rules");
        plans("0 1", "cats", "0 cat 1", "2 s 2");
        plans("-2", "catss", "0 cat 1", "2 s 2");
        plans("-2", "s", "0 cat 1", "2 s 2");
        plans("-2", "scat", "0 cat 1", "2 s 2");
        plans("-2", "boxs", "0 box 1", "2 s 2");
        plans("0 1", "boxes", "0 box 1", "2 s 2");
        plans("-2", "cated", "0 cat 1", "2 ed 2");
        plans("0 1", "catted", "0 cat 1", "2 ed 2");
        plans("-2", "careed", "0 care 1", "2 ed 2");
        plans("0 1", "cared", "0 care 1", "2 ed 2");
        plans("-2", "tryed", "0 try 1", "2 ed 2");
        plans("0 1", "tried", "0 try 1", "2 ed 2");
        plans("-2", "ad", "0 e 1", "2 d 2");
        plans("0 1", "ed", "0 e 1", "2 d 2");
        plans("-2", "cat s", "0 cat 1", "2 s 2");
        plans("-2", "catsed", "0 cat 1", "2 s 2", "2 ed 3");
        plans("0 1", "abcdefghijklmnopabcdefghijklmnop", "0 abcdefghijklmnop 1", "2 abcdefghijklmnop 2");
        plans("0 1", "bcdfghjklmnpqrattaaaaaaaaaaaaaaaa", "0 bcdfghjklmnpqrat 1", "2 aaaaaaaaaaaaaaaa 2");
    }

    private static void gluesAlone() {
        sentence("or GLUES alone, one or more");
        plans("0", "a", "5 a 1");
        plans("0 0", "aa", "5 a 1");
        plans("0 1 0", "aba", "5 a 1", "5 b 2");
        plans("-2", "abc", "5 a 1", "5 b 2");
        plans("-2", "acat", "5 a 1", "0 cat 2");
        plans("-2", "cata", "5 a 1", "0 cat 2");
        plans("-2", "rea", "5 a 1", "1 re 2");
        plans("-2", "are", "5 a 1", "1 re 2");
        plans("-2", "as", "5 a 1", "2 s 2");
        plans("1", "ab", "5 a 1", "5 ab 2");
        plans("-2", "aab", "5 aa 1", "5 ab 2");
    }

    private static void noOtherKinds() {
        sentence("each word by itself");
        plans("-2", "a", "3 . 1", "4 , 2", "6 - 3", "7 - 4", "8 - 5");
        plans("-2", "catcat", "0 cat 1", "7 - 2");
        plans("-1", "cat.", "0 cat 1", "3 . 2");
        plans("-1", "Cat", "0 cat 1", "6 - 2");
        plans("0 0", "cat cat", "0 cat 1", "3 . 2", "6 - 3", "7 - 4");
    }

    private static void noWayOfTwoSorts() {
        sentence("or a WORD and a SUFFIX, joined by the rules; or GLUES alone");
        plans("-2", "recats", "0 cat 1", "1 re 2", "2 s 3");
        plans("-2", "res", "0 cat 1", "1 re 2", "2 s 3");
        plans("-2", "recata", "0 cat 1", "1 re 2", "5 a 3");
        plans("-2", "aas", "5 a 1", "2 s 2");
        plans("1 3", "recats", "0 cat 1", "0 recat 2", "1 re 3", "2 s 4");
        plans("0 1", "recats", "1 re 3", "0 cats 2", "2 s 4");
    }

    private static void aWordThatCannotBeWritten() {
        sentence("-2: a word can't be written");
        plans("-2", "a");
        plans("-2", "dog cat cat", "0 cat 1");
        plans("-2", "cat dog cat", "0 cat 1");
        plans("-2", "cat cat dog", "0 cat 1");
        plans("0 1 0", "cat dog cat", "0 cat 1", "0 dog 2");
    }

    private static void fewestStrokes() {
        sentence("Of all ways the one of the fewest STROKES");
        plans("1 1 1", "aaa", "0 aaa 1 1 1 1", "5 a 2");
        plans("0", "aaa", "0 aaa 1 1 1", "5 a 2");
        plans("0", "aaa", "0 aaa 1 1", "5 a 2");
        plans("1 2", "cats", "0 cats 1 1 1", "0 cat 2", "2 s 3");
        plans("0", "cats", "0 cats 1 1", "0 cat 2", "2 s 3");
        plans("1 2", "recat", "0 recat 1 1 1", "1 re 2", "0 cat 3");
        plans("0", "recat", "0 recat 1 1", "1 re 2", "0 cat 3");
        plans("1", "cat", "0 cat 1 1 1 1 1", "0 cat 2 2 2 2");
        plans("1 2 3", "abc", "5 abc 1 1 1 1", "5 a 2", "5 b 3", "5 c 4");
    }

    private static void fewestEntries() {
        sentence("of like ones the one of the fewest ENTRIES");
        plans("3", "abc", "5 a 2", "5 b 3", "5 c 4", "5 abc 1 1 1");
        plans("0 3", "abc", "5 a 2", "5 b 3", "5 c 4", "5 bc 1 1");
        plans("0 1 2", "abc", "5 a 2", "5 b 3", "5 c 4", "5 bc 1 1 1");
        plans("2", "cats", "0 cat 2", "2 s 3", "0 cats 1 1");
        plans("2", "recat", "1 re 2", "0 cat 3", "0 recat 1 1");
        plans("3 2", "rerecat", "1 re 2", "0 recat 3 3", "0 cat 4", "1 rere 5");
        plans("2", "cat", "5 c 4", "5 at 5", "0 cat 1 1");
    }

    private static void leastByNumbers() {
        sentence("of these the least, ENTRY by ENTRY by numbers");
        plans("0", "cat", "0 cat 1", "0 cat 2");
        plans("0", "cat", "5 cat 1", "0 cat 2");
        plans("0", "cat", "0 cat 1", "5 cat 2");
        plans("0 1", "cats", "0 cat 1", "2 s 2", "2 s 3", "0 cat 4");
        plans("1 0", "cats", "2 s 2", "0 cat 1", "2 s 3", "0 cat 4");
        plans("0 3", "abc", "5 a 1", "5 ab 2", "5 c 3", "5 bc 4");
        plans("0 3", "abc", "5 ab 1", "5 a 2", "5 bc 3", "5 c 4");
        plans("0 1 2", "abcd", "1 a 1", "1 b 2", "0 cd 3", "1 bc 4", "0 d 5");
        plans("0 1 4", "abcd", "1 a 1", "1 bc 2", "0 cd 3", "1 b 4", "0 d 5");
        plans("0 3", "reads", "0 read 1", "1 re 2", "0 ads 3", "2 s 4");
        plans("0 1", "reads", "1 re 1", "0 ads 2", "0 read 3", "2 s 4");
        plans("0 1 2 3", "abcd", "5 a 1", "5 b 2", "5 c 3", "5 d 4", "5 a 5", "5 b 6", "5 c 7", "5 d 8");
    }

    private static void eachWordByItself() {
        sentence("THE PLAN is that for each word, one behind the other");
        plans("0 1", "a b", "0 a 1", "0 b 2", "0 ab 1 2");
        plans("2", "ab", "0 a 1", "0 b 2", "0 ab 1 2");
        plans("0 1 0 1 0", "a ba ba", "5 a 1", "5 b 2");
        plans("0 1 0 0 0 2", "cat recat cat cats", "0 cat 1", "1 re 2", "2 s 4");
        plans("0 0", "cat cat", "0 cat 1", "0 cat 2");
    }

    private static void longestPlans() {
        sentence("60 bytes at most");
        String sixty = "a".repeat(60);
        Desk glues = new Desk("5 a 1 1 1 1 1");
        due("sixty glues of five strokes", glues.plan(sixty), 300);
        due("its entries", glues.count(8), 60);
        due("its strokes", glues.count(9), 300);
        due("the first", glues.planned(0), 0);
        due("the last", glues.planned(59), 0);
        due("behind it", glues.planned(60), NONE);
        due("clear", glues.clear(), 1);
        Desk prefixes = new Desk("1 a 1 1 1 1 1", "0 a 2 2 2 2 2");
        due("59 prefixes and a word", prefixes.plan(sixty), 300);
        due("the last prefix", prefixes.planned(58), 0);
        due("the word", prefixes.planned(59), 1);
        Desk words = new Desk("0 a 1 1 1 1 1", "0 bb 2");
        due("thirty words", words.plan("a ".repeat(29) + "bb"), 29 * 5 + 1);
        due("their entries", words.count(8), 30);
        due("the last one", words.planned(29), 1);
        Desk joined = new Desk("0 b 1 1 1 1 1", "2 s 2 2 2 2 2");
        due("twenty of word and suffix", joined.plan("bs ".repeat(19) + "bs"), 200);
        due("their entries", joined.count(8), 40);
        due("clear, too", joined.clear(), 1);
        Desk last = new Desk("0 b 1", "2 s 2", "0 x 4");
        due("the last of sixty bytes is joined", last.plan("bs ".repeat(19) + "xes"), 40);
        due("its word", last.planned(38), 2);
        due("its suffix", last.planned(39), 1);
        Desk one = new Desk("0 abcdefghijklmnop 1", "0 " + "a".repeat(16) + " 2", "1 " + "b".repeat(16) + " 4");
        due("one word of sixty", one.plan("b".repeat(32) + "bbbbbbbbbbbb" + "a".repeat(16)), CANNOT);
        one.add("1 bbbb 8");
        due("one word of sixty, six entries", one.plan("b".repeat(44) + "a".repeat(16)), 6);
        due("the least of them", one.planned(), "2 2 3 3 3 1");
    }

    private static void latestPlanStays() {
        sentence("(What was planned before stays by -2, NONE.)");
        String[] refused = {"", "x", "Cat", " cat", "cat ", "cat  s", "cat dog", "dog cat", "cat cat cow"};
        for (String words : refused) {
            Desk desk = new Desk("0 cat 1", "2 s 2", "0 tax 1 2");
            due("cats", desk.plan("cats cat"), 3);
            int answer = words.isEmpty() ? desk.plan(1) : desk.plan(words);
            due("refused: \"" + words + "\"", answer < 0 ? 1 : 0, 1);
            due("its entries stay", desk.planned(), "0 1 0");
            due("count(8) stays", desk.count(8), 3);
            due("count(9) stays", desk.count(9), 3);
            due("clear stays", desk.clear(), 0);
            due("the next comes", desk.plan("tax"), 2);
            due("it is the latest", desk.planned(), "2");
            due("clear of it", desk.clear(), 1);
        }
        Desk first = new Desk("0 cat 1");
        due("-2 ahead of all plans", first.plan("dog"), CANNOT);
        due("no entries", first.count(8), 0);
        due("no strokes", first.count(9), 0);
        due("none planned", first.planned(0), NONE);
        due("clear without", first.clear(), NONE);
    }

    private static void plannedOnlyWhatIsThere() {
        sentence("ENTRY i of the latest PLAN (as it was numbered then); NONE if there is none.");
        Desk desk = new Desk("0 cat 1", "2 s 2", "0 dog 4");
        due("without", desk.planned(0), NONE);
        due("three entries", desk.plan("cats dog"), 3);
        int[] want = {NONE, 0, 1, 2, NONE, NONE};
        for (int i = -1; i < 5; i++) {
            due("planned " + i, desk.planned(i), want[i + 1]);
        }
        for (int i : new int[] {59, 60, 61, LOWEST, HIGHEST}) {
            due("planned " + i, desk.planned(i), NONE);
        }
        due("one entry", desk.plan("dog"), 1);
        due("the latest", desk.planned(0), 2);
        due("nothing of the one before", desk.planned(1), NONE);
    }

    private static void plannedAsNumberedThen() {
        sentence("ENTRY i of the latest PLAN (as it was numbered then)");
        Desk desk = new Desk("0 dog 1", "0 cat 2", "2 s 4");
        due("cats", desk.plan("cats"), 2);
        desk.drop(0);
        due("numbered then", desk.planned(), "1 2");
        desk.drop(1);
        desk.drop(0);
        due("though none is there", desk.planned(), "1 2");
        due("its strokes as they were", desk.count(9), 2);
        due("its entries as they were", desk.count(8), 2);
        due("it can't be planned now", desk.plan("cats"), CANNOT);
        due("as it was", desk.planned(), "1 2");
    }

    private static void clearWithout() {
        sentence("1, 0; NONE without.");
        Desk desk = new Desk("0 cat 1");
        due("without", desk.clear(), NONE);
        desk.feed("cat");
        due("refused", desk.plan(61), NONE);
        due("without still", desk.clear(), NONE);
        due("a plan", desk.plan(3), 1);
        due("clear", desk.clear(), 1);
    }

    private static void clears(int want, String words, String... book) {
        Desk desk = new Desk(book);
        due("a plan for " + words + " by " + String.join(", ", book), Math.min(desk.plan(words), 1), 1);
        due("clear: " + words + " by " + String.join(", ", book), desk.clear(), want);
    }

    private static void clearOrNot() {
        sentence("It is CLEAR if its STROKES, READ from an empty RECORD, are just its ENTRIES.");
        clears(1, "a", "0 a 1");
        clears(1, "a b", "0 a 1", "0 b 2");
        clears(0, "a b", "0 a 1", "0 b 2", "0 x 1 2");
        clears(1, "b a", "0 a 1", "0 b 2", "0 x 1 2");
        clears(0, "a b c", "0 a 1", "0 b 2", "0 c 3", "0 x 2 3");
        clears(0, "a b c", "0 a 1", "0 b 2", "0 c 3", "0 x 1 2 3");
        clears(1, "a b", "0 a 1", "0 b 2", "0 x 1 2 3");
        clears(0, "a b", "0 a 1", "0 b 2 3", "0 x 1 2", "0 y 3");
        clears(0, "a b", "0 a 1", "0 b 2 3", "0 x 1 2");
        clears(1, "a b", "0 a 1 2", "0 b 3", "0 x 2 3");
        clears(0, "a a", "0 a 1", "0 x 1 1");
        clears(1, "a", "0 a 1 1", "0 x 1");
        clears(0, "cats", "0 cat 1", "2 s 2", "6 - 1 2");
        clears(0, "aaaaa", "5 a 1", "6 - 1 1 1 1 1");
        clears(1, "aaaa", "5 a 1", "6 - 1 1 1 1 1");
        clears(0, "a b", "0 x 1 2", "0 a 1", "0 b 2");
    }

    private static void clearWhenItWasMade() {
        sentence("Whether the latest PLAN was CLEAR when it was made");
        Desk desk = new Desk("0 a 1", "0 b 2");
        due("a b", desk.plan("a b"), 2);
        due("clear", desk.clear(), 1);
        desk.add("0 x 1 2");
        due("clear as it was made", desk.clear(), 1);
        due("a b again", desk.plan("a b"), 2);
        due("not clear", desk.clear(), 0);
        desk.drop(2);
        due("not clear as it was made", desk.clear(), 0);
        desk.drop(0);
        due("nor without its entries", desk.clear(), 0);
    }

    private static void clearFromAnEmptyRecord() {
        sentence("its STROKES, READ from an empty RECORD");
        Desk desk = new Desk("0 a 1", "0 b 2", "0 x 1 2").strokes(1);
        due("b", desk.plan("b"), 1);
        due("clear, though an a stands in THE RECORD", desk.clear(), 1);
        due("THE RECORD as it was", desk.translations(), "0");
        due("a b", desk.plan("a b"), 2);
        due("not clear", desk.clear(), 0);
        due("THE RECORD as it was", desk.counts(), "1 1 0 1 3 0 0 0 2 2");
        Desk full = new Desk("5 a 2 2 2 2 2");
        for (int i = 0; i < 300; i++) {
            full.stroke(1);
        }
        due("a plan of 300 beside a RECORD of 300", full.plan("a".repeat(60)), 300);
        due("clear", full.clear(), 1);
        due("THE RECORD as it was", full.count(2), 300);
        due("its last", full.back(), 1);
    }

    private static void togetherOnlyWhatIsThere() {
        sentence("Whether ENTRIES a and b RUN TOGETHER: 1, 0; NONE: none such.");
        Desk desk = new Desk();
        due("of none", desk.together(0, 0), NONE);
        desk.add("0 a 1");
        desk.add("0 b 2");
        for (int k : new int[] {-1, 2, 3, 60, LOWEST, HIGHEST}) {
            due("a is " + k, desk.together(k, 0), NONE);
            due("b is " + k, desk.together(0, k), NONE);
            due("b is " + k + ", the last", desk.together(1, k), NONE);
            due("both are " + k, desk.together(k, k), NONE);
        }
        due("0 and 1", desk.together(0, 1), 0);
        due("1 and 0", desk.together(1, 0), 0);
        due("1 and 1", desk.together(1, 1), 0);
        desk.drop(1);
        due("it is gone", desk.together(0, 1), NONE);
    }

    private static void togethers(int want, String... book) {
        Desk desk = new Desk(book);
        due("0 and 1 of " + String.join(", ", book), desk.together(0, 1), want);
        due("0 and 1 are a pair of " + String.join(", ", book), (" " + desk.pairs() + " ").contains(" 0+1 ") ? 1 : 0, want);
    }

    private static void togetherOrNot() {
        sentence("ENTRIES a and b RUN TOGETHER if the STROKES of a and then of b, READ from an empty RECORD, are not just a and b");
        togethers(0, "0 a 1", "0 b 2");
        togethers(1, "0 a 1", "0 b 2", "0 x 1 2");
        togethers(0, "0 a 2", "0 b 1", "0 x 1 2");
        togethers(0, "0 a 1", "0 b 2", "0 x 1 2 3");
        togethers(1, "0 a 1", "0 b 2 3", "0 x 1 2");
        togethers(1, "0 a 1", "0 b 2 3", "0 x 1 2 3");
        togethers(0, "0 a 1", "0 b 2 3", "0 x 1 3");
        togethers(0, "0 a 1 2", "0 b 3", "0 x 2 3");
        togethers(1, "0 a 1 2", "0 b 3", "0 x 1 2 3");
        togethers(0, "0 a 1 2", "0 b 3", "0 x 1", "0 y 2", "0 z 2 3");
        togethers(1, "0 a 1", "0 b 1 1");
        togethers(0, "0 a 1 1", "0 b 1");
        togethers(1, "0 a 1", "6 - 1 2", "0 x 1 1");
        Desk self = new Desk("0 a 1", "0 b 1 1");
        due("an entry with itself", self.together(0, 0), 1);
        due("the longer one with itself", self.together(1, 1), 0);
        due("their pairs", self.pairs(), "0+0 0+1");
    }

    private static void togetherOfFive() {
        sentence("An OUTLINE is one to five STROKES.");
        togethers(1, "0 a 1 2 3 4", "0 b 5 6 7 8 9", "0 x 1 2 3 4 5");
        togethers(0, "0 a 1 2 3 4 5", "0 b 5 6 7 8 9", "0 x 5");
        togethers(1, "0 a 1", "0 b 2 3 4 5 6", "0 x 1 2 3 4 5");
        togethers(0, "0 a 1", "0 b 2 3 4 5 6", "0 x 2 3 4 5");
        togethers(0, "0 a 1", "0 b 2 3 4", "0 x 1 2 3 4 5");
        togethers(1, "0 a 1", "0 b 2 3 4 5", "0 x 1 2 3 4 5");
    }

    private static void togetherFromAnEmptyRecord() {
        sentence("READ from an empty RECORD");
        Desk desk = new Desk("0 a 2", "0 b 3", "0 x 1 2").strokes(1);
        due("a stroke of THE RECORD is not asked for", desk.together(0, 1), 0);
        due("no pair by it", desk.pairs(), "");
        due("THE RECORD as it was", desk.count(0), 1);
    }

    private static void pairsInOrder() {
        sentence("The i-th pair that RUNS TOGETHER, by a, then b: 64 a and b; NONE if there is none.");
        Desk desk = new Desk("0 c 3", "0 a 1", "0 b 2", "0 x 1 2", "0 y 3 1", "0 z 1 1");
        due("all of them", desk.pairs(), "0+1 0+3 0+5 1+1 1+2 1+3 1+5");
        int[] want = {1, 3, 5, 64 + 1, 64 + 2, 64 + 3, 64 + 5};
        for (int i = 0; i < want.length; i++) {
            due("pair " + i, desk.pair(i), want[i]);
        }
        for (int i : new int[] {-1, want.length, want.length + 1, 3600, LOWEST, HIGHEST}) {
            due("pair " + i, desk.pair(i), NONE);
        }
    }

    private static void pairsOfNone() {
        sentence("NONE if there is none");
        Desk desk = new Desk();
        due("of no entry", desk.pair(0), NONE);
        desk.add("0 a 1");
        due("of one entry", desk.pair(0), NONE);
        desk.add("0 b 1 1");
        due("the first", desk.pair(0), 0);
        due("the second", desk.pair(1), 1);
        due("behind it", desk.pair(2), NONE);
        desk.drop(1);
        due("gone with it", desk.pair(0), NONE);
    }

    private static void pairsOfSixty() {
        sentence("64 a and b");
        Desk desk = new Desk("6 - 5 5");
        for (int k = 1; k < 59; k++) {
            desk.entry(100 + k, 0, 0, 0, 0, 6, 0);
        }
        due("none so far", desk.pair(0), NONE);
        due("the sixtieth", desk.add("6 - 5"), 59);
        due("its first", desk.pair(0), 64 * 59);
        due("its last", desk.pair(1), 64 * 59 + 59);
        due("behind it", desk.pair(2), NONE);
        due("together", desk.together(59, 59), 1);
        due("60 is none such", desk.together(59, 60), NONE);
        Desk ones = new Desk("6 - 1", "6 - 1 1", "6 - 1 1 1", "6 - 1 1 1 1", "6 - 1 1 1 1 1");
        for (int k = 5; k < 60; k++) {
            ones.entry(1, 100 + k, 200, 200, 200, 6, 0);
        }
        due("the first of 240", ones.pair(0), 0);
        due("the sixtieth", ones.pair(59), 59);
        due("the next a", ones.pair(60), 64);
        due("the last", ones.pair(239), 64 * 3 + 59);
        due("behind it", ones.pair(240), NONE);
    }
}
