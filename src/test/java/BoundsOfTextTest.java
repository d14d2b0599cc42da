/**
 * The rules of THE TEXT, each where it holds and where it does not. The strokes of all books here: 1 a word,
 * 2 a suffix, and so on as the row of a test tells.
 */
public final class BoundsOfTextTest {
    private static final String VOWELS = "aeiou";
    private static final String[] KINDS = {"0 cat 1", "2 s 2", "6 - 4", "7 - 8", "8 - 16", "1 re 32", "3 . 64",
        "4 , 128", "5 b 256", "0 abcdefghijklmnop 3", "0 z 5", "0 a 6", "2 ed 7"};
    private static final int CAT = 1;
    private static final int S = 2;
    private static final int CAPITAL = 4;
    private static final int JOIN = 8;
    private static final int UPPER = 16;
    private static final int RE = 32;
    private static final int STOP = 64;
    private static final int COMMA = 128;
    private static final int B = 256;
    private static final int LONG = 3;
    private static final int Z = 5;
    private static final int A = 6;
    private static final int ED = 7;
    private static final int RAW_F = 4096;
    private static final int RAW_STAR = 512;
    private static final int RAW_TAT = 2 + 128 + 262144;

    private static final Check CHECK = new Check();

    public static void main(String[] args) {
        blankUnlessEmpty();
        blankUnlessLink();
        linkIsZeroThen();
        shiftOfTheFirstByte();
        shiftOfAllBytes();
        shiftIsZeroThen();
        rawDoesNotAskForShift();
        rawAsksForLink();
        prefixLinks();
        glueBehindGlue();
        glueNotBehindGlue();
        suffixWithoutLetters();
        lastWordBeginsBehindOtherBytes();
        lastWordOfBothSorts();
        joinedIsSmall();
        yBehindEachLetter();
        yAheadOfEachLetter();
        yAlone();
        yAndS();
        hissOfEachLetter();
        hissOfChAndSh();
        hissOfSAlone();
        eBehindEachLetter();
        eAheadOfEachLetter();
        eAlone();
        lastOfEachLetter();
        vowelAheadOfTheLast();
        noneAheadOfTheVowel();
        threeLettersOrMore();
        noOtherVowel();
        doubledAheadOfEachLetter();
        nothingElse();
        suffixBehindSuffix();
        eachJoinByItsOwnWord();
        stopBehindNothing();
        marksWithoutABlank();
        commandsWriteNothing();
        CHECK.end("BoundsOfTextTest");
    }

    private static void sentence(String words) {
        CHECK.sentence(words);
    }

    private static void text(String want, int... keys) {
        Desk desk = new Desk(KINDS);
        CHECK.due("the text of " + java.util.Arrays.toString(keys), desk.textOf(keys), want);
    }

    /** The text, and SHIFT and LINK behind it. */
    private static void text(String want, int shift, int link, int[] keys) {
        Desk desk = new Desk(KINDS);
        String name = "of " + java.util.Arrays.toString(keys);
        CHECK.due("the text " + name, desk.textOf(keys), want);
        CHECK.due("SHIFT " + name, desk.count(6), shift);
        CHECK.due("LINK " + name, desk.count(7), link);
    }

    private static int[] keys(int... all) {
        return all;
    }

    /** Alone, behind another word, all in capitals, and as a plan: one rule for all of them. */
    private static void joined(String word, String suffix, String want) {
        String[] book = {"0 " + word + " 1", "2 " + suffix + " 2", "8 - 4", "4 , 8"};
        String name = word + " and " + suffix;
        CHECK.due(name, new Desk(book).textOf(1, 2), want);
        CHECK.due(name + " behind another", new Desk(book).textOf(1, 8, 1, 2), word + ", " + want);
        // what stands ahead of the joined bytes; an e that goes is not kept, though an e may come in its place
        int most = Math.min(word.length(), want.length() - suffix.length());
        int kept = 0;
        while (kept < most && word.charAt(kept) == want.charAt(kept)) {
            kept++;
        }
        String capitals = word.substring(0, kept).toUpperCase() + want.substring(kept);
        CHECK.due(name + " in capitals", new Desk(book).textOf(4, 1, 2), capitals);
        Desk plan = new Desk(book);
        boolean wordItself = want.equals(word);
        CHECK.due(name + " planned", plan.plan(want), wordItself ? 1 : 2);
        CHECK.due(name + " planned", plan.planned(), wordItself ? "0" : "0 1");
    }

    private static void blankUnlessEmpty() {
        sentence("ahead of it a blank, unless the text is empty");
        text("cat", CAT);
        text("cat cat", CAT, CAT);
        text("-F", RAW_F);
        text("-F -F", RAW_F, RAW_F);
        text("b", B);
        text("re", RE);
        text("s", S);
        text("Cat", CAPITAL, CAT);
        text(", cat", COMMA, CAT);
        text(". Cat", STOP, CAT);
        text(", -F", COMMA, RAW_F);
    }

    private static void blankUnlessLink() {
        sentence("unless the text is empty, or LINK is 1");
        text("cat cat", CAT, CAT);
        text("catcat", CAT, JOIN, CAT);
        text("catcat", CAT, JOIN, JOIN, CAT);
        text("cat", JOIN, CAT);
        text("catre", CAT, JOIN, RE);
        text("catb", CAT, JOIN, B);
        text("cat-F", CAT, JOIN, RAW_F);
        text(",s", COMMA, JOIN, S);
        text(".Cat", STOP, JOIN, CAT);
    }

    private static void linkIsZeroThen() {
        sentence("or LINK is 1; then LINK is 0");
        text("catcat cat", CAT, JOIN, CAT, CAT);
        text("cat cat", JOIN, CAT, CAT);
        text("cat", 0, 0, keys(JOIN, CAT));
        text("-F cat", JOIN, RAW_F, CAT);
        text("b cat", JOIN, B, CAT);
        text("re", 0, 1, keys(JOIN, RE));
        text("cats cat", CAT, JOIN, S, CAT);
        text("cats", 0, 0, keys(CAT, JOIN, S));
        text("cat, cat", CAT, JOIN, COMMA, CAT);
        text("cat. Cat", CAT, JOIN, STOP, CAT);
    }

    private static void shiftOfTheFirstByte() {
        sentence("If SHIFT is 1 its first byte, if it is a .. z, becomes a capital");
        text("A", CAPITAL, A);
        text("Z", CAPITAL, Z);
        text("Abcdefghijklmnop", CAPITAL, LONG);
        text("Re", CAPITAL, RE);
        text("B", CAPITAL, B);
        text("S", CAPITAL, S);
        text("cat Cat", CAT, CAPITAL, CAT);
        text("catCat", CAT, JOIN, CAPITAL, CAT);
        text("bB", B, JOIN, CAPITAL, B);
    }

    private static void shiftOfAllBytes() {
        sentence("if it is 2 all such do");
        text("A", UPPER, A);
        text("Z", UPPER, Z);
        text("ABCDEFGHIJKLMNOP", UPPER, LONG);
        text("RE", UPPER, RE);
        text("B", UPPER, B);
        text("ED", UPPER, ED);
        text("Cat", UPPER, CAPITAL, CAT);
        text("CAT", CAPITAL, UPPER, CAT);
        text("CAT", UPPER, UPPER, CAT);
    }

    private static void shiftIsZeroThen() {
        sentence("then SHIFT is 0");
        text("Cat cat", CAPITAL, CAT, CAT);
        text("CAT cat", UPPER, CAT, CAT);
        text("REcat", UPPER, RE, CAT);
        text("Recat", CAPITAL, RE, CAT);
        text("Bb", CAPITAL, B, B);
        text("ED cat", UPPER, ED, CAT);
        text("Cat", 0, 0, keys(CAPITAL, CAT));
        text("CAT", 0, 0, keys(UPPER, CAT));
        text("S", 0, 0, keys(CAPITAL, S));
    }

    private static void rawDoesNotAskForShift() {
        sentence("RAW: so, as its STROKE is WRITTEN, but SHIFT is not asked for, and stays");
        text("-F", 1, 0, keys(CAPITAL, RAW_F));
        text("-F", 2, 0, keys(UPPER, RAW_F));
        text("-F -F Cat cat", CAPITAL, RAW_F, RAW_F, CAT, CAT);
        text("-F CAT", UPPER, RAW_F, CAT);
        text(". -F Cat", STOP, RAW_F, CAT);
    }

    private static void rawAsksForLink() {
        sentence("RAW: so");
        text("re-F cat", RE, RAW_F, CAT);
        text("re-F", 0, 0, keys(RE, RAW_F));
        text("-F -F", 0, 0, keys(RAW_F, RAW_F));
        text("-F-F", RAW_F, JOIN, RAW_F);
    }

    private static void prefixLinks() {
        sentence("PREFIX: so; then LINK is 1");
        text("re", 0, 1, keys(RE));
        text("cat re", 0, 1, keys(CAT, RE));
        text("rerecat cat", RE, RE, CAT, CAT);
        text("reb", RE, B);
        text("reCat", RE, CAPITAL, CAT);
        text("re, cat", RE, COMMA, CAT);
        text("res cat", RE, S, CAT);
    }

    private static void glueBehindGlue() {
        sentence("GLUE: so, but without a blank if the TRANSLATION just ahead of it is a GLUE, too");
        text("b", B);
        text("bb", B, B);
        text("bbb", B, B, B);
        text("cat bb cat", CAT, B, B, CAT);
        text("Bb", 0, 0, keys(CAPITAL, B, B));
        text("bb", 0, 0, keys(B, B));
        Desk two = new Desk("5 ab 1", "5 c 1 1", "5 d 2");
        CHECK.due("of several strokes", two.textOf(2, 1, 1, 2), "dcd");
    }

    private static void glueNotBehindGlue() {
        sentence("if the TRANSLATION just ahead of it is a GLUE, too");
        text("cat b", CAT, B);
        text("b cat b", B, CAT, B);
        text("b -F b", B, RAW_F, B);
        text("b B", B, CAPITAL, B);
        text("b B", B, UPPER, B);
        text("bb", B, JOIN, B);
        text("b, b", B, COMMA, B);
        text("b. B", B, STOP, B);
        text("bs b", B, S, B);
        text("b reb", B, RE, B);
        text("b cat", B, CAT);
        text("bs", B, S);
    }

    private static void suffixWithoutLetters() {
        sentence("the letters, of both sorts, at the text's end; if there are none it is as a WORD");
        text("s", S);
        text("cat, s", CAT, COMMA, S);
        text("cat. S", CAT, STOP, S);
        text(",s", COMMA, JOIN, S);
        text("* s", RAW_STAR, S);
        text("*s", RAW_STAR, JOIN, S);
        text(", S", COMMA, CAPITAL, S);
        text(", ED", COMMA, UPPER, ED);
        text(", s", 0, 0, keys(COMMA, S));
        text("cats", CAT, S);
        text("-Fs", RAW_F, S);
        text("res", RE, S);
        text("bs", B, S);
    }

    private static void lastWordBeginsBehindOtherBytes() {
        sentence("it is joined to the LAST WORD (the letters, of both sorts, at the text's end");
        String[] book = {"0 at 1", "0 e 2", "0 y 3", "0 t 4", "2 ed 5", "7 - 6", "4 , 7", "2 s 8", "0 h 9", "0 c 10",
            "0 a 11", "0 tat 12"};
        CHECK.due("at alone has two letters", new Desk(book).textOf(4, 1, 5), "t ated");
        CHECK.due("t and at have three", new Desk(book).textOf(4, 6, 1, 5), "tatted");
        CHECK.due("behind a comma two again", new Desk(book).textOf(4, 7, 6, 1, 5), "t,ated");
        CHECK.due("a y behind a blank", new Desk(book).textOf(4, 3, 8), "t ys");
        CHECK.due("a y behind t", new Desk(book).textOf(4, 6, 3, 8), "ties");
        CHECK.due("an e behind a comma", new Desk(book).textOf(4, 7, 6, 2, 5), "t,eed");
        CHECK.due("an e behind t", new Desk(book).textOf(4, 6, 2, 5), "ted");
        CHECK.due("an h behind a blank", new Desk(book).textOf(10, 9, 8), "c hs");
        CHECK.due("an h behind c", new Desk(book).textOf(10, 6, 9, 8), "ches");
        CHECK.due("a vowel ahead of the blank is no other vowel", new Desk(book).textOf(11, 12, 5), "a tatted");
        CHECK.due("a vowel of the same word is", new Desk(book).textOf(11, 6, 12, 5), "atated");
    }

    private static void lastWordOfBothSorts() {
        sentence("letters alike whether capital or not");
        text("TATted", RAW_TAT, ED);
        String[] y = {"2 ed 1", "2 s 2", "6 - 8", "0 y 32", "7 - 64"};
        CHECK.due("a raw STKA and a small y", new Desk(y).textOf(1 + 2 + 4 + 128, 64, 32, 1), "STKAyed");
        CHECK.due("a raw KR and a small y", new Desk(y).textOf(4 + 64, 64, 32, 2), "KRies");
        CHECK.due("a raw KR and a capital Y", new Desk(y).textOf(4 + 64, 64, 8, 32, 2), "KRies");
        CHECK.due("a raw S", new Desk("2 s 2").textOf(524288, 2), "-Ses");
        CHECK.due("a raw Z", new Desk("2 s 2").textOf(2097152, 2), "-Zes");
        CHECK.due("a raw D", new Desk("2 s 2").textOf(1048576, 2), "-Ds");
        CHECK.due("a raw KWRE", new Desk("2 ed 2").textOf(4 + 16 + 64 + 1024, 2), "KWRed");
        CHECK.due("a raw OE", new Desk("2 ed 2").textOf(256 + 1024, 2), "OEed");
        CHECK.due("a raw E", new Desk("2 ed 2").textOf(1024, 2), "Eed");
        CHECK.due("a raw S*E", new Desk("2 ed 2").textOf(1 + 512 + 1024, 2), "S*Eed");
        CHECK.due("a raw SAOT: two vowels", new Desk("2 ed 2").textOf(1 + 128 + 256 + 262144, 2), "SAOTed");
        CHECK.due("a raw -PT: two letters", new Desk("2 ed 2").textOf(16384 + 262144, 2), "-PTed");
    }

    private static void joinedIsSmall() {
        sentence("what is joined is small, SHIFT stays, LINK is 0");
        text("CATs", UPPER, CAT, S);
        text("CATted", UPPER, CAT, ED);
        text("Catted", CAPITAL, CAT, ED);
        text("cats", 1, 0, keys(CAT, CAPITAL, S));
        text("cats", 2, 0, keys(CAT, UPPER, S));
        text("cats Cat", CAT, CAPITAL, S, CAT);
        text("cats CAT", CAT, UPPER, S, CAT);
        text("cats", 0, 0, keys(CAT, JOIN, S));
        text("res", 0, 0, keys(RE, S));
        CHECK.due("the y becomes i (small)", new Desk("0 by 1", "2 s 2", "8 - 4").textOf(4, 1, 2), "Bies");
    }

    private static boolean in(String letters, char letter) {
        return letters.indexOf(letter) >= 0;
    }

    private static void yBehindEachLetter() {
        sentence("1 the LAST WORD ends by a letter that is no vowel and y");
        for (char c = 'a'; c <= 'z'; c++) {
            joined("t" + c + "y", "ed", in(VOWELS, c) ? "t" + c + "yed" : "t" + c + "ied");
            joined(c + "y", "s", in(VOWELS, c) ? c + "ys" : c + "ies");
        }
    }

    private static void yAheadOfEachLetter() {
        sentence("and the SUFFIX does not begin by i: the y becomes i");
        for (char c = 'a'; c <= 'z'; c++) {
            joined("try", c + "t", c == 'i' ? "tryit" : "tri" + c + "t");
        }
        joined("try", "i", "tryi");
        joined("try", "j", "trij");
        joined("try", "h", "trih");
    }

    private static void yAlone() {
        sentence("1 the LAST WORD ends by a letter that is no vowel and y");
        joined("y", "s", "ys");
        joined("y", "ed", "yed");
        joined("yy", "s", "yies");
        joined("ay", "s", "ays");
        joined("by", "s", "bies");
        joined("yb", "s", "ybs");
        joined("abcdefghijklmnpy", "s", "abcdefghijklmnpies");
        joined("abcdefghijklmnoy", "s", "abcdefghijklmnoys");
    }

    private static void yAndS() {
        sentence("and if the SUFFIX is s an e comes ahead of it");
        joined("try", "s", "tries");
        joined("try", "ss", "triss");
        joined("try", "st", "trist");
        joined("try", "t", "trit");
        joined("try", "es", "tries");
    }

    private static void hissOfEachLetter() {
        sentence("2 the SUFFIX is s, and the LAST WORD ends by s, x, z, ch or sh: es comes");
        for (char c = 'a'; c <= 'z'; c++) {
            if (c != 'y') {
                joined("to" + c, "s", in("sxz", c) ? "to" + c + "es" : "to" + c + "s");
                joined("" + c, "s", in("sxz", c) ? c + "es" : c + "s");
            }
        }
    }

    private static void hissOfChAndSh() {
        sentence("ends by s, x, z, ch or sh");
        for (char c = 'a'; c <= 'z'; c++) {
            joined("a" + c + "h", "s", in("cs", c) ? "a" + c + "hes" : "a" + c + "hs");
            joined("" + c + "h", "s", in("cs", c) ? c + "hes" : c + "hs");
        }
        joined("h", "s", "hs");
        joined("hc", "s", "hcs");
        joined("cha", "s", "chas");
    }

    private static void hissOfSAlone() {
        sentence("2 the SUFFIX is s");
        joined("box", "s", "boxes");
        joined("box", "ss", "boxss");
        joined("box", "st", "boxst");
        joined("box", "t", "boxt");
        joined("box", "r", "boxr");
        joined("box", "es", "boxes");
        joined("wish", "ful", "wishful");
    }

    private static void eBehindEachLetter() {
        sentence("3 the LAST WORD ends by e, but not by ee, oe or ye");
        for (char c = 'a'; c <= 'z'; c++) {
            joined("t" + c + "e", "ing", in("eoy", c) ? "t" + c + "eing" : "t" + c + "ing");
            joined(c + "e", "ing", in("eoy", c) ? c + "eing" : c + "ing");
        }
        joined("abcdefghijklmnpe", "ed", "abcdefghijklmnped");
        joined("abcdefghijklmnoe", "ed", "abcdefghijklmnoeed");
    }

    private static void eAheadOfEachLetter() {
        sentence("and the SUFFIX begins by a vowel: the e goes");
        for (char c = 'a'; c <= 'z'; c++) {
            joined("care", c + "t", in(VOWELS, c) ? "car" + c + "t" : "care" + c + "t");
            joined("care", "" + c, in(VOWELS, c) ? "car" + c : "care" + c);
        }
    }

    private static void eAlone() {
        sentence("has two letters or more");
        joined("e", "ing", "eing");
        joined("e", "a", "ea");
        joined("be", "ing", "bing");
        joined("be", "a", "ba");
        joined("bed", "ing", "bedding");
        joined("eb", "ing", "ebing");
    }

    private static void lastOfEachLetter() {
        sentence("4 .. ends by one that is no vowel, nor w, x, y");
        for (char c = 'a'; c <= 'z'; c++) {
            boolean once = in("aiouwxy", c);
            String want = c == 'e' ? "ba" : once ? "ba" + c : "ba" + c + c;
            joined("ba" + c, "ing", want + "ing");
        }
    }

    private static void vowelAheadOfTheLast() {
        sentence("ahead of that a vowel");
        for (char c = 'a'; c <= 'z'; c++) {
            joined("b" + c + "t", "ing", in(VOWELS, c) ? "b" + c + "tting" : "b" + c + "ting");
        }
    }

    private static void noneAheadOfTheVowel() {
        sentence("ahead of that none");
        for (char c = 'a'; c <= 'z'; c++) {
            joined(c + "at", "ing", in(VOWELS, c) ? c + "ating" : c + "atting");
            joined("b" + c + "at", "ing", in(VOWELS, c) ? "b" + c + "ating" : "b" + c + "atting");
        }
    }

    private static void threeLettersOrMore() {
        sentence("the LAST WORD has three letters or more");
        joined("t", "ed", "ted");
        joined("at", "ed", "ated");
        joined("tat", "ed", "tatted");
        joined("stat", "ed", "statted");
        joined("bcdfghjklmnpqrat", "ed", "bcdfghjklmnpqratted");
    }

    private static void noOtherVowel() {
        sentence("and has no other vowel: its last letter comes once more");
        for (char c = 'a'; c <= 'z'; c++) {
            joined(c + "btat", "ed", in(VOWELS, c) ? c + "btated" : c + "btatted");
        }
        joined("abdfghjklmnpqrat", "ed", "abdfghjklmnpqrated");
        joined("ybdfghjklmnpqrat", "ed", "ybdfghjklmnpqratted");
        joined("tatt", "ed", "tatted");
    }

    private static void doubledAheadOfEachLetter() {
        sentence("4 the SUFFIX begins by a vowel");
        for (char c = 'a'; c <= 'z'; c++) {
            joined("bat", c + "n", in(VOWELS, c) ? "batt" + c + "n" : "bat" + c + "n");
            joined("bat", "" + c, in(VOWELS, c) ? "batt" + c : "bat" + c);
        }
    }

    private static void nothingElse() {
        sentence("5 nothing else");
        joined("cat", "s", "cats");
        joined("cat", "ly", "catly");
        joined("go", "ing", "going");
        joined("play", "ed", "played");
        joined("try", "ing", "trying");
        joined("see", "ing", "seeing");
        joined("care", "ful", "careful");
        joined("rain", "ed", "rained");
        joined("abcdefghijklmnop", "abcdefghijklmnop", "abcdefghijklmnopabcdefghijklmnop");
    }

    private static void suffixBehindSuffix() {
        sentence("it is joined to the LAST WORD");
        String[] book = {"0 bat 1", "2 y 2", "2 er 3", "2 s 4", "2 e 5"};
        CHECK.due("bat y", new Desk(book).textOf(1, 2), "baty");
        CHECK.due("bat y s", new Desk(book).textOf(1, 2, 4), "baties");
        CHECK.due("bat y er", new Desk(book).textOf(1, 2, 3), "batier");
        CHECK.due("bat er s", new Desk(book).textOf(1, 3, 4), "batters");
        CHECK.due("bat er er", new Desk(book).textOf(1, 3, 3), "batterer");
        CHECK.due("bat e er", new Desk(book).textOf(1, 5, 3), "batter");
        CHECK.due("bat s s", new Desk(book).textOf(1, 4, 4), "batses");
        CHECK.due("a suffix as a word, then another", new Desk(book).textOf(4, 4), "ses");
    }

    private static void eachJoinByItsOwnWord() {
        sentence("by the first of these that holds");
        String[] book = {"0 cat 1", "0 at 2", "2 ed 3", "2 s 4", "0 y 5", "0 by 6", "0 e 7", "0 be 8", "0 rain 9"};
        CHECK.due("three letters, then two", new Desk(book).textOf(1, 3, 2, 3), "catted ated");
        CHECK.due("two letters, then three", new Desk(book).textOf(2, 3, 1, 3), "ated catted");
        CHECK.due("three letters twice", new Desk(book).textOf(1, 3, 1, 3), "catted catted");
        CHECK.due("two vowels, then one", new Desk(book).textOf(9, 3, 1, 3), "rained catted");
        CHECK.due("two letters by y, then one", new Desk(book).textOf(6, 4, 5, 4), "bies ys");
        CHECK.due("two letters by e, then one", new Desk(book).textOf(8, 3, 7, 3), "bed eed");
        CHECK.due("one letter by e, then two", new Desk(book).textOf(7, 3, 8, 3), "eed bed");
        Desk again = new Desk(book);
        CHECK.due("three letters", again.textOf(1, 3), "catted");
        again.back();
        again.back();
        CHECK.due("taken back, then two", again.textOf(2, 3), "ated");
    }

    private static void stopBehindNothing() {
        sentence("(A byte 46 of a STOP behind an empty text comes, too.)");
        text(".", 1, 0, keys(STOP));
        text(".", 1, 0, keys(JOIN, STOP));
        text(".", 1, 0, keys(UPPER, STOP));
        text(". Cat", STOP, CAT);
        text("..", STOP, STOP);
        text(",", 0, 0, keys(COMMA));
        for (char c : ".,;:?!".toCharArray()) {
            CHECK.due("a STOP of " + c, new Desk("3 " + c + " 1", "0 a 2").textOf(1, 2), c + " A");
            CHECK.due("a COMMA of " + c, new Desk("4 " + c + " 1", "0 a 2").textOf(1, 2), c + " a");
        }
    }

    private static void marksWithoutABlank() {
        sentence("STOP: its byte without a blank; SHIFT is 1, LINK 0. COMMA: its byte without a blank; LINK 0.");
        text("cat.", 1, 0, keys(CAT, STOP));
        text("cat.", 1, 0, keys(CAT, JOIN, STOP));
        text("cat.", 1, 0, keys(CAT, UPPER, STOP));
        text("cat,", 0, 0, keys(CAT, COMMA));
        text("cat,", 0, 0, keys(CAT, JOIN, COMMA));
        text("cat,", 2, 0, keys(CAT, UPPER, COMMA));
        text("cat,", 1, 0, keys(CAT, CAPITAL, COMMA));
        text("cat.,", 1, 0, keys(CAT, STOP, COMMA));
        text("-F.", 1, 0, keys(RAW_F, STOP));
        text("re,", 0, 0, keys(RE, COMMA));
        text("b,", 0, 0, keys(B, COMMA));
    }

    private static void commandsWriteNothing() {
        sentence("CAPITAL: SHIFT is 1. JOIN: LINK is 1. UPPER: SHIFT is 2.");
        text("", 1, 0, keys(CAPITAL));
        text("", 0, 1, keys(JOIN));
        text("", 2, 0, keys(UPPER));
        text("", 2, 1, keys(CAPITAL, JOIN, UPPER));
        text("", 1, 1, keys(UPPER, JOIN, CAPITAL));
        text("", 1, 0, keys(CAPITAL, CAPITAL));
        text("cat", 2, 1, keys(CAT, UPPER, JOIN));
        text("cat", 1, 1, keys(CAT, JOIN, CAPITAL));
    }
}
