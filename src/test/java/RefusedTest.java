import java.util.Arrays;
import java.util.function.ToIntFunction;

/**
 * "A call that is refused (NONE, false) changes nothing but the tape, where it is told." Two rooms are made
 * alike; one of them gets a refused call more. All that can be asked then is asked of both, and again behind
 * some calls that are taken.
 */
public final class RefusedTest {
    private static final int ALL = 4194303;
    private static final int NONE = -1;
    private static final int FALSE = 0;
    private static final int CANNOT = -2;
    private static final int LOWEST = Integer.MIN_VALUE;
    private static final int HIGHEST = Integer.MAX_VALUE;
    private static final int[] NO_STROKES = {0, -1, ALL + 1, LOWEST, HIGHEST};
    private static final String TAPE = "abcdefghijklmnopqrst";

    private static final Check CHECK = new Check();

    public static void main(String[] args) {
        CHECK.sentence("A call that is refused (NONE, false) changes nothing but the tape, where it is told");
        feedRefused();
        entryRefusedAndTheTapeStays();
        entryRefusedAndTheTapeIsEmpty();
        dropRefused();
        strokeRefused();
        backRefused();
        correctRefused();
        insertRefused();
        cutRefused();
        planRefusedAndTheTapeStays();
        planRefusedAndTheTapeIsEmpty();
        questionsRefused();
        questionsChangeNothing();
        refusedBySixty();
        refusedByThreeHundred();
        CHECK.end("RefusedTest");
    }

    /** A shift and a link wait, a plan is made that was not clear, two pairs run together. */
    private static Desk busy() {
        Desk desk = new Desk("0 cat 1", "2 s 2", "0 tax 1 2", "7 - 8", "8 - 16");
        desk.strokes(1, 1, 2, 4, 8, 16);
        desk.plan("cats");
        return desk;
    }

    private static Desk withTape(String tape) {
        Desk desk = busy();
        desk.feed(tape);
        return desk;
    }

    private static int asNumber(boolean answer) {
        return answer ? 1 : 0;
    }

    private static void staysBy(String name, String tape, int answer, ToIntFunction<Desk> call) {
        twins(name, tape, tape, answer, call);
    }

    private static void emptyBy(String name, String tape, int answer, ToIntFunction<Desk> call) {
        twins(name, tape, "", answer, call);
    }

    private static void twins(String name, String tape, String tapeThen, int answer, ToIntFunction<Desk> call) {
        Desk asked = withTape(tape);
        Desk twin = withTape(tapeThen);
        CHECK.due(name, call.applyAsInt(asked), answer);
        CHECK.due(name + ", all then", asked.state(), twin.state());
        goOn(asked);
        goOn(twin);
        CHECK.due(name + ", all behind later calls", asked.state(), twin.state());
    }

    /** Calls that show the bytes of the tape, and read the record and the book again. */
    private static void goOn(Desk desk) {
        desk.entry(32, 1, 0, 0, 0, 0, 5);
        desk.feed("dog");
        desk.entry(64, 0, 0, 0, 0, 5, 3);
        desk.stroke(64);
        desk.stroke(1);
        desk.back();
        desk.insert(0, 64);
        desk.correct(1, 2);
        desk.cut(2);
        desk.drop(2);
    }

    private static void feedRefused() {
        String eighty = TAPE.repeat(4);
        staysBy("the fifth feed", eighty, NONE, d -> d.feed(0x7a7a7a7a, 0x7a7a7a7a, 0x7a7a7a7a, 0x7a7a7a7a, 0x7a7a7a7a));
        staysBy("the fifth feed of zeros", eighty, NONE, d -> d.feed(0, 0, 0, 0, 0));
    }

    private static void entryRefusedAndTheTapeStays() {
        for (int keys : NO_STROKES) {
            staysBy("a is " + keys, TAPE, NONE, d -> d.entry(keys, 0, 0, 0, 0, 0, 3));
            if (keys != 0) {
                staysBy("b is " + keys, TAPE, NONE, d -> d.entry(32, keys, 0, 0, 0, 0, 3));
                staysBy("e is " + keys, TAPE, NONE, d -> d.entry(32, 32, 32, 32, keys, 0, 3));
                staysBy("e is " + keys + " behind zeros", TAPE, NONE, d -> d.entry(32, 0, 0, 0, keys, 0, 3));
            }
        }
        staysBy("a zero ahead", TAPE, NONE, d -> d.entry(0, 32, 0, 0, 0, 0, 3));
        staysBy("a zero between", TAPE, NONE, d -> d.entry(32, 0, 32, 0, 0, 0, 3));
        for (int kind : new int[] {-1, 9, LOWEST, HIGHEST}) {
            staysBy("kind " + kind, TAPE, NONE, d -> d.entry(32, 0, 0, 0, 0, kind, 3));
        }
        for (int n : new int[] {0, -1, 17, 20, LOWEST, HIGHEST}) {
            staysBy("a word of " + n, TAPE, NONE, d -> d.entry(32, 0, 0, 0, 0, 0, n));
            staysBy("a glue of " + n, TAPE, NONE, d -> d.entry(32, 0, 0, 0, 0, 5, n));
        }
        for (int n : new int[] {0, 2, -1, LOWEST, HIGHEST}) {
            staysBy("a stop of " + n, TAPE, NONE, d -> d.entry(32, 0, 0, 0, 0, 3, n));
        }
        for (int n : new int[] {1, -1, LOWEST, HIGHEST}) {
            staysBy("a command of " + n, TAPE, NONE, d -> d.entry(32, 0, 0, 0, 0, 6, n));
        }
        staysBy("the outline is there, and no such n", TAPE, NONE, d -> d.entry(1, 2, 0, 0, 0, 0, 17));
        staysBy("not so many", "", NONE, d -> d.entry(32, 0, 0, 0, 0, 0, 1));
        staysBy("not so many of a stop", "", NONE, d -> d.entry(32, 0, 0, 0, 0, 3, 1));
        staysBy("not so many, and the outline is there", "", NONE, d -> d.entry(1, 0, 0, 0, 0, 0, 1));
    }

    private static void entryRefusedAndTheTapeIsEmpty() {
        emptyBy("other bytes", "abC", NONE, d -> d.entry(32, 0, 0, 0, 0, 0, 3));
        emptyBy("other bytes of four feeds", "A".repeat(80), NONE, d -> d.entry(32, 0, 0, 0, 0, 0, 1));
        emptyBy("no byte of a stop", "abc", NONE, d -> d.entry(32, 0, 0, 0, 0, 3, 1));
        emptyBy("no byte of a comma", "abc", NONE, d -> d.entry(32, 0, 0, 0, 0, 4, 1));
        emptyBy("the outline is there", TAPE, NONE, d -> d.entry(1, 0, 0, 0, 0, 0, 3));
        emptyBy("the outline of two is there", TAPE, NONE, d -> d.entry(1, 2, 0, 0, 0, 5, 16));
        emptyBy("the outline of a command is there", TAPE, NONE, d -> d.entry(16, 0, 0, 0, 0, 1, 2));
        emptyBy("the outline is there, a command", TAPE, NONE, d -> d.entry(16, 0, 0, 0, 0, 8, 0));
        emptyBy("the outline is there, and other bytes", "abC", NONE, d -> d.entry(1, 0, 0, 0, 0, 0, 3));
    }

    private static void dropRefused() {
        for (int k : new int[] {-1, 5, 6, 60, LOWEST, HIGHEST}) {
            staysBy("drop " + k, TAPE, FALSE, d -> asNumber(d.drop(k)));
        }
    }

    private static void strokeRefused() {
        for (int keys : NO_STROKES) {
            staysBy("stroke " + keys, TAPE, NONE, d -> d.stroke(keys));
        }
    }

    private static void backRefused() {
        Desk asked = new Desk("0 cat 1", "0 tax 1 1");
        Desk twin = new Desk("0 cat 1", "0 tax 1 1");
        CHECK.due("back without", asked.back(), NONE);
        CHECK.due("back without, all then", asked.state(), twin.state());
        goOn(asked);
        goOn(twin);
        CHECK.due("back without, all behind later calls", asked.state(), twin.state());
    }

    private static void correctRefused() {
        for (int i : new int[] {-1, 6, 7, 299, 300, LOWEST, HIGHEST}) {
            staysBy("correct " + i, TAPE, FALSE, d -> asNumber(d.correct(i, 1)));
        }
        for (int keys : NO_STROKES) {
            staysBy("correct to " + keys, TAPE, FALSE, d -> asNumber(d.correct(1, keys)));
            staysBy("correct 6 to " + keys, TAPE, FALSE, d -> asNumber(d.correct(6, keys)));
        }
    }

    private static void insertRefused() {
        for (int i : new int[] {-1, 7, 8, 299, 300, LOWEST, HIGHEST}) {
            staysBy("insert at " + i, TAPE, FALSE, d -> asNumber(d.insert(i, 1)));
        }
        for (int keys : NO_STROKES) {
            staysBy("insert " + keys, TAPE, FALSE, d -> asNumber(d.insert(1, keys)));
            staysBy("insert " + keys + " behind the last", TAPE, FALSE, d -> asNumber(d.insert(6, keys)));
        }
    }

    private static void cutRefused() {
        for (int i : new int[] {-1, 6, 7, 299, 300, LOWEST, HIGHEST}) {
            staysBy("cut " + i, TAPE, NONE, d -> d.cut(i));
        }
    }

    private static void planRefusedAndTheTapeStays() {
        for (int n : new int[] {0, -1, 21, 60, 61, LOWEST, HIGHEST}) {
            staysBy("plan " + n, TAPE, NONE, d -> d.plan(n));
        }
        staysBy("plan 61 of 80", TAPE.repeat(4), NONE, d -> d.plan(61));
        staysBy("plan 1 of none", "", NONE, d -> d.plan(1));
    }

    private static void planRefusedAndTheTapeIsEmpty() {
        emptyBy("other bytes", "caT", NONE, d -> d.plan(3));
        emptyBy("a blank at the end", "cat ", NONE, d -> d.plan(4));
        emptyBy("a blank ahead", " cat", NONE, d -> d.plan(4));
        emptyBy("two blanks", "cat  cat", NONE, d -> d.plan(8));
        emptyBy("a word can't be written", "cat dog", CANNOT, d -> d.plan(7));
        emptyBy("the first can't", "dog cat", CANNOT, d -> d.plan(7));
        emptyBy("a long one can't", TAPE.repeat(4), CANNOT, d -> d.plan(60));
    }

    private static void questionsRefused() {
        for (int i : new int[] {-1, 60, LOWEST, HIGHEST}) {
            staysBy("count " + i, TAPE, NONE, d -> d.count(i));
            staysBy("told " + i, TAPE, NONE, d -> d.told(i, 1));
            staysBy("told 0 " + i, TAPE, NONE, d -> d.told(0, i));
            staysBy("octet " + i, TAPE, NONE, d -> d.octet(i));
            staysBy("of " + i, TAPE, NONE, d -> d.of(i));
            staysBy("written " + i, TAPE, NONE, d -> d.written(i, 0));
            staysBy("written 0 " + i, TAPE, NONE, d -> d.written(0, i));
            staysBy("planned " + i, TAPE, NONE, d -> d.planned(i));
            staysBy("together " + i + " 0", TAPE, NONE, d -> d.together(i, 0));
            staysBy("together 0 " + i, TAPE, NONE, d -> d.together(0, i));
            staysBy("pair " + i, TAPE, NONE, d -> d.pair(i));
            staysBy("book " + i, TAPE, NONE, d -> d.book(i, 0));
            staysBy("book 0 " + i, TAPE, NONE, d -> d.book(0, i));
        }
    }

    /** Questions that are answered change nothing, either. */
    private static void questionsChangeNothing() {
        staysBy("clear", TAPE, 0, Desk::clear);
        staysBy("count 3", TAPE, 9, d -> d.count(3));
        staysBy("told 1 2", TAPE, 2, d -> d.told(1, 2));
        staysBy("octet 8", TAPE, 'K', d -> d.octet(8));
        staysBy("of 5", TAPE, 4, d -> d.of(5));
        staysBy("written 3 0", TAPE, 'K', d -> d.written(3, 0));
        staysBy("planned 1", TAPE, 1, d -> d.planned(1));
        staysBy("together 0 1", TAPE, 1, d -> d.together(0, 1));
        staysBy("pair 0", TAPE, 1, d -> d.pair(0));
        staysBy("book 2 3", TAPE, 1, d -> d.book(2, 3));
    }

    private static Desk ofSixty() {
        Desk desk = new Desk("0 cat 1", "0 tax 1 1");
        for (int k = 2; k < 60; k++) {
            desk.entry(k + 100, 0, 0, 0, 0, 6 + k % 3, 0);
        }
        return desk.strokes(1, 1, 159, 2, 1);
    }

    /** The whole book of sixty is asked for in rows, for one room may be asked 512 times alone. */
    private static String bookOf(Desk desk) {
        StringBuilder sum = new StringBuilder(desk.counts()).append(" | ").append(desk.text());
        for (int k = 0; k <= 60; k++) {
            sum.append(" | ").append(desk.book(k, 0)).append(' ').append(desk.book(k, 1)).append(' ').append(desk.book(k, 10));
        }
        return sum.append(" | ").append(desk.pairs()).toString();
    }

    private static void refusedBySixty() {
        int[][] refused = {{100, 0}, {1, 2}, {2, 0}};
        for (int[] o : refused) {
            Desk asked = ofSixty();
            CHECK.due("the 61st: " + Arrays.toString(o), asked.entry(o[0], o[1], 0, 0, 0, 7, 0), NONE);
            CHECK.due("the 61st, all then", bookOf(asked), bookOf(ofSixty()));
            Desk text = ofSixty();
            text.feed("dog");
            CHECK.due("the 61st with a text: " + Arrays.toString(o), text.entry(o[0], o[1], 0, 0, 0, 0, 3), NONE);
            CHECK.due("the 61st with a text, all then", bookOf(text), bookOf(ofSixty()));
        }
    }

    private static Desk ofThreeHundred() {
        Desk desk = new Desk("0 cat 1", "2 s 2", "0 tax 1 2");
        for (int i = 0; i < 300; i++) {
            desk.stroke(i % 7 == 0 ? 1 : i % 5 == 0 ? 2 : i % 3 == 0 ? 4 : 8);
        }
        return desk;
    }

    private static String recordOf(Desk desk) {
        StringBuilder sum = new StringBuilder(desk.counts());
        for (int i = 0; i <= 300; i += 4) {
            sum.append(" | ").append(desk.written(i, 0)).append(' ').append(desk.of(i));
        }
        int last = desk.count(1) - 1;
        for (int what = 0; what < 5; what++) {
            sum.append(" | ").append(desk.told(last, what));
        }
        return sum.append(" | ").append(desk.octet(desk.count(3) - 1)).append(" | ").append(desk.back()).toString();
    }

    private static void refusedByThreeHundred() {
        String want = recordOf(ofThreeHundred());
        Desk stroke = ofThreeHundred();
        CHECK.due("the 301st", stroke.stroke(2), NONE);
        CHECK.due("the 301st, all then", recordOf(stroke), want);
        for (int i : new int[] {0, 1, 299, 300, 301, -1}) {
            Desk insert = ofThreeHundred();
            CHECK.due("the 301st at " + i, insert.insert(i, 2), false);
            CHECK.due("the 301st at " + i + ", all then", recordOf(insert), want);
        }
        Desk correct = ofThreeHundred();
        CHECK.due("correct 300", correct.correct(300, 2), false);
        CHECK.due("cut 300", correct.cut(300), NONE);
        CHECK.due("both, all then", recordOf(correct), want);
    }
}
