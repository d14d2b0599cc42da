import java.util.Arrays;

/**
 * A room whose calls are counted, for the document promises nothing behind the 512th; with what the tests
 * of the boundaries ask for again and again.
 */
final class Desk {
    static final int MOST_CALLS = 512;
    static final int NONE = StenoRoom.NONE;

    private final StenoRoom room = new StenoRoom();
    private int calls;

    /** A desk with these entries, each told as "kind text stroke stroke ..", a text of none as -. */
    Desk(String... entries) {
        for (String entry : entries) {
            int k = add(entry);
            if (k == NONE) {
                throw new IllegalStateException("a test's own entry is refused: " + entry);
            }
        }
    }

    private StenoRoom room() {
        calls++;
        if (calls > MOST_CALLS) {
            throw new IllegalStateException("a test asks one room more than " + MOST_CALLS + " times");
        }
        return room;
    }

    int calls() {
        return calls;
    }

    int feed(int a, int b, int c, int d, int e) {
        return room().feed(a, b, c, d, e);
    }

    int entry(int a, int b, int c, int d, int e, int kind, int n) {
        return room().entry(a, b, c, d, e, kind, n);
    }

    boolean drop(int k) {
        return room().drop(k);
    }

    int stroke(int keys) {
        return room().stroke(keys);
    }

    int back() {
        return room().back();
    }

    boolean correct(int i, int keys) {
        return room().correct(i, keys);
    }

    boolean insert(int i, int keys) {
        return room().insert(i, keys);
    }

    int cut(int i) {
        return room().cut(i);
    }

    int count(int what) {
        return room().count(what);
    }

    int told(int t, int what) {
        return room().told(t, what);
    }

    int octet(int i) {
        return room().octet(i);
    }

    int of(int i) {
        return room().of(i);
    }

    int written(int k, int i) {
        return room().written(k, i);
    }

    int plan(int n) {
        return room().plan(n);
    }

    int planned(int i) {
        return room().planned(i);
    }

    int clear() {
        return room().clear();
    }

    int together(int a, int b) {
        return room().together(a, b);
    }

    int pair(int i) {
        return room().pair(i);
    }

    int book(int k, int what) {
        return room().book(k, what);
    }

    /** Feeds a text, twenty bytes a call, zeros behind it; nothing for an empty one. */
    int feed(String text) {
        int answer = NONE;
        for (int from = 0; from < text.length(); from += 20) {
            answer = feed(Check.four(text, from), Check.four(text, from + 4), Check.four(text, from + 8),
                Check.four(text, from + 12), Check.four(text, from + 16));
        }
        return answer;
    }

    int entry(int kind, String text, int... outline) {
        feed(text);
        return entryOfTape(kind, text.length(), outline);
    }

    int entryOfTape(int kind, int n, int... outline) {
        int[] o = Arrays.copyOf(outline, 5);
        return entry(o[0], o[1], o[2], o[3], o[4], kind, n);
    }

    int add(String told) {
        String[] parts = told.split(" ");
        int[] outline = new int[parts.length - 2];
        for (int i = 2; i < parts.length; i++) {
            outline[i - 2] = Integer.parseInt(parts[i]);
        }
        return entry(Integer.parseInt(parts[0]), parts[1].equals("-") ? "" : parts[1], outline);
    }

    Desk strokes(int... keys) {
        for (int k : keys) {
            stroke(k);
        }
        return this;
    }

    int plan(String words) {
        feed(words);
        return plan(words.length());
    }

    String text() {
        StringBuilder sum = new StringBuilder();
        int size = count(3);
        for (int i = 0; i < size; i++) {
            sum.append((char) octet(i));
        }
        return sum.toString();
    }

    String textOf(int... keys) {
        return strokes(keys).text();
    }

    /** The entries of all translations, raw ones as *. */
    String translations() {
        StringBuilder sum = new StringBuilder();
        int size = count(1);
        for (int t = 0; t < size; t++) {
            int k = told(t, 0);
            sum.append(t == 0 ? "" : " ").append(k == NONE ? "*" : "" + k);
        }
        return sum.toString();
    }

    String translationsOf(int... keys) {
        return strokes(keys).translations();
    }

    String written(int k) {
        StringBuilder sum = new StringBuilder();
        int octet = written(k, 0);
        for (int i = 1; octet != NONE; i++) {
            sum.append((char) octet);
            octet = written(k, i);
        }
        return sum.toString();
    }

    String planned() {
        StringBuilder sum = new StringBuilder();
        int size = count(8);
        for (int i = 0; i < size; i++) {
            sum.append(i == 0 ? "" : " ").append(planned(i));
        }
        return sum.toString();
    }

    String pairs() {
        StringBuilder sum = new StringBuilder();
        int pair = pair(0);
        for (int i = 1; pair != NONE; i++) {
            sum.append(i == 1 ? "" : " ").append(pair / 64).append('+').append(pair % 64);
            pair = pair(i);
        }
        return sum.toString();
    }

    /** Entry k as add takes it. */
    String entryTold(int k) {
        StringBuilder sum = new StringBuilder().append(book(k, 0)).append(' ');
        int bytes = book(k, 2);
        for (int i = 0; i < bytes; i++) {
            sum.append((char) book(k, 20 + i));
        }
        sum.append(bytes == 0 ? "-" : "");
        int strokes = book(k, 1);
        for (int i = 0; i < strokes; i++) {
            sum.append(' ').append(book(k, 10 + i));
        }
        return sum.toString();
    }

    /** All counts. */
    String counts() {
        StringBuilder sum = new StringBuilder();
        for (int what = 0; what <= 9; what++) {
            sum.append(what == 0 ? "" : " ").append(count(what));
        }
        return sum.toString();
    }

    /** All that can be asked of the room, but for the bytes of the tape; for small rooms. */
    String state() {
        StringBuilder sum = new StringBuilder(counts()).append(" | ").append(text()).append(" | ");
        int translations = count(1);
        for (int t = 0; t < translations; t++) {
            for (int what = 0; what < 5; what++) {
                sum.append(told(t, what)).append(' ');
            }
        }
        int strokes = count(0);
        for (int i = 0; i < strokes; i++) {
            sum.append("| ").append(written(i)).append(' ').append(of(i)).append(' ');
        }
        int entries = count(4);
        for (int k = 0; k < entries; k++) {
            sum.append("| ").append(entryTold(k)).append(" by ").append(book(k, 3)).append(' ');
        }
        return sum.append("| ").append(planned()).append(" | ").append(clear()).append(" | ").append(pairs()).toString();
    }
}
