import java.util.List;
import java.util.Random;

/** Long runs of calls, made up from fixed seeds, each answer compared with the PlainRoom's. */
public final class PlainRoomTest {
    private static final String[] WORDS = {"cat", "carry", "box", "care", "see", "bush", "church", "fix", "stop",
        "play", "toe", "dye", "be", "e", "y", "by", "tax", "row", "quit", "s", "a", "b", "ab", "aba", "yy", "buzz",
        "the", "shy", "sky", "ray", "it", "go", "sit", "tyt", "byt", "abcdefghijklmnop", "wet", "dry", "ee", "ye"};
    private static final String[] SUFFIXES = {"s", "ed", "ing", "y", "er", "ly", "a", "able", "i", "ss", "e", "ion", "t"};
    private static final String[] PREFIXES = {"re", "un", "a", "ab", "b", "c", "in"};
    private static final String[] GLUES = {"a", "b", "c", "ab", "ba", "s", "e", "d", "aa"};
    private static final String[] MARKS = {".", ",", ";", ":", "?", "!"};
    private static final int[] ODD = {0, -1, 1, 4194303, 4194304, Integer.MIN_VALUE, Integer.MAX_VALUE, 300, 60, 16};

    private final Check check;
    private final Random dice;
    private final int seed;
    private final StenoRoom room = new StenoRoom();
    private final PlainRoom plain = new PlainRoom();
    private final int[] keys;
    private int calls;

    private PlainRoomTest(Check check, int seed) {
        this.check = check;
        this.seed = seed;
        dice = new Random(seed);
        keys = new int[2 + dice.nextInt(seed % 3 == 0 ? 20 : 4)];
        for (int i = 0; i < keys.length; i++) {
            keys[i] = 1 + dice.nextInt(4194303);
        }
    }

    public static void main(String[] args) {
        int runs = args.length > 0 ? Integer.parseInt(args[0]) : 400;
        Check check = new Check();
        for (int seed = 0; seed < runs && !check.hasWrong(); seed++) {
            new PlainRoomTest(check, seed).run();
        }
        check.end("PlainRoomTest");
    }

    private void run() {
        int entries = dice.nextInt(70);
        for (int i = 0; i < entries; i++) {
            addEntry();
        }
        for (int i = 0; i < 200 && !check.hasWrong(); i++) {
            oneCall();
            if (i % 8 == 7) {
                compare();
            }
        }
        compare();
    }

    private void due(String call, int got, int want) {
        calls++;
        check.due("seed " + seed + ", call " + calls + ": " + call, got, want);
    }

    private int key() {
        return dice.nextInt(40) == 0 ? ODD[dice.nextInt(ODD.length)] : keys[dice.nextInt(keys.length)];
    }

    private int index(int size) {
        return dice.nextInt(15) == 0 ? ODD[dice.nextInt(ODD.length)] : dice.nextInt(size + 2) - (dice.nextInt(9) == 0 ? 1 : 0);
    }

    private String pick(String[] row) {
        return row[dice.nextInt(row.length)];
    }

    private String textFor(int kind) {
        switch (kind) {
            case 0: return pick(WORDS);
            case 1: return pick(PREFIXES);
            case 2: return pick(SUFFIXES);
            case 3:
            case 4: return pick(MARKS);
            case 5: return pick(GLUES);
            default: return "";
        }
    }

    private void feed(String text) {
        for (int from = 0; from == 0 || from < text.length(); from += 20) {
            int[] v = new int[5];
            for (int i = 0; i < 5; i++) {
                v[i] = Check.four(text, from + 4 * i);
            }
            due("feed " + text, room.feed(v[0], v[1], v[2], v[3], v[4]), plain.feed(v));
        }
    }

    private void addEntry() {
        int kind = dice.nextInt(3) == 0 ? 0 : dice.nextInt(9);
        String text = textFor(kind);
        if (dice.nextInt(30) == 0) {
            text = "bad text {";
        }
        if (!text.isEmpty() || dice.nextInt(5) == 0) {
            feed(text);
        }
        int n = dice.nextInt(40) == 0 ? index(16) : text.length();
        if (dice.nextInt(60) == 0) {
            kind = index(9);
        }
        int[] o = new int[5];
        int size = 1 + dice.nextInt(dice.nextInt(5) + 1);
        for (int i = 0; i < size; i++) {
            o[i] = key();
        }
        if (dice.nextInt(60) == 0) {
            o[dice.nextInt(5)] = 0;
        }
        due("entry " + kind + " " + text, room.entry(o[0], o[1], o[2], o[3], o[4], kind, n), plain.entry(o, kind, n));
    }

    private void oneCall() {
        int choice = dice.nextInt(20);
        if (choice < 8) {
            stroke(key());
        } else if (choice < 9) {
            boolean any = !plain.record.isEmpty();
            due("back", room.back(), any ? plain.record.remove(plain.record.size() - 1) : -1);
        } else if (choice < 11) {
            correct(index(plain.record.size()), key());
        } else if (choice < 13) {
            insert(index(plain.record.size()), key());
        } else if (choice < 14) {
            int i = index(plain.record.size());
            boolean there = i >= 0 && i < plain.record.size();
            due("cut " + i, room.cut(i), there ? plain.record.remove(i) : -1);
        } else if (choice < 15) {
            int k = index(plain.book.size());
            boolean there = k >= 0 && k < plain.book.size();
            if (there) {
                plain.book.remove(k);
            }
            due("drop " + k, room.drop(k) ? 1 : 0, there ? 1 : 0);
        } else if (choice < 16) {
            addEntry();
        } else {
            plan();
        }
    }

    private void stroke(int k) {
        boolean fits = PlainRoom.stroke(k) && plain.record.size() < 300;
        if (fits) {
            plain.record.add(k);
        }
        due("stroke " + k, room.stroke(k), fits ? plain.record.size() : -1);
    }

    private void correct(int i, int k) {
        boolean fits = PlainRoom.stroke(k) && i >= 0 && i < plain.record.size();
        if (fits) {
            plain.record.set(i, k);
        }
        due("correct " + i + " " + k, room.correct(i, k) ? 1 : 0, fits ? 1 : 0);
    }

    private void insert(int i, int k) {
        boolean fits = PlainRoom.stroke(k) && i >= 0 && i <= plain.record.size() && plain.record.size() < 300;
        if (fits) {
            plain.record.add(i, k);
        }
        due("insert " + i + " " + k, room.insert(i, k) ? 1 : 0, fits ? 1 : 0);
    }

    private void plan() {
        StringBuilder words = new StringBuilder();
        int many = 1 + dice.nextInt(4);
        for (int i = 0; i < many; i++) {
            words.append(i == 0 ? "" : dice.nextInt(40) == 0 ? "  " : " ").append(someWord());
        }
        String text = words.length() > 60 ? words.substring(0, 60) : words.toString();
        feed(text);
        int n = dice.nextInt(30) == 0 ? index(60) : text.length();
        due("plan " + text, room.plan(n), plain.plan(n));
    }

    /** Mostly one that the book can write; short, for the PlainRoom tries every way. */
    private String someWord() {
        String word = ofKind(0);
        int way = dice.nextInt(10);
        if (way < 2) {
            word = ofKind(1) + (dice.nextBoolean() ? ofKind(1) : "") + word;
        } else if (way < 6) {
            word = PlainRoom.join(word, ofKind(2));
        } else if (way < 8) {
            word = ofKind(5) + ofKind(5) + (dice.nextBoolean() ? ofKind(5) : "");
        }
        return word;
    }

    private String ofKind(int kind) {
        if (!plain.book.isEmpty()) {
            for (int i = 0; i < 20; i++) {
                PlainRoom.Entry e = plain.book.get(dice.nextInt(plain.book.size()));
                if (e.kind == kind) {
                    return e.text;
                }
            }
        }
        return textFor(kind);
    }

    private void compare() {
        List<PlainRoom.Translation> all = plain.write();
        int raws = 0;
        for (PlainRoom.Translation t : all) {
            raws += t.entry == -1 ? 1 : 0;
        }
        int[] counts = {plain.record.size(), all.size(), raws, plain.text.length(), plain.book.size(),
            plain.tape.length(), plain.shift, plain.link, plain.plan == null ? 0 : plain.plan.size(), plain.planStrokes, -1};
        for (int what = 0; what < counts.length; what++) {
            due("count " + what, room.count(what), counts[what]);
        }
        for (int i = -1; i <= plain.text.length(); i++) {
            boolean there = i >= 0 && i < plain.text.length();
            due("octet " + i + " of " + plain.text, room.octet(i), there ? plain.text.charAt(i) : -1);
        }
        for (int t = -1; t <= all.size(); t++) {
            compareTranslation(t, t >= 0 && t < all.size() ? all.get(t) : null);
        }
        compareStrokes(all);
        compareBook(all);
        for (int i = -1; i <= counts[8]; i++) {
            due("planned " + i, room.planned(i), i >= 0 && i < counts[8] ? plain.plan.get(i) : -1);
        }
        due("clear", room.clear(), plain.planClear);
        comparePairs();
    }

    private void compareTranslation(int t, PlainRoom.Translation due) {
        int[] want = due == null ? new int[] {-1, -1, -1, -1, -1, -1}
            : new int[] {due.entry, due.first, due.strokes.size(), due.ahead, due.behind, -1};
        for (int what = 0; what < 6; what++) {
            due("told " + t + " " + what, room.told(t, what), want[what]);
        }
        due("told " + t + " -1", room.told(t, -1), -1);
    }

    private void compareStrokes(List<PlainRoom.Translation> all) {
        for (int t = 0; t < all.size(); t++) {
            PlainRoom.Translation one = all.get(t);
            for (int i = one.first; i < one.first + one.strokes.size(); i++) {
                due("of " + i, room.of(i), t);
            }
        }
        int size = plain.record.size();
        due("of -1", room.of(-1), -1);
        due("of " + size, room.of(size), -1);
        due("written beyond", room.written(size, 0), -1);
        int k = dice.nextInt(size + 1);
        String letters = k < size ? PlainRoom.letters(plain.record.get(k)) : "";
        for (int i = -1; i < 24; i++) {
            due("written " + k + " " + i, room.written(k, i), i >= 0 && i < letters.length() ? letters.charAt(i) : -1);
        }
    }

    private void compareBook(List<PlainRoom.Translation> all) {
        int k = index(plain.book.size());
        PlainRoom.Entry e = k >= 0 && k < plain.book.size() ? plain.book.get(k) : null;
        for (int what = -2; what < 40; what++) {
            due("book " + k + " " + what, room.book(k, what), bookAnswer(e, k, what, all));
        }
    }

    private static int bookAnswer(PlainRoom.Entry e, int k, int what, List<PlainRoom.Translation> all) {
        if (e == null) {
            return -1;
        }
        if (what >= 20) {
            return what - 20 < e.text.length() ? e.text.charAt(what - 20) : -1;
        }
        if (what >= 10) {
            return what - 10 < e.outline.size() ? e.outline.get(what - 10) : -1;
        }
        int are = 0;
        for (PlainRoom.Translation t : all) {
            are += t.entry == k ? 1 : 0;
        }
        return what == 0 ? e.kind : what == 1 ? e.outline.size() : what == 2 ? e.text.length() : what == 3 ? are : -1;
    }

    private void comparePairs() {
        int a = index(plain.book.size());
        int b = index(plain.book.size());
        due("together " + a + " " + b, room.together(a, b), plain.together(a, b));
        if (dice.nextInt(6) > 0) {
            return;
        }
        List<Integer> pairs = plain.pairs();
        for (int i = -1; i <= pairs.size(); i++) {
            due("pair " + i, room.pair(i), i >= 0 && i < pairs.size() ? pairs.get(i) : -1);
        }
    }
}
