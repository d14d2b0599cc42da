import java.util.ArrayList;
import java.util.List;

/**
 * The document told once more in the plainest way, to compare with: all is read and written from the
 * beginning for every question, and plans are found by trying every way.
 */
final class PlainRoom {
    static final int NONE = -1;
    private static final String LEFT = "STKPWHR";
    private static final String MIDDLE = "AO*EU";
    private static final String RIGHT = "FRPBLGTSDZ";
    private static final String VOWELS = "aeiou";

    static final class Entry {
        final List<Integer> outline;
        final int kind;
        final String text;

        Entry(List<Integer> outline, int kind, String text) {
            this.outline = outline;
            this.kind = kind;
            this.text = text;
        }
    }

    static final class Translation {
        final int first;
        final List<Integer> strokes;
        final int entry;
        int ahead;
        int behind;

        Translation(int first, List<Integer> strokes, int entry) {
            this.first = first;
            this.strokes = strokes;
            this.entry = entry;
        }
    }

    final List<Entry> book = new ArrayList<>();
    final List<Integer> record = new ArrayList<>();
    String tape = "";
    List<Integer> plan;
    int planStrokes;
    int planClear = NONE;
    String text;
    int shift;
    int link;

    int feed(int... five) {
        if (tape.length() + 20 > 80) {
            return NONE;
        }
        for (int v : five) {
            tape += "" + (char) (v >>> 24) + (char) (v >>> 16 & 255) + (char) (v >>> 8 & 255) + (char) (v & 255);
        }
        return tape.length();
    }

    static boolean stroke(int keys) {
        return keys >= 1 && keys <= 4194303;
    }

    int entry(int[] five, int kind, int n) {
        List<Integer> outline = new ArrayList<>();
        for (int v : five) {
            outline.add(v);
        }
        while (!outline.isEmpty() && outline.get(outline.size() - 1) == 0) {
            outline.remove(outline.size() - 1);
        }
        if (outline.isEmpty()) {
            return NONE;
        }
        for (int v : outline) {
            if (!stroke(v)) {
                return NONE;
            }
        }
        if (kind < 0 || kind > 8) {
            return NONE;
        }
        boolean command = kind >= 6;
        boolean mark = kind == 3 || kind == 4;
        if (command ? n != 0 : mark ? n != 1 : n < 1 || n > 16) {
            return NONE;
        }
        if (tape.length() < n) {
            return NONE;
        }
        String text = tape.substring(0, n);
        tape = "";
        if (!text.matches(mark ? "[.,;:?!]" : "[a-z]*")) {
            return NONE;
        }
        if (find(outline) != NONE || book.size() == 60) {
            return NONE;
        }
        book.add(new Entry(outline, kind, text));
        return book.size() - 1;
    }

    int find(List<Integer> outline) {
        for (int k = 0; k < book.size(); k++) {
            if (book.get(k).outline.equals(outline)) {
                return k;
            }
        }
        return NONE;
    }

    List<Translation> read(List<Integer> strokes) {
        List<Translation> all = new ArrayList<>();
        for (int i = 0; i < strokes.size(); i++) {
            int best = NONE;
            int bestBack = 0;
            for (int back = 0; back <= all.size(); back++) {
                int first = back == 0 ? i : all.get(all.size() - back).first;
                int k = find(strokes.subList(first, i + 1));
                if (k != NONE) {
                    best = k;
                    bestBack = back;
                }
                if (i + 1 - first > 5) {
                    break;
                }
            }
            int first = bestBack == 0 ? i : all.get(all.size() - bestBack).first;
            for (int b = 0; b < bestBack; b++) {
                all.remove(all.size() - 1);
            }
            all.add(new Translation(first, strokes.subList(first, i + 1), best));
        }
        return all;
    }

    static String letters(int keys) {
        String left = some(LEFT, keys);
        String middle = some(MIDDLE, keys >> 7);
        String right = some(RIGHT, keys >> 12);
        return left + middle + (middle.isEmpty() && !right.isEmpty() ? "-" : "") + right;
    }

    private static String some(String row, int bits) {
        String sum = "";
        for (int i = 0; i < row.length(); i++) {
            if ((bits & 1 << i) != 0) {
                sum += row.charAt(i);
            }
        }
        return sum;
    }

    List<Translation> write() {
        List<Translation> all = read(record);
        text = "";
        shift = 0;
        link = 0;
        Translation before = null;
        for (Translation t : all) {
            t.ahead = text.length();
            if (t.entry == NONE) {
                text += blank() + letters(t.strokes.get(0));
                link = 0;
            } else {
                Entry e = book.get(t.entry);
                boolean glued = before != null && before.entry != NONE && book.get(before.entry).kind == 5;
                write(e, glued);
            }
            t.behind = text.length();
            before = t;
        }
        return all;
    }

    private String blank() {
        return text.isEmpty() || link == 1 ? "" : " ";
    }

    private void word(String word, boolean noBlank) {
        String shifted = word;
        if (shift == 1) {
            shifted = word.substring(0, 1).toUpperCase() + word.substring(1);
        } else if (shift == 2) {
            shifted = word.toUpperCase();
        }
        text += (noBlank ? "" : blank()) + shifted;
        link = 0;
        shift = 0;
    }

    private void write(Entry e, boolean glued) {
        if (e.kind == 0) {
            word(e.text, false);
        } else if (e.kind == 1) {
            word(e.text, false);
            link = 1;
        } else if (e.kind == 2) {
            String rest = text.replaceAll("[A-Za-z]+$", "");
            String last = text.substring(rest.length());
            if (last.isEmpty()) {
                word(e.text, false);
            } else {
                text = rest + join(last, e.text);
                link = 0;
            }
        } else if (e.kind == 3) {
            text += e.text;
            shift = 1;
            link = 0;
        } else if (e.kind == 4) {
            text += e.text;
            link = 0;
        } else if (e.kind == 5) {
            word(e.text, glued);
        } else if (e.kind == 6) {
            shift = 1;
        } else if (e.kind == 7) {
            link = 1;
        } else {
            shift = 2;
        }
    }

    private static boolean vowel(char c) {
        return VOWELS.indexOf(c) >= 0;
    }

    static String join(String last, String suffix) {
        String low = last.toLowerCase();
        String cut = last.substring(0, last.length() - 1);
        if (low.matches(".*[^aeiou]y") && suffix.charAt(0) != 'i') {
            return cut + "i" + (suffix.equals("s") ? "es" : suffix);
        }
        if (suffix.equals("s") && low.matches(".*(s|x|z|ch|sh)")) {
            return last + "es";
        }
        if (low.endsWith("e") && !low.matches(".*(ee|oe|ye)") && low.length() >= 2 && vowel(suffix.charAt(0))) {
            return cut + suffix;
        }
        if (vowel(suffix.charAt(0)) && low.matches("[^aeiou]*[^aeiou][aeiou][^aeiouwxy]")) {
            return last + low.charAt(low.length() - 1) + suffix;
        }
        return last + suffix;
    }

    int plan(int n) {
        if (n < 1 || n > 60 || tape.length() < n) {
            return NONE;
        }
        String words = tape.substring(0, n);
        tape = "";
        if (!words.matches("[a-z]+( [a-z]+)*")) {
            return NONE;
        }
        List<Integer> all = new ArrayList<>();
        for (String word : words.split(" ")) {
            List<Integer> best = bestWay(word);
            if (best == null) {
                return -2;
            }
            all.addAll(best);
        }
        plan = all;
        planStrokes = strokes(all);
        planClear = readsAs(all) ? 1 : 0;
        return planStrokes;
    }

    private boolean readsAs(List<Integer> entries) {
        List<Integer> strokes = new ArrayList<>();
        for (int k : entries) {
            strokes.addAll(book.get(k).outline);
        }
        List<Integer> got = new ArrayList<>();
        for (Translation t : read(strokes)) {
            got.add(t.entry);
        }
        return got.equals(entries);
    }

    private int strokes(List<Integer> entries) {
        int sum = 0;
        for (int k : entries) {
            sum += book.get(k).outline.size();
        }
        return sum;
    }

    private List<Integer> bestWay(String word) {
        List<List<Integer>> ways = new ArrayList<>();
        chains(word, 0, new ArrayList<>(), 1, 0, ways);
        chains(word, 0, new ArrayList<>(), 5, 5, ways);
        for (int w = 0; w < book.size(); w++) {
            for (int s = 0; s < book.size(); s++) {
                if (book.get(w).kind == 0 && book.get(s).kind == 2
                    && join(book.get(w).text, book.get(s).text).equals(word)) {
                    ways.add(List.of(w, s));
                }
            }
        }
        List<Integer> best = null;
        for (List<Integer> way : ways) {
            if (best == null || better(way, best)) {
                best = way;
            }
        }
        return best;
    }

    private void chains(String word, int at, List<Integer> soFar, int inner, int last, List<List<Integer>> ways) {
        for (int k = 0; k < book.size(); k++) {
            Entry e = book.get(k);
            if (e.kind != inner && e.kind != last || !word.startsWith(e.text, at)) {
                continue;
            }
            int next = at + e.text.length();
            List<Integer> now = new ArrayList<>(soFar);
            now.add(k);
            if (next == word.length() && e.kind == last) {
                ways.add(now);
            } else if (next < word.length() && e.kind == inner) {
                chains(word, next, now, inner, last, ways);
            }
        }
    }

    private boolean better(List<Integer> a, List<Integer> b) {
        if (strokes(a) != strokes(b)) {
            return strokes(a) < strokes(b);
        }
        if (a.size() != b.size()) {
            return a.size() < b.size();
        }
        for (int i = 0; i < a.size(); i++) {
            if (!a.get(i).equals(b.get(i))) {
                return a.get(i) < b.get(i);
            }
        }
        return false;
    }

    int together(int a, int b) {
        if (a < 0 || b < 0 || a >= book.size() || b >= book.size()) {
            return NONE;
        }
        return readsAs(List.of(a, b)) ? 0 : 1;
    }

    List<Integer> pairs() {
        List<Integer> all = new ArrayList<>();
        for (int a = 0; a < book.size(); a++) {
            for (int b = 0; b < book.size(); b++) {
                if (together(a, b) == 1) {
                    all.add(64 * a + b);
                }
            }
        }
        return all;
    }
}
