/** Collects the answers that are not the ones due, and ends the program with 1 if there were any. */
final class Check {
    private int wrong;
    private int asked;
    private String sentence = "";

    /** The document's words that the next answers are about; they stand ahead of each row that is printed. */
    void sentence(String words) {
        sentence = "\"" + words + "\": ";
    }

    void due(String call, int got, int want) {
        asked++;
        if (got != want) {
            wrong++;
            if (wrong <= 50) {
                System.out.println(sentence + call + " answered " + got + ", due is " + want);
            }
        }
    }

    void due(String call, boolean got, boolean want) {
        due(call, got ? 1 : 0, want ? 1 : 0);
    }

    void due(String call, String got, String want) {
        asked++;
        if (!got.equals(want)) {
            wrong++;
            if (wrong <= 50) {
                System.out.println(sentence + call + " answered \"" + got + "\", due is \"" + want + "\"");
            }
        }
    }

    boolean hasWrong() {
        return wrong > 0;
    }

    void end(String name) {
        System.out.println(name + ": " + asked + " answers, " + wrong + " not as due");
        if (wrong > 0) {
            System.exit(1);
        }
    }

    /** Feeds a text to the tape, twenty bytes a call, zeros behind it. */
    static int feed(StenoRoom room, String text) {
        int has = room.count(5);
        for (int from = 0; from == 0 || from < text.length(); from += 20) {
            has = room.feed(four(text, from), four(text, from + 4), four(text, from + 8),
                four(text, from + 12), four(text, from + 16));
        }
        return has;
    }

    static int four(String text, int from) {
        int sum = 0;
        for (int i = from; i < from + 4; i++) {
            sum = sum << 8 | (i < text.length() ? text.charAt(i) & 255 : 0);
        }
        return sum;
    }

    /** Makes an entry of an outline with this text. */
    static int entry(StenoRoom room, int kind, String text, int... outline) {
        if (!text.isEmpty()) {
            feed(room, text);
        }
        int[] o = java.util.Arrays.copyOf(outline, 5);
        return room.entry(o[0], o[1], o[2], o[3], o[4], kind, text.length());
    }

    static int plan(StenoRoom room, String text) {
        feed(room, text);
        return room.plan(text.length());
    }

    static String text(StenoRoom room) {
        StringBuilder sum = new StringBuilder();
        for (int i = 0; i < room.count(3); i++) {
            sum.append((char) room.octet(i));
        }
        return sum.toString();
    }

    static String written(StenoRoom room, int k) {
        StringBuilder sum = new StringBuilder();
        for (int i = 0; room.written(k, i) != StenoRoom.NONE; i++) {
            sum.append((char) room.written(k, i));
        }
        return sum.toString();
    }

    static String planned(StenoRoom room) {
        StringBuilder sum = new StringBuilder();
        for (int i = 0; i < room.count(8); i++) {
            sum.append(i == 0 ? "" : " ").append(room.planned(i));
        }
        return sum.toString();
    }

    /** The entries of all translations, raw ones as *. */
    static String translations(StenoRoom room) {
        StringBuilder sum = new StringBuilder();
        for (int t = 0; t < room.count(1); t++) {
            int k = room.told(t, 0);
            sum.append(t == 0 ? "" : " ").append(k == StenoRoom.NONE ? "*" : "" + k);
        }
        return sum.toString();
    }

    static String pairs(StenoRoom room) {
        StringBuilder sum = new StringBuilder();
        for (int i = 0; room.pair(i) != StenoRoom.NONE; i++) {
            int pair = room.pair(i);
            sum.append(i == 0 ? "" : " ").append(pair / 64).append('+').append(pair % 64);
        }
        return sum.toString();
    }
}
