import java.io.IOException;
import java.lang.reflect.Method;
import java.nio.file.Files;
import java.nio.file.Path;
import java.util.Set;
import java.util.TreeSet;
import java.util.regex.Matcher;
import java.util.regex.Pattern;

/** The calls of README.md's example, and the answers that stand behind them. */
public final class ReadmeTest {
    private static final Pattern ROW = Pattern.compile("(?m)^room\\.(\\w+)\\(([^)]*)\\); *// (-?\\d+|true|false)\\b");
    private static final Pattern ANY_ROW = Pattern.compile("(?m)^room\\.");

    public static void main(String[] args) throws IOException, ReflectiveOperationException {
        Check check = new Check();
        String page = Files.readString(Path.of("README.md"));
        StenoRoom room = new StenoRoom();
        Set<String> used = new TreeSet<>();
        Matcher rows = ROW.matcher(page);
        int n = 0;
        while (rows.find()) {
            String got = answer(room, rows.group(1), rows.group(2));
            check.due(rows.group(1) + "(" + rows.group(2) + ")", got, rows.group(3));
            used.add(rows.group(1));
            n++;
        }
        check.due("rows with an answer", n, (int) ANY_ROW.matcher(page).results().count());
        for (Method m : StenoRoom.class.getMethods()) {
            if (m.getDeclaringClass() == StenoRoom.class) {
                check.due("the example has " + m.getName(), used.contains(m.getName()), true);
            }
        }
        check.end("ReadmeTest");
    }

    private static String answer(StenoRoom room, String name, String list) throws ReflectiveOperationException {
        String[] words = list.isEmpty() ? new String[0] : list.split(", *");
        Object[] values = new Object[words.length];
        Class<?>[] types = new Class<?>[words.length];
        for (int i = 0; i < words.length; i++) {
            values[i] = Integer.decode(words[i]);
            types[i] = int.class;
        }
        return StenoRoom.class.getMethod(name, types).invoke(room, values).toString();
    }
}
