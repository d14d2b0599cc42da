import java.io.IOException;
import java.lang.reflect.Constructor;
import java.lang.reflect.Field;
import java.lang.reflect.Method;
import java.lang.reflect.Modifier;
import java.nio.file.Files;
import java.nio.file.Path;
import java.util.Set;
import java.util.TreeSet;
import java.util.regex.Matcher;
import java.util.regex.Pattern;

/** The public face of the class, and the rules of LANGUAGE.md that can be seen in its text. */
public final class FaceTest {
    private static final Set<String> FACE = Set.of("int feed(int,int,int,int,int)",
        "int entry(int,int,int,int,int,int,int)", "boolean drop(int)", "int stroke(int)", "int back()",
        "boolean correct(int,int)", "boolean insert(int,int)", "int cut(int)", "int count(int)", "int told(int,int)",
        "int octet(int)", "int of(int)", "int written(int,int)", "int plan(int)", "int planned(int)", "int clear()",
        "int together(int,int)", "int pair(int)", "int book(int,int)");
    private static final String[] FORBIDDEN = {"throw", "throws", "try", "catch", "synchronized", "assert", "import",
        "package", "new Object", "hashCode", "toString", "System.out", "System.nano", "Random", "Thread", "finally",
        "->", "::", "Exact", "Integer", "Long", "var", "goto", "native", "volatile", "transient", "protected"};
    private static final int METHOD_LINES = 60;

    public static void main(String[] args) throws IOException {
        Check check = new Check();
        face(check);
        nested(check);
        words(check);
        methodLines(check);
        check.end("FaceTest");
    }

    private static void face(Check check) {
        Set<String> methods = new TreeSet<>();
        Set<String> names = new TreeSet<>();
        for (Method m : StenoRoom.class.getDeclaredMethods()) {
            if (Modifier.isPrivate(m.getModifiers())) {
                continue;
            }
            check.due(m.getName() + " is public", Modifier.isPublic(m.getModifiers()), true);
            check.due(m.getName() + " is static", Modifier.isStatic(m.getModifiers()), false);
            methods.add(signature(m));
            names.add(m.getName());
        }
        check.due("the methods", methods.toString(), new TreeSet<>(FACE).toString());
        for (Method m : StenoRoom.class.getDeclaredMethods()) {
            boolean twice = Modifier.isPrivate(m.getModifiers()) && names.contains(m.getName());
            check.due("private " + m.getName() + " bears a public name", twice, false);
        }
        for (Field f : StenoRoom.class.getDeclaredFields()) {
            boolean none = f.getName().equals("NONE");
            check.due(f.getName() + " is private", Modifier.isPrivate(f.getModifiers()), !none);
            check.due(f.getName() + " is final", Modifier.isFinal(f.getModifiers()), true);
        }
        check.due("NONE", StenoRoom.NONE, -1);
        Constructor<?>[] made = StenoRoom.class.getDeclaredConstructors();
        check.due("constructors", made.length, 1);
        check.due("the constructor's arguments", made[0].getParameterCount(), 0);
        check.due("the constructor is public", Modifier.isPublic(made[0].getModifiers()), true);
        check.due("the class is final", Modifier.isFinal(StenoRoom.class.getModifiers()), true);
    }

    private static String signature(Method m) {
        StringBuilder sum = new StringBuilder(m.getReturnType() + " " + m.getName() + "(");
        for (int i = 0; i < m.getParameterCount(); i++) {
            sum.append(i == 0 ? "" : ",").append(m.getParameterTypes()[i]);
        }
        return sum.append(")").toString();
    }

    private static void nested(Check check) {
        Class<?>[] all = StenoRoom.class.getDeclaredClasses();
        check.due("twelve classes at most", all.length + 1 <= 12, true);
        for (Class<?> c : all) {
            check.due(c + " is static", Modifier.isStatic(c.getModifiers()), true);
            check.due(c + " is not public", Modifier.isPublic(c.getModifiers()), false);
            int own = 0;
            for (Field f : c.getDeclaredFields()) {
                own += Modifier.isStatic(f.getModifiers()) ? 0 : 1;
            }
            check.due(c + " has twenty fields at most", own <= 20, true);
            for (Method m : c.getDeclaredMethods()) {
                check.due(c + "." + m.getName() + " has seven parameters at most", m.getParameterCount() <= 7, true);
            }
        }
    }

    private static String source() throws IOException {
        String all = Files.readString(Path.of("src/main/java/StenoRoom.java"));
        return all.replaceAll("(?s)/\\*.*?\\*/", "").replaceAll("//[^\n]*", "").replaceAll("\"[^\"\n]*\"", "\"\"");
    }

    private static void words(Check check) throws IOException {
        String code = source();
        for (String word : FORBIDDEN) {
            boolean name = Character.isLetter(word.charAt(0));
            Pattern pattern = Pattern.compile(name ? "\\b" + Pattern.quote(word) + "\\b" : Pattern.quote(word));
            check.due("the text has " + word, pattern.matcher(code).find(), false);
        }
        check.due("the text has while", Pattern.compile("\\bwhile\\b").matcher(code).find(), false);
        check.due("only signs 1 to 127", code.chars().allMatch(c -> c > 0 && c < 128), true);
        Matcher libraries = Pattern.compile("\\b(System|Math|KEYS)\\.(\\w+)").matcher(code);
        while (libraries.find()) {
            boolean listed = Set.of("arraycopy", "min", "max", "charAt", "length").contains(libraries.group(2));
            check.due(libraries.group() + " is listed", listed, true);
        }
    }

    private static void methodLines(Check check) throws IOException {
        Matcher heads = Pattern.compile("(?m)^( {4}| {8})(?! )[^\n=;]*\\) \\{\n(?s:.*?)^\\1\\}\n").matcher(source());
        int methods = 0;
        while (heads.find()) {
            methods++;
            long lines = heads.group().chars().filter(c -> c == '\n').count();
            check.due(heads.group().split("\n")[0].trim() + " is short", lines <= METHOD_LINES, true);
        }
        check.due("methods are found", methods > 50, true);
    }
}
