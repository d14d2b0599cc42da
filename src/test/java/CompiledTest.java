import java.io.PrintWriter;
import java.io.StringWriter;
import java.lang.reflect.Array;
import java.lang.reflect.Field;
import java.lang.reflect.Modifier;
import java.util.ArrayList;
import java.util.Collections;
import java.util.IdentityHashMap;
import java.util.List;
import java.util.Map;
import java.util.Optional;
import java.util.Set;
import java.util.TreeMap;
import java.util.TreeSet;
import java.util.regex.Matcher;
import java.util.regex.Pattern;
import java.util.spi.ToolProvider;

/**
 * The rules of LANGUAGE.md that can be seen in the compiled class: what it calls, how deep, and what it makes;
 * and how large a room is.
 */
public final class CompiledTest {
    private static final Check CHECK = new Check();
    private static final int DEEPEST = 8;
    private static final int MOST_OBJECTS = 60;
    private static final int MOST_ELEMENTS = 14000;
    private static final Set<String> LIBRARY = Set.of("java/lang/Object.<init>", "java/lang/Math.min",
        "java/lang/Math.max", "java/lang/String.length", "java/lang/String.charAt", "java/lang/System.arraycopy");
    private static final Set<String> MAKING = Set.of("new", "newarray", "anewarray", "multianewarray");
    private static final Set<String> RULED_OUT = Set.of("athrow", "monitorenter", "invokedynamic", "checkcast");
    private static final Pattern CLASS = Pattern.compile("^(?:[a-z]+ )*class (\\S+) .*");
    private static final Pattern METHOD = Pattern.compile("^  (?:\\S+ )*([\\w$]+)\\(.*\\);$");
    private static final Pattern STEP = Pattern.compile("^ +\\d+: (\\w+).*");
    private static final Pattern CALL = Pattern.compile(".*// (?:Interface)?Method (?:([\\w/$]+)\\.)?\"?([\\w<>]+)\"?:.*");
    private static final Pattern CONSTANT = Pattern.compile("iconst_[1-5]|bipush|sipush|ldc");

    /** Of each method, what it calls. */
    private static final Map<String, Set<String>> CALLS = new TreeMap<>();

    public static void main(String[] args) throws IllegalAccessException {
        Optional<ToolProvider> javap = ToolProvider.findFirst("javap");
        if (javap.isPresent()) {
            look(listing(javap.get()));
            CHECK.due("methods are found", CALLS.size() > 100, true);
            for (String method : CALLS.keySet()) {
                goDown(method, new ArrayList<>());
            }
        } else {
            System.out.println("this Java has no javap: the compiled class was not looked at");
        }
        size();
        CHECK.end("CompiledTest");
    }

    private static String listing(ToolProvider javap) {
        List<String> words = new ArrayList<>(List.of("-p", "-c", "-cp", System.getProperty("java.class.path")));
        words.add("StenoRoom");
        for (Class<?> c : StenoRoom.class.getDeclaredClasses()) {
            words.add(c.getName());
        }
        StringWriter out = new StringWriter();
        PrintWriter to = new PrintWriter(out);
        CHECK.due("javap", javap.run(to, to, words.toArray(new String[0])), 0);
        return out.toString();
    }

    private static void look(String listing) {
        String owner = "";
        String method = "";
        String before = "";
        for (String line : listing.split("\n")) {
            Matcher type = CLASS.matcher(line);
            Matcher head = METHOD.matcher(line);
            Matcher step = STEP.matcher(line);
            if (type.matches()) {
                owner = type.group(1);
            } else if (head.matches()) {
                method = owner + "." + (head.group(1).equals(owner) ? "<init>" : head.group(1));
                CALLS.put(method, new TreeSet<>());
            } else if (step.matches()) {
                lookAtStep(method, step.group(1), before);
                lookAtCall(owner, method, line);
                before = step.group(1);
            }
            CHECK.due(method + " catches", line.contains("Exception table"), false);
            CHECK.due(owner + " has a static block", line.contains("static {}"), false);
        }
    }

    private static void lookAtStep(String method, String step, String before) {
        CHECK.due(method + " has " + step, RULED_OUT.contains(step), false);
        if (MAKING.contains(step)) {
            CHECK.due(method + ", which makes something, is a constructor", method.endsWith(".<init>"), true);
        }
        if (step.equals("idiv") || step.equals("irem")) {
            CHECK.due(method + " divides by a constant", CONSTANT.matcher(before).matches(), true);
        }
    }

    private static void lookAtCall(String owner, String method, String line) {
        Matcher call = CALL.matcher(line);
        if (!call.matches()) {
            return;
        }
        String callee = (call.group(1) == null ? owner : call.group(1)) + "." + call.group(2);
        if (callee.startsWith("StenoRoom")) {
            CALLS.get(method).add(callee);
        } else {
            CHECK.due(method + " calls " + callee + ", which is listed", LIBRARY.contains(callee), true);
        }
    }

    /** Goes through all that a method calls, behind the calls that stand open. */
    private static void goDown(String method, List<String> open) {
        CHECK.due(open + " calls " + method + " once more", open.contains(method), false);
        if (open.contains(method)) {
            return;
        }
        List<String> now = new ArrayList<>(open);
        now.add(method);
        CHECK.due(method + " is there", CALLS.containsKey(method), true);
        CHECK.due(now + " is eight deep at most", now.size() <= DEEPEST, true);
        for (String callee : CALLS.getOrDefault(method, Set.of())) {
            goDown(callee, now);
        }
    }

    private static void size() throws IllegalAccessException {
        StenoRoom room = new StenoRoom();
        int[] fresh = objectsAndElements(room);
        CHECK.due("objects of a room: " + fresh[0], fresh[0] <= MOST_OBJECTS, true);
        CHECK.due("fields and elements of a room: " + fresh[1], fresh[1] <= MOST_ELEMENTS, true);
        for (int i = 0; i < 40; i++) {
            Check.entry(room, i % 2 == 0 ? 5 : 0, "abc", 1 + i);
            room.stroke(1 + i);
            room.insert(0, 1 + i);
            Check.plan(room, "abcabc abc");
            room.pair(i);
            room.count(3);
        }
        int[] used = objectsAndElements(room);
        CHECK.due("objects of a used room", used[0], fresh[0]);
        CHECK.due("fields and elements of a used room", used[1], fresh[1]);
    }

    private static int[] objectsAndElements(Object room) throws IllegalAccessException {
        Set<Object> seen = Collections.newSetFromMap(new IdentityHashMap<>());
        List<Object> todo = new ArrayList<>(List.of(room));
        int elements = 0;
        for (int i = 0; i < todo.size(); i++) {
            Object one = todo.get(i);
            if (!seen.add(one)) {
                continue;
            }
            if (one.getClass().isArray()) {
                elements += Array.getLength(one);
                continue;
            }
            for (Field f : one.getClass().getDeclaredFields()) {
                if (Modifier.isStatic(f.getModifiers())) {
                    continue;
                }
                elements++;
                f.setAccessible(true);
                if (!f.getType().isPrimitive()) {
                    todo.add(f.get(one));
                }
            }
        }
        return new int[] {seen.size(), elements};
    }
}
