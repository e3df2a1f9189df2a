import java.io.IOException;
import java.lang.reflect.Array;
import java.lang.reflect.Field;
import java.lang.reflect.Method;
import java.lang.reflect.Modifier;
import java.nio.file.Files;
import java.nio.file.Path;
import java.util.ArrayDeque;
import java.util.Collections;
import java.util.Deque;
import java.util.IdentityHashMap;
import java.util.List;
import java.util.Set;
import java.util.regex.Pattern;

/** Rules of LANGUAGE.md that can be looked at in the source, in the class file, or in an object. */
public final class RulesTest {
    private static final Check CHECK = new Check();
    private static final Path SOURCE = Path.of("src/main/java/MoveFronts.java");

    public static void main(String[] args) throws IOException, IllegalAccessException {
        List<String> lines = Files.readAllLines(SOURCE);
        words(lines);
        methodLengths(lines);
        classes();
        staticFields();
        room();
        CHECK.end();
    }

    private static void words(List<String> lines) {
        CHECK.about("LANGUAGE.md 1 to 6, 13: what the source has none of");
        String[] banned = {"\\bimport\\b", "\\bpackage\\b", "->", "::", "\\bcatch\\b", "\\bfinally\\b", "\\bthrows?\\b",
            "\\bsynchronized\\b", "\\bassert\\b", "\\bprotected\\b", "^ *static \\{", "Exact\\(", "System\\.(?!arraycopy)",
            "\\bjava\\.", "\\bThread\\b", "\\bdouble\\b", "\\bfloat\\b"};
        for (String word : banned) {
            Pattern pattern = Pattern.compile(word);
            for (int i = 0; i < lines.size(); i++) {
                String code = lines.get(i).replaceAll("^ */?\\*.*|//.*", "");
                CHECK.due("line " + (i + 1) + " has no " + word, !pattern.matcher(code).find());
            }
        }
    }

    private static void methodLengths(List<String> lines) {
        CHECK.about("LANGUAGE.md 11: a method has some sixty lines at most");
        Pattern head = Pattern.compile("( {4}| {8})[^ /*].*\\(.*\\) \\{");
        for (int i = 0; i < lines.size(); i++) {
            if (head.matcher(lines.get(i)).matches()) {
                String indent = lines.get(i).replaceAll("[^ ].*", "");
                int end = i;
                while (end < lines.size() && !lines.get(end).equals(indent + "}")) {
                    end++;
                }
                CHECK.due("line " + (i + 1) + ": so many lines: " + (end - i + 1), end - i + 1 <= 60);
            }
        }
    }

    private static void classes() {
        CHECK.about("LANGUAGE.md 1 and 11: classes, their fields, and the parameters of their methods");
        Class<?>[] inside = MoveFronts.class.getDeclaredClasses();
        CHECK.due("classes: " + inside.length, inside.length + 1 <= 12);
        for (Class<?> one : inside) {
            int fields = 0;
            for (Field field : one.getDeclaredFields()) {
                fields += Modifier.isStatic(field.getModifiers()) ? 0 : 1;
            }
            CHECK.due("fields of " + one + ": " + fields, fields <= 20);
            for (Method method : one.getDeclaredMethods()) {
                CHECK.due("parameters of " + method, method.getParameterCount() <= 7);
            }
        }
    }

    private static void staticFields() {
        CHECK.about("LANGUAGE.md 5: static fields are final constants");
        constantsOf(MoveFronts.class);
        for (Class<?> inside : MoveFronts.class.getDeclaredClasses()) {
            constantsOf(inside);
        }
    }

    private static void constantsOf(Class<?> one) {
        for (Field field : one.getDeclaredFields()) {
            if (Modifier.isStatic(field.getModifiers())) {
                CHECK.due("a final int: " + field, Modifier.isFinal(field.getModifiers()) && field.getType() == int.class);
            }
        }
    }

    private static void room() throws IllegalAccessException {
        CHECK.about("LANGUAGE.md 12: an object keeps what its constructor made, and no more");
        MoveFronts x = new MoveFronts();
        Set<Object> first = partsOf(x);
        CHECK.due("objects and arrays: " + first.size(), first.size() <= 100);
        CHECK.due("fields and elements: " + sizeOf(first), sizeOf(first) <= 15000);
        for (int i = 0; i < 170; i++) {
            x.sign(i * i % 241);
            x.cost();
        }
        x.write();
        x.read();
        x.empty();
        Set<Object> then = partsOf(x);
        CHECK.due("the same ones behind calls", then.size() == first.size() && first.containsAll(then));
    }

    private static Set<Object> partsOf(Object whole) throws IllegalAccessException {
        Set<Object> found = Collections.newSetFromMap(new IdentityHashMap<>());
        Deque<Object> open = new ArrayDeque<>();
        open.add(whole);
        while (!open.isEmpty()) {
            Object next = open.remove();
            if (found.add(next)) {
                addParts(next, open);
            }
        }
        return found;
    }

    private static void addParts(Object of, Deque<Object> open) throws IllegalAccessException {
        if (of instanceof Object[] row) {
            Collections.addAll(open, row);
        } else if (!of.getClass().isArray()) {
            for (Field field : of.getClass().getDeclaredFields()) {
                field.setAccessible(true);
                if (!field.getType().isPrimitive()) {
                    open.add(field.get(of));
                }
            }
        }
    }

    private static int sizeOf(Set<Object> parts) {
        int size = 0;
        for (Object part : parts) {
            boolean isRow = part.getClass().isArray();
            size += isRow ? Array.getLength(part) : part.getClass().getDeclaredFields().length;
        }
        return size;
    }
}
