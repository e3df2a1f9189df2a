import java.io.IOException;
import java.lang.reflect.Constructor;
import java.lang.reflect.Field;
import java.lang.reflect.Member;
import java.lang.reflect.Method;
import java.lang.reflect.Modifier;
import java.nio.file.Files;
import java.nio.file.Path;
import java.util.Set;
import java.util.TreeSet;

/** The public face: the document's constants, constructor and methods, and no other. */
public final class FaceTest {
    private static final Set<String> FACE = Set.of(
        "int sign(int)", "int empty()", "int told(int)", "int at(int)", "int map(int)",
        "int place(int)", "int symbol(int)", "int taken(int,int)", "int length(int,int,int)",
        "int code(int,int)", "int cost()", "int write()", "int more(boolean)", "int cut(int)",
        "int flip(int)", "int bit(int)", "int read()", "int fault()");

    public static void main(String[] args) throws IOException {
        Check check = new Check();
        Class<?> face = MoveFronts.class;
        check.about("The public face: the class");
        check.due("public", Modifier.isPublic(face.getModifiers()));
        check.due("final", Modifier.isFinal(face.getModifiers()));
        check.about("The public face: the methods, and no other");
        check.due("methods as in the document: " + methodsOf(face), methodsOf(face).equals(FACE));
        checkPrivateNames(check, face);
        check.about("The public face: the constants, and no other field");
        checkFields(check, face);
        check.about("The public face: the constructor, and no other");
        check.due("constructors", face.getDeclaredConstructors().length, 1);
        for (Constructor<?> made : face.getDeclaredConstructors()) {
            check.due("public constructor", Modifier.isPublic(made.getModifiers()));
            check.due("parameters of the constructor", made.getParameterCount(), 0);
        }
        check.about("The public face: what the constants are");
        check.due("NONE", MoveFronts.NONE, -1);
        check.due("OUTSIDE", MoveFronts.OUTSIDE, -2);
        check.due("STATE", MoveFronts.STATE, -3);
        check.due("ROOM", MoveFronts.ROOM, -4);
        check.about("The public face: no class inside it is part of it");
        for (Class<?> inside : face.getDeclaredClasses()) {
            check.due("static: " + inside, Modifier.isStatic(inside.getModifiers()));
            check.due("not public: " + inside, !Modifier.isPublic(inside.getModifiers()));
        }
        check.about("Terms: ahead of the calls write to fault the interface says: ---- the tape");
        String text = Files.readString(Path.of("src/main/java/MoveFronts.java"));
        int line = text.indexOf("// ---- the tape");
        check.due("behind cost", line > text.indexOf("public int cost()"));
        for (String name : new String[] {"write", "more", "cut", "flip", "bit", "read", "fault"}) {
            check.due("ahead of " + name, line < text.indexOf("public int " + name + "("));
        }
        check.end();
    }

    private static void checkPrivateNames(Check check, Class<?> face) {
        for (Method method : face.getDeclaredMethods()) {
            if (!isOpen(method)) {
                String name = method.getName();
                check.due("no method of the face: " + name, FACE.stream().noneMatch(of -> of.startsWith("int " + name + "(")));
            }
        }
    }

    private static boolean isOpen(Member member) {
        return !Modifier.isPrivate(member.getModifiers()) && !member.isSynthetic();
    }

    private static Set<String> methodsOf(Class<?> face) {
        Set<String> found = new TreeSet<>();
        for (Method method : face.getDeclaredMethods()) {
            if (isOpen(method)) {
                StringBuilder text = new StringBuilder(method.getReturnType().getName());
                text.append(' ').append(method.getName()).append('(');
                for (int i = 0; i < method.getParameterCount(); i++) {
                    text.append(i == 0 ? "" : ",").append(method.getParameterTypes()[i].getName());
                }
                found.add(text.append(')').toString());
            }
        }
        return found;
    }

    private static void checkFields(Check check, Class<?> face) {
        Set<String> open = new TreeSet<>();
        for (Field field : face.getDeclaredFields()) {
            if (isOpen(field)) {
                open.add(field.getName());
                int is = field.getModifiers();
                check.due("static and final: " + field, Modifier.isStatic(is) && Modifier.isFinal(is));
                check.due("an int: " + field, field.getType() == int.class);
            }
        }
        check.due("constants: " + open, open.equals(Set.of("NONE", "OUTSIDE", "STATE", "ROOM")));
    }
}
