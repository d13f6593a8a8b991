import java.lang.reflect.Constructor;
import java.lang.reflect.Field;
import java.lang.reflect.Method;
import java.lang.reflect.Modifier;
import java.nio.file.Files;
import java.nio.file.Path;
import java.util.Arrays;
import java.util.HashSet;
import java.util.List;
import java.util.Set;
import java.util.TreeSet;

/** The public face is the document's and nothing more; the file keeps to LANGUAGE.md where that can be seen. */
public final class FaceTest {
    private static final List<String> FACE = List.of("feed(int,int,int,int,int)", "machines(int)", "fault()", "where()",
            "machine(int,int)", "variable(int,int,int)", "event(int,int,int)", "value(int,int,int)", "sound(int,int)",
            "glued(int,int,int)", "beneath(int,int,int)", "can(int,int,int,int)", "gives(int,int,int,int)",
            "variant(int,int)", "duty(int,int,int)", "shown(int)", "open(int)", "cases(int,int,int)", "write()",
            "octet(int)", "run(int)", "step(int,int)", "now(int)", "beside(int)", "draws(int,int)", "reach(int)",
            "steps(int,int)", "stuck(int)", "unsound(int)", "aside(int,int,boolean)", "letter(int,int,int)", "size()",
            "trouble()");

    private static int wrong = 0;

    private static void check(boolean holds, String what) {
        if (!holds) {
            wrong++;
            System.out.println("not so: " + what);
        }
    }

    public static void main(String[] args) throws Exception {
        methods();
        fieldsAndConstructors();
        insideClasses();
        source();
        System.out.println(wrong == 0 ? "the face is as due" : wrong + " things are not as due");
        if (wrong != 0) {
            System.exit(1);
        }
    }

    private static String told(Method m) {
        return m.getName() + "(" + String.join(",", Arrays.stream(m.getParameterTypes()).map(Class::getName).toList()) + ")";
    }

    private static void methods() {
        Set<String> publics = new TreeSet<>();
        Set<String> names = new HashSet<>();
        for (Method m : FinerSteps.class.getDeclaredMethods()) {
            if (Modifier.isPublic(m.getModifiers())) {
                publics.add(told(m));
                names.add(m.getName());
                check(m.getReturnType() == int.class, told(m) + " answers an int");
            }
        }
        check(publics.equals(new TreeSet<>(FACE)), "public methods are the face: " + publics);
        for (Method m : FinerSteps.class.getDeclaredMethods()) {
            if (!Modifier.isPublic(m.getModifiers())) {
                check(Modifier.isPrivate(m.getModifiers()), m + " is private");
                check(!names.contains(m.getName()), m + " bears no name of the face");
            }
        }
        for (Class<?> c : FinerSteps.class.getDeclaredClasses()) {
            for (Method m : c.getDeclaredMethods()) {
                check(!names.contains(m.getName()), m + " bears no name of the face");
                check(m.getParameterCount() <= 7, m + " has at most seven parameters");
            }
        }
    }

    private static void fieldsAndConstructors() throws Exception {
        check(Modifier.isPublic(FinerSteps.class.getModifiers()) && Modifier.isFinal(FinerSteps.class.getModifiers()),
                "the class is public and final");
        for (Field f : FinerSteps.class.getDeclaredFields()) {
            boolean isNone = f.getName().equals("NONE");
            check(isNone ? Modifier.isPublic(f.getModifiers()) : Modifier.isPrivate(f.getModifiers()), f + " is private");
            check(!Modifier.isStatic(f.getModifiers()) || Modifier.isFinal(f.getModifiers()), f + " is final");
        }
        Constructor<?>[] all = FinerSteps.class.getDeclaredConstructors();
        check(all.length == 1 && all[0].getParameterCount() == 0 && Modifier.isPublic(all[0].getModifiers()),
                "one public constructor");
        Method letter = FinerSteps.class.getMethod("letter", int.class, int.class, int.class);
        check(letter.getExceptionTypes().length == 1
                && letter.getExceptionTypes()[0] == java.util.NoSuchElementException.class, "letter tells what it throws");
    }

    private static void insideClasses() {
        Class<?>[] inside = FinerSteps.class.getDeclaredClasses();
        check(inside.length <= 11, "at most some twelve classes");
        for (Class<?> c : inside) {
            check(Modifier.isStatic(c.getModifiers()) || c.isInterface(), c + " is static");
            check(!Modifier.isPublic(c.getModifiers()) && !Modifier.isProtected(c.getModifiers()), c + " isn't public");
            int fields = 0;
            for (Field f : c.getDeclaredFields()) {
                if (!Modifier.isStatic(f.getModifiers())) {
                    fields++;
                }
            }
            check(fields <= 20, c + " has some twenty fields at most");
        }
    }

    private static void source() throws Exception {
        String text = Files.readString(Path.of("src/main/java/FinerSteps.java"));
        for (String no : List.of("->", "::", "catch", "finally", "synchronized", "assert ", "static {", "Exact(",
                "package ", "Object ", "instanceof", "System.out", "double", "float", "while (true)", "for (;;)")) {
            check(!text.contains(no), "no " + no + " in the source");
        }
        for (String line : text.split("\n")) {
            if (line.startsWith("import ")) {
                check(line.equals("import java.util.Arrays;") || line.equals("import java.util.NoSuchElementException;"), line);
            }
            if (line.contains("throw new")) {
                check(line.trim().equals("throw new NoSuchElementException();"), line);
            }
            check(line.length() <= 120, "a short line: " + line);
        }
        lengthsOfMethods(text);
    }

    /** A method's body ends at a closing bracket as far in as its first line. */
    private static void lengthsOfMethods(String text) {
        String[] lines = text.split("\n");
        int found = 0;
        for (int i = 0; i < lines.length; i++) {
            String l = lines[i];
            if (!l.matches("\\s+((public|private|static|final) )*[A-Za-z\\[\\]]+ [A-Za-z]+\\(.*\\).* ?\\{")
                    || l.trim().startsWith("else")) {
                continue;
            }
            String end = l.substring(0, l.length() - l.stripLeading().length()) + "}";
            int j = i;
            while (j < lines.length && !lines[j].equals(end)) {
                j++;
            }
            check(j - i <= 60, "a short method: " + l.trim());
            found++;
        }
        check(found > 100, "methods are found: " + found);
    }
}
