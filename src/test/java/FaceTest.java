import java.io.IOException;
import java.lang.reflect.Constructor;
import java.lang.reflect.Field;
import java.lang.reflect.Method;
import java.lang.reflect.Modifier;
import java.nio.file.Files;
import java.nio.file.Path;
import java.util.ArrayList;
import java.util.Arrays;
import java.util.List;
import java.util.TreeSet;
import java.util.regex.Matcher;
import java.util.regex.Pattern;

/** The public face is that of the document, and nothing else can be seen from outside. */
public final class FaceTest {
    private static final String[] METHODS = {
        "int addVenue(int, int, int, int)", "int setClimate(int, int, int)", "int setWay(int, int, int)",
        "int setLender(int, int, int)", "int setWayRate(int)", "int addCourier(int)", "int addCrate(int, int)",
        "int addWork(int, int, int, int, boolean)", "int open(int)", "int close(int)", "int nest(int, int)",
        "int takeOut(int)", "int pack(int, int)", "int unpack(int)", "int send(int, int, int)",
        "int advance(int)", "int refusal(int, int, int)", "int crate(int, int)", "int work(int, int)",
        "int noted(int, int)", "int venue(int, int)", "int courier(int)", "int whole(int)", "int readyAt(int)",
        "int allReadyAt(int)", "int bestVenue(int, int)", "int type(int)", "int clearCommands()",
        "int runCommands()", "int undo()", "long digest()"};

    private static final Path DOCUMENT = Path.of("../shared/DOC.md");
    private static final Pattern WRITTEN =
            Pattern.compile("    public (int|long) (\\w+)\\((.*)\\)(?: throws (.*))?;");

    public static void main(String[] args) throws IOException {
        Class<?> face = CrateTour.class;
        Expect.isTrue("the class is public and final",
                Modifier.isPublic(face.getModifiers()) && Modifier.isFinal(face.getModifiers()));
        methods(face);
        methodsAsTheDocumentWritesThem(face);
        fields(face);
        constructors(face);
        classesInside(face);
        Expect.done("FaceTest");
    }

    private static void methods(Class<?> face) {
        TreeSet<String> shown = new TreeSet<>();
        List<String> names = new ArrayList<>();
        for (Method m : face.getDeclaredMethods()) {
            names.add(m.getName());
            if (!Modifier.isPrivate(m.getModifiers()) && !m.isSynthetic()) {
                shown.add(signature(m));
                Expect.isTrue(m.getName() + " is public and no more",
                        Modifier.isPublic(m.getModifiers()) && !Modifier.isStatic(m.getModifiers()));
            }
        }
        TreeSet<String> due = new TreeSet<>(Arrays.asList(METHODS));
        Expect.isTrue("methods shown: " + shown + ", due are " + due, shown.equals(due));
        for (String signature : METHODS) {
            String name = signature.substring(signature.indexOf(' ') + 1, signature.indexOf('('));
            names.remove(name);
            Expect.isTrue("no second method is named " + name, !names.contains(name));
        }
    }

    private static String signature(Method m) {
        return m.getReturnType().getName() + " " + m.getName() + "(" + names(m.getParameterTypes()) + ")";
    }

    private static String names(Class<?>[] types) {
        List<String> names = new ArrayList<>();
        for (Class<?> type : types) {
            names.add(type.getSimpleName());
        }
        return String.join(", ", names);
    }

    /** Each method has the parameters and, in their order, the exceptions that the document writes. */
    private static void methodsAsTheDocumentWritesThem(Class<?> face) throws IOException {
        TreeSet<String> due = new TreeSet<>();
        for (String line : Files.readAllLines(DOCUMENT)) {
            Matcher m = WRITTEN.matcher(line);
            if (m.matches()) {
                String types = m.group(3).replaceAll(" \\w+(,|$)", "$1");
                String raised = m.group(4) == null ? "" : m.group(4);
                due.add(m.group(1) + " " + m.group(2) + "(" + types + ") throws " + raised);
            }
        }
        Expect.same("methods that the document writes", due.size(), METHODS.length);
        TreeSet<String> shown = new TreeSet<>();
        for (Method m : face.getDeclaredMethods()) {
            if (Modifier.isPublic(m.getModifiers())) {
                shown.add(signature(m) + " throws " + names(m.getExceptionTypes()));
            }
        }
        Expect.isTrue("methods shown: " + shown + ", written are " + due, shown.equals(due));
    }

    private static void fields(Class<?> face) {
        for (Field f : face.getDeclaredFields()) {
            boolean isConstant = f.getName().equals("NONE");
            Expect.isTrue(f.getName() + " is shown if and only if it is NONE",
                    Modifier.isPrivate(f.getModifiers()) != isConstant);
            if (isConstant) {
                Expect.isTrue("NONE is a constant of int", f.getType() == int.class
                        && f.getModifiers() == (Modifier.PUBLIC | Modifier.STATIC | Modifier.FINAL));
            }
        }
        Expect.same("NONE", CrateTour.NONE, -1);
    }

    private static void classesInside(Class<?> face) {
        for (Class<?> inside : face.getDeclaredClasses()) {
            int modifiers = inside.getModifiers();
            Expect.isTrue(inside.getSimpleName() + " is static, and not to be seen from outside",
                    Modifier.isStatic(modifiers) && !Modifier.isPublic(modifiers)
                            && !Modifier.isProtected(modifiers));
        }
    }

    private static void constructors(Class<?> face) {
        Constructor<?>[] all = face.getDeclaredConstructors();
        Expect.same("constructors", all.length, 1);
        Expect.isTrue("the constructor is public and takes nothing",
                Modifier.isPublic(all[0].getModifiers()) && all[0].getParameterCount() == 0);
    }
}
