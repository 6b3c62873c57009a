import java.lang.reflect.Constructor;
import java.lang.reflect.Field;
import java.lang.reflect.Method;
import java.lang.reflect.Modifier;
import java.util.ArrayList;
import java.util.Arrays;
import java.util.List;
import java.util.TreeSet;

/** The public face is that of the document, and nothing else can be seen from outside. */
public final class FaceTest {
    private static final String[] METHODS = {
        "int addVenue(int, int, int, int)", "int setClimate(int, int, int)", "int setWay(int, int, int)",
        "int setLender(int, int, int)", "int setWayRate(int)", "int addCourier(int)", "int addCrate(int, int)",
        "int addWork(int, int, int, int, boolean)", "int open(int)", "int close(int)", "int nest(int, int)",
        "int takeOut(int)", "int pack(int, int)", "int unpack(int)", "int send(int, int, int)",
        "int advance(int)", "int refusal(int, int, int)", "int crate(int, int)", "int work(int, int)",
        "int noted(int, int)", "int venue(int, int)", "int courier(int)", "int whole(int)", "int readyAt(int)",
        "int allReadyAt(int)", "int bestVenue(int, int)", "int type(int)", "int clearCommands()",
        "int runCommands()", "int undo()", "long digest()"};

    public static void main(String[] args) {
        Class<?> face = CrateTour.class;
        Expect.isTrue("the class is public and final",
                Modifier.isPublic(face.getModifiers()) && Modifier.isFinal(face.getModifiers()));
        methods(face);
        fields(face);
        constructors(face);
        Expect.done("FaceTest");
    }

    private static void methods(Class<?> face) {
        TreeSet<String> shown = new TreeSet<>();
        List<String> names = new ArrayList<>();
        for (Method m : face.getDeclaredMethods()) {
            names.add(m.getName());
            if (!Modifier.isPrivate(m.getModifiers()) && !m.isSynthetic()) {
                shown.add(signature(m));
                Expect.isTrue(m.getName() + " is public and no more",
                        Modifier.isPublic(m.getModifiers()) && !Modifier.isStatic(m.getModifiers()));
            }
        }
        TreeSet<String> due = new TreeSet<>(Arrays.asList(METHODS));
        Expect.isTrue("methods shown: " + shown + ", due are " + due, shown.equals(due));
        for (String signature : METHODS) {
            String name = signature.substring(signature.indexOf(' ') + 1, signature.indexOf('('));
            names.remove(name);
            Expect.isTrue("no second method is named " + name, !names.contains(name));
        }
    }

    private static String signature(Method m) {
        List<String> types = new ArrayList<>();
        for (Class<?> type : m.getParameterTypes()) {
            types.add(type.getName());
        }
        return m.getReturnType().getName() + " " + m.getName() + "(" + String.join(", ", types) + ")";
    }

    private static void fields(Class<?> face) {
        for (Field f : face.getDeclaredFields()) {
            boolean isConstant = f.getName().equals("NONE");
            Expect.isTrue(f.getName() + " is shown if and only if it is NONE",
                    Modifier.isPrivate(f.getModifiers()) != isConstant);
        }
    }

    private static void constructors(Class<?> face) {
        Constructor<?>[] all = face.getDeclaredConstructors();
        Expect.same("constructors", all.length, 1);
        Expect.isTrue("the constructor is public and takes nothing",
                Modifier.isPublic(all[0].getModifiers()) && all[0].getParameterCount() == 0);
    }
}
