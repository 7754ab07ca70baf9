import java.lang.reflect.Constructor;
import java.lang.reflect.Field;
import java.lang.reflect.Method;
import java.lang.reflect.Modifier;
import java.util.ArrayList;
import java.util.List;
import java.util.TreeSet;

/** The public face is the document's, and nothing else of the class can be seen. */
public final class FaceTest {
    private static final String[] FACE = {
        "boolean terms(int, int, int, int, int, int, int)", "int checks(int)", "int house(int, boolean, int)",
        "boolean throwOut(int)", "boolean keeper(boolean)", "int tap(int)", "boolean prove(int)", "int leave(int)",
        "boolean end(int)", "int ask(int, int, int)", "int turn(int, int)", "boolean show(int, int, int, int)",
        "boolean hand(int, int, int, int)", "boolean fake(int, int)", "int deliver(int)", "boolean copy(int)",
        "boolean lose(int)", "int tick(int)", "int judge(int, int, int, int, int)", "int found(int)",
        "int stops(int, int, int, int, int)", "int longest(int, int, int)", "int note(int, int)",
        "int letter(int, int)", "int family(int, int)", "int houseOf(int, int)", "int browser(int, int)",
        "int log(int, int)", "int where(int, int)", "int count(int)", "int row(int, int, int)",
        "boolean tear(int)", "int write(int, int, long)", "int paste(int, int, int, int, int)",
        "int script(int)", "int why()",
    };

    public static void main(String[] args) {
        int wrong = 0;
        TreeSet<String> want = new TreeSet<>(List.of(FACE));
        TreeSet<String> got = new TreeSet<>();
        TreeSet<String> names = new TreeSet<>();
        List<Method> hidden = new ArrayList<>();
        for (Method m : NoteGate.class.getDeclaredMethods()) {
            if (Modifier.isPrivate(m.getModifiers())) {
                hidden.add(m);
                continue;
            }
            names.add(m.getName());
            got.add(told(m));
            if (m.getModifiers() != Modifier.PUBLIC) {
                wrong += wrong("not plainly public: " + m);
            }
        }
        for (Class<?> inside : NoteGate.class.getDeclaredClasses()) {
            hidden.addAll(List.of(inside.getDeclaredMethods()));
            if (!Modifier.isStatic(inside.getModifiers())) {
                wrong += wrong("not static: " + inside);
            }
        }
        if (!got.equals(want)) {
            wrong += wrong("the methods are " + got + ", due are " + want);
        }
        for (Method m : hidden) {
            if (names.contains(m.getName())) {
                wrong += wrong("bears the name of a public method: " + m);
            }
        }
        wrong += fields() + shape();
        System.out.println(wrong == 0 ? "the face is as due" : wrong + " wrong");
        if (wrong != 0) {
            System.exit(1);
        }
    }

    private static String told(Method m) {
        StringBuilder s = new StringBuilder(m.getReturnType().getName()).append(' ').append(m.getName()).append('(');
        for (int i = 0; i < m.getParameterCount(); i++) {
            s.append(i == 0 ? "" : ", ").append(m.getParameterTypes()[i].getName());
        }
        return s.append(')').toString();
    }

    private static int fields() {
        int wrong = 0;
        boolean none = false;
        for (Field f : NoteGate.class.getDeclaredFields()) {
            boolean isNone = f.getName().equals("NONE");
            none |= isNone && f.getModifiers() == (Modifier.PUBLIC | Modifier.STATIC | Modifier.FINAL);
            if (!isNone && !Modifier.isPrivate(f.getModifiers())) {
                wrong += wrong("can be seen: " + f);
            }
            if (Modifier.isStatic(f.getModifiers()) && !Modifier.isFinal(f.getModifiers())) {
                wrong += wrong("static and not final: " + f);
            }
        }
        return none ? wrong : wrong + wrong("NONE is not public static final");
    }

    private static int shape() {
        int wrong = 0;
        Constructor<?>[] made = NoteGate.class.getDeclaredConstructors();
        if (made.length != 1 || !Modifier.isPublic(made[0].getModifiers()) || made[0].getParameterCount() != 0) {
            wrong += wrong("the constructor is not as due");
        }
        if (NoteGate.class.getModifiers() != (Modifier.PUBLIC | Modifier.FINAL)) {
            wrong += wrong("the class is not public and final");
        }
        return NoteGate.NONE == -1 ? wrong : wrong + wrong("NONE is " + NoteGate.NONE);
    }

    private static int wrong(String what) {
        System.out.println(what);
        return 1;
    }
}
