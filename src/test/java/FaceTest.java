import java.lang.reflect.Constructor;
import java.lang.reflect.Field;
import java.lang.reflect.Method;
import java.lang.reflect.Modifier;
import java.util.ArrayList;
import java.util.List;
import java.util.TreeSet;

/** The document's face, and rule 1 of LANGUAGE.md: what is public and what is not. */
public final class FaceTest {
    private static final String B = "IndexOutOfBoundsException";
    private static final String A = "IllegalArgumentException";
    private static final String S = "IllegalStateException";
    private static final String[] FACE = {
        "int add(int,int) " + B + " " + A + " " + S,
        "int remove(int,int) " + B + " " + S,
        "int clear(int) " + B,
        "int copy(int,int) " + B,
        "int size(int) " + B,
        "int mark(int,int) " + B,
        "int length(int) " + B,
        "int multiplicity(int,int) " + B + " " + A,
        "boolean isRuler(int) " + B,
        "int completeUpTo(int) " + B,
        "int differences(int) " + B,
        "boolean isFamily(int) " + A,
        "int setModulus(int) " + A,
        "int cyclicMultiplicity(int,int) " + B + " " + A + " " + S,
        "boolean isCyclicRuler(int) " + B + " " + S,
        "int index(int) " + B + " " + S,
        "int map(int,int,int,int) " + B + " " + A + " " + S,
        "int complement(int,int) " + B + " " + S,
        "int reflect(int,int) " + B,
        "int multipliers(int) " + B + " " + S,
        "int canonical(int,int) " + B + " " + S,
        "int erdosTuran(int,int) " + B + " " + A,
        "int ruzsa(int,int,int) " + B + " " + A,
        "int residues(int,int) " + B + " " + A,
        "int extend(int,int) " + B + " " + A + " " + S,
        "int optimal(int,int) " + B + " " + A,
        "int sparse(int,int) " + B + " " + A,
        "int firstDifferenceSet(int,int,int) " + B + " " + A,
        "int undo() " + S,
        "long digest()"};

    public static void main(String[] args) {
        Class<?> face = RulerWorkbench.class;
        Check.yes("the class is public and final",
                Modifier.isPublic(face.getModifiers()) && Modifier.isFinal(face.getModifiers()));
        methods(face);
        fields(face);
        none(face);
        Constructor<?>[] constructors = face.getDeclaredConstructors();
        Check.same("constructors", constructors.length, 1);
        Check.yes("the constructor is public", Modifier.isPublic(constructors[0].getModifiers()));
        Check.same("the constructor's arguments", constructors[0].getParameterCount(), 0);
        inside(face);
        Check.end("FaceTest");
    }

    private static void methods(Class<?> face) {
        TreeSet<String> got = new TreeSet<>();
        TreeSet<String> names = new TreeSet<>();
        for (Method method : face.getDeclaredMethods()) {
            if (!Modifier.isPrivate(method.getModifiers())) {
                Check.yes(method + " is public", Modifier.isPublic(method.getModifiers()));
                got.add(signature(method));
                names.add(method.getName());
            }
        }
        TreeSet<String> due = new TreeSet<>(List.of(FACE));
        Check.yes("methods: " + got + ", due are " + due, got.equals(due));
        for (Method method : face.getDeclaredMethods()) {
            if (Modifier.isPrivate(method.getModifiers())) {
                Check.no(method + " bears a public name", names.contains(method.getName()));
            }
        }
    }

    private static String signature(Method method) {
        List<String> arguments = new ArrayList<>();
        for (Class<?> type : method.getParameterTypes()) {
            arguments.add(type.getSimpleName());
        }
        StringBuilder text = new StringBuilder(method.getReturnType().getSimpleName() + " " + method.getName());
        text.append("(").append(String.join(",", arguments)).append(")");
        for (Class<?> type : method.getExceptionTypes()) {
            text.append(" ").append(type.getSimpleName());
        }
        return text.toString();
    }

    private static void fields(Class<?> face) {
        for (Field field : face.getDeclaredFields()) {
            int modifiers = field.getModifiers();
            boolean none = field.getName().equals("NONE");
            Check.yes(field + " is private, or NONE",
                    none ? Modifier.isPublic(modifiers) : Modifier.isPrivate(modifiers));
            if (Modifier.isStatic(modifiers)) {
                Check.yes(field + " is a constant",
                        Modifier.isFinal(modifiers) && (field.getType() == int.class || field.getType() == long.class));
            }
        }
    }

    /** A case label takes only what is a constant for the compiler, too. */
    private static boolean isNone(int answer) {
        switch (answer) {
            case RulerWorkbench.NONE:
                return true;
            default:
                return false;
        }
    }

    private static void none(Class<?> face) {
        Field[] fields = face.getFields();
        Check.same("public fields", fields.length, 1);
        Check.text("the public constant", fields.length == 0 ? "none" : fields[0].toString(),
                "public static final int RulerWorkbench.NONE");
        Check.same("NONE", RulerWorkbench.NONE, -1);
        Check.yes("NONE is what a call returns where there is no such value",
                isNone(new RulerWorkbench().firstDifferenceSet(10, 4, 1)));
    }

    private static void inside(Class<?> face) {
        for (Class<?> inner : face.getDeclaredClasses()) {
            int modifiers = inner.getModifiers();
            Check.yes(inner + " is static", Modifier.isStatic(modifiers));
            Check.no(inner + " is public", Modifier.isPublic(modifiers) || Modifier.isProtected(modifiers));
        }
        Check.yes("some twelve classes", face.getDeclaredClasses().length <= 11);
    }
}
