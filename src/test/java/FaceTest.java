import java.lang.reflect.Field;
import java.lang.reflect.Method;
import java.lang.reflect.Modifier;
import java.util.Set;
import java.util.TreeSet;

/** The face of the class is the document's, and nothing beside it can be seen from outside. */
public final class FaceTest {
    private static final Set<String> FACE = Set.of(
        "int append(int)", "int clear()", "int fault()", "int load(int)", "int edit(int,int,int)",
        "int swap(int,int)", "int set(int,int)", "int lay(boolean)", "int line(int,int)",
        "int distance(int)", "int view(int,int)", "int hunk(int,int)", "int whyNot(int,boolean)",
        "int count(int)", "double alike()", "int ifLaid(int,boolean,int)", "int ifAround(int)",
        "int least()", "int undo()", "int save()", "int restore()");
    private static final Set<String> CONSTANTS = Set.of("INVALID_ARGUMENT", "NOT_POSSIBLE",
        "LIMIT_REACHED", "NOT_FOUND", "AROUND", "SLIDE");

    private static int wrong = 0;

    private static void must(boolean holds, String what) {
        if (!holds) {
            wrong++;
            System.out.println("FaceTest: " + what);
        }
    }

    private static String told(Method m) {
        StringBuilder s = new StringBuilder(m.getReturnType().getName());
        s.append(' ').append(m.getName()).append('(');
        for (int i = 0; i < m.getParameterCount(); i++) {
            s.append(i == 0 ? "" : ",").append(m.getParameterTypes()[i].getName());
        }
        return s.append(')').toString();
    }

    private static void methods() {
        Set<String> seen = new TreeSet<>();
        Set<String> names = new TreeSet<>();
        for (Method m : HunkSlides.class.getDeclaredMethods()) {
            if (Modifier.isPublic(m.getModifiers())) {
                seen.add(told(m));
                names.add(m.getName());
                must(!Modifier.isStatic(m.getModifiers()), m + " is static");
            }
        }
        must(seen.equals(new TreeSet<>(FACE)), "the public methods are " + seen);
        for (Method m : HunkSlides.class.getDeclaredMethods()) {
            must(Modifier.isPublic(m.getModifiers()) || Modifier.isPrivate(m.getModifiers()), m + " can be seen");
            must(Modifier.isPublic(m.getModifiers()) || !names.contains(m.getName()), m + " bears a public name");
        }
        for (Class<?> inside : HunkSlides.class.getDeclaredClasses()) {
            for (Method m : inside.getDeclaredMethods()) {
                must(!names.contains(m.getName()), m + " bears a public name");
            }
        }
    }

    private static void fields(Class<?> type) {
        for (Field f : type.getDeclaredFields()) {
            int m = f.getModifiers();
            if (type == HunkSlides.class) {
                must(CONSTANTS.contains(f.getName()) == Modifier.isPublic(m), f + " is public or not");
                must(Modifier.isPublic(m) || Modifier.isPrivate(m), f + " can be seen");
            }
            must(!Modifier.isStatic(m) || Modifier.isFinal(m), f + " is static state");
            must(!Modifier.isStatic(m) || f.getType() == int.class || f.getType() == String.class, f + "'s type");
        }
    }

    public static void main(String[] args) {
        Class<?> face = HunkSlides.class;
        must(Modifier.isPublic(face.getModifiers()) && Modifier.isFinal(face.getModifiers()), "public and final");
        must(face.getDeclaredConstructors().length == 1 && face.getConstructors().length == 1, "one constructor");
        must(face.getPackageName().isEmpty(), "no package");
        methods();
        fields(face);
        must(face.getDeclaredClasses().length <= 12, "too many classes");
        for (Class<?> inside : face.getDeclaredClasses()) {
            must(Modifier.isStatic(inside.getModifiers()), inside + " is not static");
            must(!Modifier.isPublic(inside.getModifiers()), inside + " is public");
            fields(inside);
        }
        System.out.println(wrong == 0 ? "FaceTest: the face is the document's" : "FaceTest: " + wrong + " wrong");
        if (wrong != 0) System.exit(1);
    }
}
