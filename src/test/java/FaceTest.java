import java.lang.reflect.Constructor;
import java.lang.reflect.Field;
import java.lang.reflect.Method;
import java.lang.reflect.Modifier;
import java.util.Set;
import java.util.TreeSet;

/** The face is the document's, all that is not of the face is private, and the constants are as told. */
public final class FaceTest {
    private static final Due due = new Due("FaceTest");

    private static final Set<String> METHODS = Set.of(
            "public int ClassStarter.declare(int,boolean,boolean,int)",
            "public int ClassStarter.inherit(int,int,boolean)",
            "public int ClassStarter.act(int,int,int,int)",
            "public int ClassStarter.plan(int,int,int)",
            "public int ClassStarter.step(int)",
            "public int ClassStarter.reset()",
            "public int ClassStarter.state(int)",
            "public long ClassStarter.statics(int,int)",
            "public int ClassStarter.result(int)",
            "public int ClassStarter.inside(int)",
            "public int ClassStarter.waitsFor(int)",
            "public long ClassStarter.logged(int)",
            "public int ClassStarter.explore()",
            "public long ClassStarter.outcome(int)",
            "public int ClassStarter.count(int)");

    private static final Set<String> FIELDS = Set.of(
            "public static final int ClassStarter.REFUSED",
            "public static final int ClassStarter.FULL",
            "public static final long ClassStarter.NONE");

    public static void main(String[] args) {
        due.is("REFUSED", ClassStarter.REFUSED, -1);
        due.is("FULL", ClassStarter.FULL, -2);
        due.is("NONE", ClassStarter.NONE, 1000000000000L);
        due.is("modifiers of the class", ClassStarter.class.getModifiers(), Modifier.PUBLIC | Modifier.FINAL);
        methods();
        fields();
        constructors();
        classesInside();
        due.end();
    }

    private static void methods() {
        Set<String> seen = new TreeSet<>();
        Set<String> publicNames = new TreeSet<>();
        for (Method method : ClassStarter.class.getDeclaredMethods()) {
            if (!Modifier.isPrivate(method.getModifiers())) {
                seen.add(method.toString());
                publicNames.add(method.getName());
            }
        }
        due.holds("the methods are those of the face: " + seen, seen.equals(METHODS));
        for (Method method : ClassStarter.class.getDeclaredMethods()) {
            boolean isPrivate = Modifier.isPrivate(method.getModifiers());
            due.holds(method + " has a name of its own", !isPrivate || !publicNames.contains(method.getName()));
        }
    }

    private static void fields() {
        Set<String> seen = new TreeSet<>();
        for (Field field : ClassStarter.class.getDeclaredFields()) {
            if (!Modifier.isPrivate(field.getModifiers())) {
                seen.add(field.toString());
            }
        }
        due.holds("the fields are those of the face: " + seen, seen.equals(FIELDS));
    }

    private static void constructors() {
        Constructor<?>[] seen = ClassStarter.class.getDeclaredConstructors();
        due.is("constructors", seen.length, 1);
        due.holds("the constructor is public", seen[0].toString().equals("public ClassStarter()"));
    }

    private static void classesInside() {
        for (Class<?> inside : ClassStarter.class.getDeclaredClasses()) {
            int modifiers = inside.getModifiers();
            due.holds(inside + " is static", Modifier.isStatic(modifiers));
            due.holds(inside + " is hidden", !Modifier.isPublic(modifiers) && !Modifier.isProtected(modifiers));
        }
    }
}
