import java.lang.reflect.Constructor;
import java.lang.reflect.Field;
import java.lang.reflect.Member;
import java.lang.reflect.Method;
import java.lang.reflect.Modifier;
import java.util.Set;
import java.util.TreeSet;

/** The public face is the document's, whole and with nothing more; the constants have their numbers. */
public final class FaceTest {
    private static final Set<String> METHODS = Set.of(
        "public int begin(int,int,int)", "public int grow()", "public int level()", "public int entries()",
        "public int block(int,int)", "public int order(int)", "public int labelled()",
        "public int together(int,int,int)", "public boolean design(int)", "public int designs()",
        "public int orbit(int,int)", "public int put(int)", "public boolean drop(int)",
        "public boolean swap(int,int)", "public boolean copy(int)", "public int hand(int)",
        "public int formed(int)", "public int symmetries()", "public int find()");
    private static final Set<String> CONSTANTS = Set.of(
        "public static final int NONE", "public static final int BAD", "public static final int FRACTION",
        "public static final int FISHER", "public static final int FULL");
    private static final Due DUE = new Due();

    public static void main(String[] args) {
        DUE.about("face");
        theClass();
        theConstants();
        theConstructor();
        theMethods();
        theClassesInside();
        DUE.end();
    }

    private static void theClass() {
        DUE.is("class", Modifier.toString(PackingCensus.class.getModifiers()), "public final");
        DUE.is("package", PackingCensus.class.getPackageName(), "");
        DUE.is("superclass", PackingCensus.class.getSuperclass(), Object.class);
        DUE.is("interfaces", PackingCensus.class.getInterfaces().length, 0);
    }

    private static void theConstants() {
        DUE.is("NONE", PackingCensus.NONE, -1);
        DUE.is("BAD", PackingCensus.BAD, -2);
        DUE.is("FRACTION", PackingCensus.FRACTION, -3);
        DUE.is("FISHER", PackingCensus.FISHER, -4);
        DUE.is("FULL", PackingCensus.FULL, -5);
        Set<String> found = new TreeSet<>();
        for (Field field : PackingCensus.class.getDeclaredFields()) {
            addSeen(field, field.toString(), found);
        }
        DUE.is("constants", found, new TreeSet<>(CONSTANTS));
    }

    private static void theConstructor() {
        Constructor<?>[] constructors = PackingCensus.class.getDeclaredConstructors();
        DUE.is("constructors", constructors.length, 1);
        DUE.is("constructor", constructors[0].toString(), "public PackingCensus()");
    }

    private static void theMethods() {
        Set<String> found = new TreeSet<>();
        for (Method method : PackingCensus.class.getDeclaredMethods()) {
            addSeen(method, method.toString(), found);
        }
        DUE.is("methods", found, new TreeSet<>(METHODS));
    }

    private static void theClassesInside() {
        for (Class<?> inside : PackingCensus.class.getDeclaredClasses()) {
            int modifiers = inside.getModifiers();
            boolean hidden = !Modifier.isPublic(modifiers) && !Modifier.isProtected(modifiers);
            DUE.is(inside.getName() + " is not seen from outside", hidden, true);
            DUE.is(inside.getName() + " is static", Modifier.isStatic(modifiers), true);
        }
    }

    private static void addSeen(Member member, String text, Set<String> found) {
        if (!Modifier.isPrivate(member.getModifiers())) {
            found.add(text.replace("PackingCensus.", ""));
        }
    }
}
