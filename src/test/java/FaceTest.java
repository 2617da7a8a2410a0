import java.lang.reflect.Constructor;
import java.lang.reflect.Field;
import java.lang.reflect.Method;
import java.lang.reflect.Modifier;
import java.util.Set;
import java.util.TreeSet;

/** The public face is the document's, whole and with nothing more; the constants have their numbers. */
public final class FaceTest {
    private static final Set<String> FACE = Set.of(
        "public int begin(int,int,int)", "public int grow()", "public int level()", "public int entries()",
        "public int block(int,int)", "public int order(int)", "public int labelled()",
        "public int together(int,int,int)", "public boolean design(int)", "public int designs()",
        "public int orbit(int,int)", "public int put(int)", "public boolean drop(int)",
        "public boolean swap(int,int)", "public boolean copy(int)", "public int hand(int)",
        "public int formed(int)", "public int symmetries()", "public int find()");

    public static void main(String[] args) {
        Due due = new Due();
        due.about("face");
        due.is("NONE", PackingCensus.NONE, -1);
        due.is("BAD", PackingCensus.BAD, -2);
        due.is("FRACTION", PackingCensus.FRACTION, -3);
        due.is("FISHER", PackingCensus.FISHER, -4);
        due.is("FULL", PackingCensus.FULL, -5);
        due.is("class", Modifier.toString(PackingCensus.class.getModifiers()), "public final");
        due.is("methods", methods(), new TreeSet<>(FACE));
        due.is("constants", constants(), new TreeSet<>(Set.of("NONE", "BAD", "FRACTION", "FISHER", "FULL")));
        Constructor<?>[] constructors = PackingCensus.class.getDeclaredConstructors();
        due.is("constructors", constructors.length, 1);
        due.is("constructor", constructors[0].toString(), "public PackingCensus()");
        due.end();
    }

    private static Set<String> methods() {
        Set<String> found = new TreeSet<>();
        for (Method method : PackingCensus.class.getDeclaredMethods()) {
            if (!Modifier.isPrivate(method.getModifiers())) {
                found.add(method.toString().replace("PackingCensus.", ""));
            }
        }
        return found;
    }

    private static Set<String> constants() {
        Set<String> found = new TreeSet<>();
        for (Field field : PackingCensus.class.getDeclaredFields()) {
            if (!Modifier.isPrivate(field.getModifiers())) {
                found.add(field.getName());
            }
        }
        return found;
    }
}
