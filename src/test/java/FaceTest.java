import java.lang.reflect.Member;
import java.lang.reflect.Modifier;
import java.util.Arrays;
import java.util.Set;
import java.util.TreeSet;

/** The public face: all that the document lists can be reached, and nothing else. */
public final class FaceTest {
    private static final Set<String> METHODS = new TreeSet<>(Set.of(
        "public int FieldTower.use(int)",
        "public int FieldTower.add(int,int)",
        "public int FieldTower.multiply(int,int)",
        "public int FieldTower.invert(int)",
        "public int FieldTower.power(int,int)",
        "public int FieldTower.order(int)",
        "public int FieldTower.root(int)",
        "public int FieldTower.roots(int,int)",
        "public int FieldTower.trace(int,int)",
        "public int FieldTower.home(int)",
        "public int FieldTower.logarithm(int,int)"
    ));
    private static final Set<String> CONSTRUCTORS = Set.of("public FieldTower()");
    private static final Set<String> NONE = Set.of();

    public static void main(String[] args) {
        Class<?> face = FieldTower.class;
        Due.sentence("The public face");
        Due.same("the class", Modifier.toString(face.getModifiers()) + " " + face.getName(), "public final FieldTower");
        Due.same("what it extends", face.getSuperclass(), Object.class);
        Due.same("interfaces", namesOf(face.getInterfaces()), NONE);
        Due.same("nested classes", namesOf(face.getDeclaredClasses()), NONE);
        Due.same("constructors", open(face.getDeclaredConstructors()), CONSTRUCTORS);
        Due.same("methods", open(face.getDeclaredMethods()), METHODS);
        Due.same("constants and other fields", open(face.getDeclaredFields()), NONE);
        Due.end();
    }

    private static Set<String> namesOf(Class<?>[] classes) {
        Set<String> names = new TreeSet<>();
        Arrays.stream(classes).map(Class::getName).forEach(names::add);
        return names;
    }

    /** Package-visible members count as open: the tests, which have no package either, could call them. */
    private static Set<String> open(Member[] members) {
        Set<String> found = new TreeSet<>();
        for (Member member : members) {
            if (!Modifier.isPrivate(member.getModifiers())) {
                found.add(member.toString());
            }
        }
        return found;
    }
}
