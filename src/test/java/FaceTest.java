import java.lang.reflect.Constructor;
import java.lang.reflect.Field;
import java.lang.reflect.Method;
import java.lang.reflect.Modifier;
import java.util.Arrays;
import java.util.Set;
import java.util.TreeSet;

/** The public face: the class, its constants, its constructor, its methods, and nothing else that can be seen. */
public final class FaceTest {
    private static final Due due = new Due("FaceTest");
    private static final String[] FACE = {
        "int feed int", "int end int", "int text", "int fault", "int rule int", "int part int int", "int layer int int",
        "int sitter int int", "int bond int int", "int forger int", "int paint int int", "int scrape int",
        "int alter int int int", "int worth int int", "int like int int", "int go int", "int ahead int int int",
        "int when int int", "int even", "int many", "int mend int", "int cheap int int", "int next int", "int value int",
        "long share int int", "int looks int", "long alive int int", "long mean int int", "int see int int boolean",
        "int forget int", "int fits int", "int ask int", "int drift int int int", "int keep int", "int back int",
        "int sheet int int int", "int lay int int int", "int read int int int int", "int torn", "int count int"};

    public static void main(String[] args) {
        due.is("BAD", PartSitters.BAD, -1);
        due.is("STATE", PartSitters.STATE, -2);
        due.is("FULL", PartSitters.FULL, -3);
        due.is("NONE", PartSitters.NONE, -4);
        Class<?> face = PartSitters.class;
        due.is("public and final", face.getModifiers() & (Modifier.PUBLIC | Modifier.FINAL), Modifier.PUBLIC | Modifier.FINAL);
        methods(face);
        for (Field field : face.getDeclaredFields()) {
            boolean constant = Set.of("BAD", "STATE", "FULL", "NONE").contains(field.getName());
            int wanted = Modifier.PUBLIC | Modifier.STATIC | Modifier.FINAL;
            due.is("field " + field.getName(), field.getModifiers() & ~Modifier.FINAL & ~Modifier.STATIC,
                    constant ? Modifier.PUBLIC : Modifier.PRIVATE);
            due.is("field " + field.getName() + " is final", !constant || (field.getModifiers() & wanted) == wanted ? 1 : 0, 1);
        }
        Constructor<?>[] made = face.getDeclaredConstructors();
        due.is("constructors", made.length, 1);
        due.is("public", made[0].getModifiers(), Modifier.PUBLIC);
        due.is("of nothing", made[0].getParameterCount(), 0);
        for (Class<?> inside : face.getDeclaredClasses()) {
            due.is(inside + " is static", Modifier.isStatic(inside.getModifiers()) ? 1 : 0, 1);
            due.is(inside + " is not public", inside.getModifiers() & (Modifier.PUBLIC | Modifier.PROTECTED), 0);
        }
        due.close();
    }

    private static void methods(Class<?> face) {
        Set<String> wanted = new TreeSet<>(Arrays.asList(FACE));
        Set<String> names = new TreeSet<>();
        for (String line : FACE) {
            names.add(line.split(" ")[1]);
        }
        Set<String> found = new TreeSet<>();
        for (Method method : face.getDeclaredMethods()) {
            StringBuilder line = new StringBuilder(method.getReturnType() + " " + method.getName());
            for (Class<?> type : method.getParameterTypes()) {
                line.append(' ').append(type);
            }
            if (Modifier.isPublic(method.getModifiers())) {
                found.add(line.toString());
                due.is(line + " is the object's", method.getModifiers(), Modifier.PUBLIC);
            } else {
                due.is(line + " is private", Modifier.isPrivate(method.getModifiers()) ? 1 : 0, 1);
                due.is(line + " has a name of its own", names.contains(method.getName()) ? 1 : 0, 0);
            }
        }
        due.is("methods " + found, found.equals(wanted) ? 1 : 0, 1);
    }
}
