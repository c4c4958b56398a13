import java.lang.reflect.Constructor;
import java.lang.reflect.Field;
import java.lang.reflect.Method;
import java.lang.reflect.Modifier;
import java.util.Arrays;
import java.util.Set;
import java.util.TreeSet;

/** Promise 1, and that the face is the document's, with nothing beside it. */
public final class FaceTest {
    private static final String[] METHODS = {
        "int feed(int, int, int, int, int)", "boolean end(int)", "int yard()", "int law()", "int fault()",
        "int street(int, int)", "int mix(int, int)", "int cart(int, int)", "int mesh(int)", "int contract(int, int)",
        "int heap(int)", "int way(int, int)", "int days(int)", "int tip(int)", "int buy(int)",
        "int take(int, int, int, int)", "void drop(int)", "int hire(int, int)", "int lay(int, int, int)",
        "boolean douse()", "int fill(int)", "int classes(int)", "int classOf(int, int)", "int held(int, int)",
        "int fewest()", "int clean(int, int)", "int round()", "int trips(int)", "int worth()", "int serves()",
        "int blend(int, int, int, int)", "int from()", "int likely()", "int ask()", "int meshes(boolean)",
        "int sift()", "int ends()", "int side()", "int pairs(int)", "int share(int, int)", "int rests(int)",
        "int odds(int, int)", "int most(int)", "int open(boolean)", "int twins()", "int wanted(int)",
        "int ahead(int, int)", "int trial(int, boolean)", "int span(int, boolean)", "int led(int, boolean)",
        "int log(int, int)", "int seed(int)", "boolean undo()", "void image()", "boolean back()", "int count(int)",
    };

    private FaceTest() {
    }

    private static String told(Method method) {
        StringBuilder out = new StringBuilder();
        out.append(method.getReturnType()).append(' ').append(method.getName()).append('(');
        for (Class<?> parameter : method.getParameterTypes()) {
            out.append(out.charAt(out.length() - 1) == '(' ? "" : ", ").append(parameter);
        }
        return out.append(')').toString();
    }

    public static void main(String[] args) {
        Class<?> face = DustYard.class;
        Check.is("public and final", Modifier.isPublic(face.getModifiers()) && Modifier.isFinal(face.getModifiers()), true);
        Set<String> found = new TreeSet<>();
        Set<String> names = new TreeSet<>();
        for (Method method : face.getDeclaredMethods()) {
            if (!Modifier.isPrivate(method.getModifiers())) {
                found.add(told(method));
                names.add(method.getName());
            }
        }
        Check.same("the face", found.toString(), new TreeSet<>(Arrays.asList(METHODS)).toString());
        for (Method method : face.getDeclaredMethods()) {
            if (Modifier.isPrivate(method.getModifiers())) {
                Check.is("private " + method.getName() + " bears a public name", names.contains(method.getName()), false);
            }
        }
        for (Field field : face.getDeclaredFields()) {
            boolean isNone = field.getName().equals("NONE");
            Check.is(field.getName() + " is private", Modifier.isPrivate(field.getModifiers()), !isNone);
        }
        Constructor<?>[] constructors = face.getDeclaredConstructors();
        Check.is("constructors", constructors.length, 1);
        Check.is("the constructor is public", Modifier.isPublic(constructors[0].getModifiers()), true);
        Check.is("NONE", DustYard.NONE, -1);
        newYard();
        Check.end();
    }

    private static void newYard() {
        DustYard yard = new DustYard();
        int[] due = {0, 0, 0, 0, 0, -1, 0, 0, 0, 0, 0, 0, 0};
        for (int what = 0; what < due.length; what++) {
            Check.is("new: count(" + what + ")", yard.count(what), due[what]);
        }
        for (int grain = 1; grain <= 6; grain++) {
            Check.is("new: heap(" + grain + ")", yard.heap(grain), 0);
        }
        Check.is("new: seed", yard.seed(7), 1);
        Check.is("new: fault", yard.fault(), -1);
        Check.is("new: back", yard.back(), false);
        Check.is("new: undo", yard.undo(), false);
        Check.is("new: log", yard.log(0, 0), -2);
        Check.is("new: the tape is empty", yard.end(1), false);
        Check.is("another object is another yard", new DustYard().seed(1), 1);
    }
}
