import java.lang.reflect.Field;
import java.lang.reflect.Method;
import java.lang.reflect.Modifier;
import java.util.Arrays;
import java.util.Set;
import java.util.TreeSet;

/** The public face: the document's members, and no other one that is not private. */
public final class FaceTest {
    public static void main(String[] args) {
        constants();
        methods();
        fields();
        Class<?> c = PageRenderer.class;
        Check.due("public", Modifier.isPublic(c.getModifiers()), true);
        Check.due("final", Modifier.isFinal(c.getModifiers()), true);
        Check.due("nested classes", c.getDeclaredClasses().length, 0);
        Check.due("constructors", c.getDeclaredConstructors().length, 1);
        Check.due("public constructors", c.getConstructors().length, 1);
        Check.finish("FaceTest");
    }

    private static void constants() {
        Check.due("OK", PageRenderer.OK, 0);
        Check.due("OPERANDS", PageRenderer.OPERANDS, 1);
        Check.due("TIME", PageRenderer.TIME, 2);
        Check.due("RANGE", PageRenderer.RANGE, 3);
        Check.due("NOPOINT", PageRenderer.NOPOINT, 4);
        Check.due("LONG", PageRenderer.LONG, 5);
        Check.due("NEST", PageRenderer.NEST, 6);
    }

    private static void methods() {
        Set<String> want = new TreeSet<>(Arrays.asList(
            "boolean token(int, int)", "int wipe()", "boolean commit(int)", "int revert()", "int size(int)",
            "int render()", "int renderAt(int)", "int faultAt()", "int used()", "int pixel(int, int)",
            "int by(int, int)", "int count(int)", "int row(int)"));
        Set<String> got = new TreeSet<>();
        Set<String> names = new TreeSet<>();
        for (Method m : PageRenderer.class.getDeclaredMethods()) {
            if (!Modifier.isPrivate(m.getModifiers())) {
                String types = Arrays.toString(m.getParameterTypes()).replaceAll("[\\[\\]]", "");
                got.add(m.getReturnType() + " " + m.getName() + "(" + types + ")");
                names.add(m.getName());
            }
        }
        Check.due("methods " + got, got.equals(want), true);
        for (Method m : PageRenderer.class.getDeclaredMethods()) {
            if (Modifier.isPrivate(m.getModifiers())) {
                Check.due("private method named as a public one: " + m.getName(), names.contains(m.getName()), false);
                Check.due("too many parameters: " + m.getName(), m.getParameterCount() <= 7, true);
            }
        }
    }

    private static void fields() {
        Set<String> want = new TreeSet<>(Arrays.asList(
            "OK", "OPERANDS", "TIME", "RANGE", "NOPOINT", "LONG", "NEST"));
        Set<String> got = new TreeSet<>();
        int own = 0;
        for (Field f : PageRenderer.class.getDeclaredFields()) {
            int is = f.getModifiers();
            boolean constant = Modifier.isStatic(is) && Modifier.isFinal(is);
            if (!Modifier.isPrivate(is)) {
                got.add(f.getName());
                Check.due(f.getName() + " is a public constant", constant && Modifier.isPublic(is), true);
            }
            if (Modifier.isStatic(is)) {
                Check.due(f.getName() + " is a constant number", constant && f.getType() == int.class, true);
            } else {
                own++;
            }
        }
        Check.due("fields " + got, got.equals(want), true);
        Check.due("fields beside the constants: " + own, own <= 40, true);
    }
}
