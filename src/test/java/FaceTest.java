import java.lang.reflect.Constructor;
import java.lang.reflect.Field;
import java.lang.reflect.Method;
import java.lang.reflect.Modifier;
import java.util.Arrays;
import java.util.TreeSet;

/** The public face, and promise 1. */
public final class FaceTest {
    private static final String[] FACE = {
        "boolean doubt(int,boolean) IndexOutOfBoundsException",
        "boolean into(int,int) IndexOutOfBoundsException",
        "boolean row(int,int) IndexOutOfBoundsException IllegalArgumentException IllegalStateException",
        "boolean wear(int,int,int) IndexOutOfBoundsException IllegalArgumentException",
        "int chain(int) IndexOutOfBoundsException",
        "int chains()",
        "int coin(int,int,int) IndexOutOfBoundsException IllegalArgumentException IllegalStateException",
        "int count(int) IndexOutOfBoundsException",
        "int dies(int,int) IndexOutOfBoundsException",
        "int hoard() IllegalStateException",
        "int linked(int,int) IndexOutOfBoundsException",
        "int mean(int,int) IndexOutOfBoundsException",
        "int order(int,int) IndexOutOfBoundsException IllegalArgumentException",
        "int overlap(int,int,int) IndexOutOfBoundsException",
        "int ring(int) IndexOutOfBoundsException",
        "int rule() IllegalStateException",
        "int type(int) IndexOutOfBoundsException",
        "int unit(int,int,int,int) IllegalStateException",
    };

    public static void main(String[] args) {
        face();
        newObject();
        twoObjects();
        Check.done();
    }

    private static void face() {
        Check.same("NONE", DieGraphs.NONE, -1);
        Check.same("the class's modifiers", DieGraphs.class.getModifiers(), Modifier.PUBLIC | Modifier.FINAL);
        TreeSet<String> methods = new TreeSet<>();
        for (Method method : DieGraphs.class.getDeclaredMethods()) {
            if (!Modifier.isPrivate(method.getModifiers())) {
                methods.add(told(method));
            }
        }
        Check.same("the methods", methods.toString(), new TreeSet<>(Arrays.asList(FACE)).toString());
        for (Method method : DieGraphs.class.getDeclaredMethods()) {
            if (Modifier.isPrivate(method.getModifiers())) {
                Check.same("a public method named " + method.getName(), isFaceName(method.getName()), false);
            }
        }
        int seen = 0;
        for (Field field : DieGraphs.class.getDeclaredFields()) {
            seen += Modifier.isPrivate(field.getModifiers()) ? 0 : 1;
        }
        Check.same("fields that can be seen", seen, 1);
        Constructor<?>[] constructors = DieGraphs.class.getDeclaredConstructors();
        Check.same("constructors", constructors.length, 1);
        Check.same("the constructor's modifiers", constructors[0].getModifiers(), Modifier.PUBLIC);
        Check.same("the constructor's parameters", constructors[0].getParameterCount(), 0);
    }

    private static boolean isFaceName(String name) {
        for (String method : FACE) {
            if (method.contains(" " + name + "(")) {
                return true;
            }
        }
        return false;
    }

    private static String told(Method method) {
        StringBuilder text = new StringBuilder();
        text.append(method.getReturnType()).append(' ').append(method.getName()).append('(');
        for (int i = 0; i < method.getParameterCount(); i++) {
            text.append(i == 0 ? "" : ",").append(method.getParameterTypes()[i]);
        }
        text.append(')');
        for (Class<?> thrown : method.getExceptionTypes()) {
            text.append(' ').append(thrown.getSimpleName());
        }
        return text.toString();
    }

    private static void newObject() {
        DieGraphs x = new DieGraphs();
        for (int what = 0; what <= 5; what++) {
            Check.same("count(" + what + ") of a new object", x.count(what), 0);
        }
        Check.same("ring(0)", x.ring(0), -1);
        Check.same("chains()", x.chains(), 0);
        for (int die = 0; die < 32; die++) {
            Check.same("chain(" + die + ")", x.chain(die), die);
            Check.same("order with itself", x.order(die, die), 0);
        }
        Check.noIndex("type(0)", () -> x.type(0));
        Check.noIndex("into(0, 0)", () -> x.into(0, 0) ? 1 : 0);
        Check.noIndex("overlap(0, 0, 0)", () -> x.overlap(0, 0, 0));
    }

    private static void twoObjects() {
        DieGraphs x = new DieGraphs();
        DieGraphs y = new DieGraphs();
        x.coin(1, 17, 5);
        x.hoard();
        x.row(1, 2);
        x.row(2, 1);
        Check.rule(x, ":1");
        x.unit(65, 0, 0, 0);
        for (int what = 0; what <= 5; what++) {
            Check.same("count(" + what + ") of the other object", y.count(what), 0);
        }
        Check.same("ring(0) of the other object", y.ring(0), -1);
        Check.same("order(1, 2) of the other object", y.order(1, 2), 0);
    }
}
