import java.lang.reflect.Constructor;
import java.lang.reflect.Field;
import java.lang.reflect.Method;
import java.lang.reflect.Modifier;
import java.util.Arrays;
import java.util.List;
import java.util.Set;
import java.util.TreeSet;

/** "The public face": the class has just the one that the document tells, no more and no less. */
public final class FaceTest {
    private static final List<String> METHODS = List.of(
        "int feed(int,int,int,int,int)", "int law(int) IAE", "int fault()", "int force(int) IAE",
        "int words(int,int,int,int,int,int) IAE", "boolean lets(int,int,int) IAE",
        "int pass(int,int,int,int,boolean) IAE", "int hand(int,int) NSEE IAE", "int value(int) IAE",
        "int purse(int,int) NSEE IAE", "boolean fact(int,int,boolean) NSEE IAE", "int harm(int,int) IAE",
        "int holder()", "int name(int,int) NSEE IAE", "int claim(int) NSEE", "int whom(int) NSEE",
        "int pays(int) NSEE", "int bears(int) NSEE", "boolean must(int) NSEE", "int frees(int) NSEE",
        "int question(int,int,int) NSEE IAE", "int inCase(int,int) NSEE IAE", "int sure(int) NSEE",
        "int cases(int) NSEE", "int hangs(int) NSEE", "int least()", "int find(int,boolean) NSEE",
        "int title()", "int found(int,int) NSEE IAE", "int put(int,int) IAE", "int share(int,int) IAE",
        "int judge(int,int) NSEE IAE", "int wrong()", "int parting(int,int) IAE",
        "int beside(int,int) NSEE IAE", "int image()", "int restore()", "int count(int)");

    public static void main(String[] args) throws Exception {
        Set<String> methods = new TreeSet<>();
        Set<String> hidden = new TreeSet<>();
        Set<String> visible = new TreeSet<>();
        for (Method m : KeepingHands.class.getDeclaredMethods()) {
            if (Modifier.isPrivate(m.getModifiers())) {
                hidden.add(m.getName());
            } else {
                methods.add(told(m));
                visible.add(m.getName());
            }
        }
        same("methods", new TreeSet<>(METHODS).toString(), methods.toString());
        hidden.retainAll(visible);
        same("private methods with public names", "[]", hidden.toString());
        same("class", "public final", Modifier.toString(KeepingHands.class.getModifiers()));
        StringBuilder constructors = new StringBuilder();
        for (Constructor<?> c : KeepingHands.class.getDeclaredConstructors()) {
            constructors.append(c);
        }
        same("constructors", "public KeepingHands()", constructors.toString());
        fields();
        Check.due("NONE", -1, () -> KeepingHands.NONE);
        Check.end();
    }

    private static void fields() {
        for (Field f : KeepingHands.class.getDeclaredFields()) {
            boolean isNone = f.getName().equals("NONE");
            boolean isPrivate = Modifier.isPrivate(f.getModifiers());
            same("field " + f.getName(), String.valueOf(!isNone), String.valueOf(isPrivate));
            if (isNone) {
                same("NONE", "public static final int KeepingHands.NONE", f.toString());
            }
        }
    }

    private static String told(Method m) {
        StringBuilder out = new StringBuilder(m.getReturnType().getName()).append(' ').append(m.getName()).append('(');
        out.append(String.join(",", Arrays.stream(m.getParameterTypes()).map(Class::getName).toList())).append(')');
        for (Class<?> e : m.getExceptionTypes()) {
            out.append(e == IllegalArgumentException.class ? " IAE" : " NSEE");
        }
        return out.toString();
    }

    private static void same(String what, String want, String got) {
        if (!want.equals(got)) {
            System.out.println(what + ": " + got + ", due is " + want);
            System.exit(1);
        }
    }
}
