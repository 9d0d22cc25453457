import java.lang.reflect.Constructor;
import java.lang.reflect.Field;
import java.lang.reflect.Method;
import java.lang.reflect.Modifier;
import java.util.Set;
import java.util.TreeSet;

// The class shows the constants, the constructor and the methods of the document, and nothing else.
public final class SelectorGcFace {
    private static int wrong = 0;

    public static void main(String[] args) {
        Set<String> want = new TreeSet<>();
        String[] constants = {"COUNT", "CONS", "TAIL", "ADD", "MUL", "SCALE", "SCAN", "WEAVE", "MERGE"};
        for (int n = 0; n < constants.length; n++) {
            want.add("public static final int " + constants[n] + " = " + n);
        }
        want.add("public static final int BAD = -1");
        want.add("public static final int NONE = -2");
        want.add("public SelectorGc()");
        want.add("public boolean SelectorGc.define(int,int,int,int)");
        want.add("public boolean SelectorGc.ready(int,int)");
        want.add("public int SelectorGc.element(int,int)");
        want.add("public int SelectorGc.known(int)");
        want.add("public int SelectorGc.firstAbove(int,int)");
        want.add("public int SelectorGc.agree(int,int)");
        want.add("public int SelectorGc.kind(int)");
        want.add("public void SelectorGc.reset()");
        Set<String> got = visibleMembers();
        report("missing", want, got);
        report("not in the document", got, want);
        int modifiers = SelectorGc.class.getModifiers();
        if (!Modifier.isPublic(modifiers) || !Modifier.isFinal(modifiers)) {
            wrong++;
            System.out.println("the class is not public and final");
        }
        System.out.println(wrong == 0 ? "the public face is as due" : wrong + " faults in the public face");
        if (wrong != 0) {
            System.exit(1);
        }
    }

    private static Set<String> visibleMembers() {
        Set<String> members = new TreeSet<>();
        for (Field field : SelectorGc.class.getDeclaredFields()) {
            if (!Modifier.isPrivate(field.getModifiers())) {
                members.add(Modifier.toString(field.getModifiers()) + " " + field.getType() + " " + field.getName() + " = "
                    + valueOf(field));
            }
        }
        for (Constructor<?> constructor : SelectorGc.class.getDeclaredConstructors()) {
            if (!Modifier.isPrivate(constructor.getModifiers())) {
                members.add(constructor.toString());
            }
        }
        for (Method method : SelectorGc.class.getDeclaredMethods()) {
            if (!Modifier.isPrivate(method.getModifiers())) {
                members.add(method.toString());
            }
        }
        return members;
    }

    private static String valueOf(Field field) {
        try {
            return String.valueOf(field.get(null));
        } catch (ReflectiveOperationException | NullPointerException e) {
            return "not a constant";
        }
    }

    private static void report(String fault, Set<String> these, Set<String> those) {
        for (String member : these) {
            if (!those.contains(member)) {
                wrong++;
                System.out.println(fault + ": " + member);
            }
        }
    }
}
