import java.lang.reflect.Constructor;
import java.lang.reflect.Field;
import java.lang.reflect.Member;
import java.lang.reflect.Method;
import java.lang.reflect.Modifier;
import java.util.Arrays;
import java.util.HashSet;
import java.util.NoSuchElementException;
import java.util.Set;
import java.util.TreeSet;

/** The document's face, no more and no less of it, and nothing but NoSuchElementException out of it. */
public final class TreeSchoolFace {
    private static final String[] FACE = {
        "int feed(int,int,int,int,int)", "boolean end(int)", "int grammar()", "int fault()", "int read()", "long trees()",
        "int signs(int,int)", "int sign(int,int,int,int) NoSuchElementException",
        "long times(int,int,int) NoSuchElementException", "int tree(int)", "int node(int,int) NoSuchElementException",
        "boolean bracket(int,int)", "int wipe()", "int slips()", "int mark()", "int held()", "int name(int)",
        "int category()", "int octet(int) NoSuchElementException", "int count(int)"};
    private static final int[] ODD = {0, 1, 2, -1, 3, 7, 14, 15, 60, 1540, 999999, 1000000, Integer.MAX_VALUE,
        Integer.MIN_VALUE};

    private static int wrong = 0;

    private static void complain(String what) {
        wrong++;
        System.out.println(what);
    }

    private static String told(Method m) {
        StringBuilder s = new StringBuilder(m.getReturnType().getSimpleName()).append(' ').append(m.getName()).append('(');
        for (Class<?> p : m.getParameterTypes()) {
            s.append(s.charAt(s.length() - 1) == '(' ? "" : ",").append(p.getSimpleName());
        }
        s.append(')');
        for (Class<?> e : m.getExceptionTypes()) {
            s.append(' ').append(e.getSimpleName());
        }
        return s.toString();
    }

    private static boolean isHidden(Member m) {
        return Modifier.isPrivate(m.getModifiers()) || m.isSynthetic();
    }

    private static void checkFace() {
        Set<String> got = new TreeSet<>();
        Set<String> open = new HashSet<>();
        Set<String> hidden = new HashSet<>();
        for (Method m : TreeSchool.class.getDeclaredMethods()) {
            if (isHidden(m)) {
                hidden.add(m.getName());
            } else {
                got.add(told(m));
                open.add(m.getName());
                if (m.getModifiers() != Modifier.PUBLIC) {
                    complain(m + " is not public alone");
                }
            }
        }
        for (Class<?> c : TreeSchool.class.getDeclaredClasses()) {
            if (!Modifier.isStatic(c.getModifiers()) || Modifier.isPublic(c.getModifiers())) {
                complain(c + " is not static, or public");
            }
            for (Method m : c.getDeclaredMethods()) {
                hidden.add(m.getName());
            }
        }
        if (!got.equals(new TreeSet<>(Arrays.asList(FACE)))) {
            complain("the face is " + got);
        }
        hidden.retainAll(open);
        if (!hidden.isEmpty()) {
            complain("methods inside bear a public one's name: " + hidden);
        }
        int modifiers = TreeSchool.class.getModifiers();
        if (!Modifier.isPublic(modifiers) || !Modifier.isFinal(modifiers)) {
            complain("the class is not public and final");
        }
    }

    private static void checkFields() throws ReflectiveOperationException {
        for (Field f : TreeSchool.class.getDeclaredFields()) {
            boolean constant = f.getName().equals("NONE");
            if (isHidden(f) == constant) {
                complain(f + " is not as visible as it should be");
            }
            if (Modifier.isStatic(f.getModifiers()) && !Modifier.isFinal(f.getModifiers())) {
                complain(f + " is static and not final");
            }
        }
        Field none = TreeSchool.class.getField("NONE");
        if (none.getInt(null) != -1 || none.getModifiers() != (Modifier.PUBLIC | Modifier.STATIC | Modifier.FINAL)) {
            complain("NONE is not the constant -1");
        }
        Constructor<?>[] made = TreeSchool.class.getDeclaredConstructors();
        if (made.length != 1 || made[0].getParameterCount() != 0 || !Modifier.isPublic(made[0].getModifiers())) {
            complain("the constructors are " + Arrays.toString(made));
        }
    }

    /** Every method with every odd number, in several states. */
    private static void checkOddCalls(TreeSchool x, String state) {
        for (Method m : TreeSchool.class.getDeclaredMethods()) {
            if (isHidden(m)) {
                continue;
            }
            for (int n = 0; n < ODD.length * ODD.length; n++) {
                Object[] args = new Object[m.getParameterCount()];
                for (int k = 0; k < args.length; k++) {
                    args[k] = ODD[(k % 2 == 0 ? n : n / ODD.length) % ODD.length];
                }
                try {
                    m.invoke(x, args);
                } catch (ReflectiveOperationException e) {
                    if (!(e.getCause() instanceof NoSuchElementException) || m.getExceptionTypes().length == 0) {
                        complain(state + ": " + m.getName() + Arrays.toString(args) + " threw " + e.getCause());
                    }
                }
            }
        }
    }

    private static void tell(TreeSchool x, String text) {
        x.end(0);
        for (int p = 0; p < text.length(); p += 20) {
            int[] n = new int[5];
            for (int k = 0; k < 20; k++) {
                n[k / 4] = n[k / 4] << 8 | (p + k < text.length() ? text.charAt(p + k) : 0);
            }
            x.feed(n[0], n[1], n[2], n[3], n[4]);
        }
        x.end(text.length());
    }

    public static void main(String[] args) throws ReflectiveOperationException {
        checkFace();
        checkFields();
        checkOddCalls(new TreeSchool(), "new");
        TreeSchool x = new TreeSchool();
        tell(x, "word a x 0 1;word a x;rule x=x x agree 0 0 2;rule y=x;");
        x.grammar();
        checkOddCalls(x, "with a grammar");
        tell(x, "a a a a a a a a a a a a a a");
        x.read();
        checkOddCalls(x, "with a sentence");
        x.tree(77);
        tell(x, "y");
        x.bracket(0, 14);
        checkOddCalls(x, "with a tree and a bracket");
        System.out.println(wrong == 0 ? "the face is as told" : wrong + " things are not as told");
        if (wrong != 0) {
            System.exit(1);
        }
    }
}
