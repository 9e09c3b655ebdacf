import java.lang.reflect.Constructor;
import java.lang.reflect.Field;
import java.lang.reflect.Method;
import java.lang.reflect.Modifier;
import java.util.ArrayList;
import java.util.Arrays;
import java.util.HashSet;
import java.util.List;
import java.util.Set;
import java.util.TreeSet;

/** The public face, and what of LANGUAGE.md the compiled class shows. */
public final class FaceTest {
    private static final List<String> MEMBERS = Arrays.asList(
            "public static final int ADD",
            "public static final int SUB",
            "public static final int MUL",
            "public static final int DIV",
            "public static final int INEXACT",
            "public static final int ROUNDED",
            "public static final int BY_ZERO",
            "public static final int RANGE",
            "public static final int BAD",
            "public DecimalUnit(int)",
            "public boolean mode(int)",
            "public boolean set(int,int,int)",
            "public int coefficient(int)",
            "public int exponent(int)",
            "public int apply(int,int,int,int)",
            "public int fused(int,int,int,int)",
            "public int quantise(int,int,int)",
            "public int compare(int,int)",
            "public int flags()",
            "public int lower()");
    private static final Set<Class<?>> TYPES = new HashSet<>(Arrays.asList(
            int.class, long.class, short.class, byte.class, char.class, boolean.class,
            int[].class, long[].class, short[].class, byte[].class, char[].class, boolean[].class));

    public static void main(String[] args) throws Exception {
        publicMembers();
        privateMembers();
        constants();
        Check.end();
    }

    private static void publicMembers() {
        Set<String> found = new TreeSet<>();
        for (Field f : DecimalUnit.class.getDeclaredFields()) {
            if (!Modifier.isPrivate(f.getModifiers())) {
                found.add(f.toGenericString().replace("DecimalUnit.", ""));
            }
        }
        for (Constructor<?> c : DecimalUnit.class.getDeclaredConstructors()) {
            found.add(c.toGenericString());
        }
        for (Method m : DecimalUnit.class.getDeclaredMethods()) {
            if (!Modifier.isPrivate(m.getModifiers())) {
                found.add(m.toGenericString().replace("DecimalUnit.", ""));
            }
        }
        Set<String> asked = new TreeSet<>(MEMBERS);
        if (!found.equals(asked)) {
            Check.fail("the members are " + found + ", due are " + asked);
        }
        int modifiers = DecimalUnit.class.getModifiers();
        Check.due("the class is public and final", modifiers, Modifier.PUBLIC | Modifier.FINAL);
        Check.due("its superclass is Object", DecimalUnit.class.getSuperclass() == Object.class, true);
        Check.due("its interfaces", DecimalUnit.class.getInterfaces().length, 0);
        Check.due("its nested classes", DecimalUnit.class.getDeclaredClasses().length, 0);
    }

    private static void privateMembers() {
        Set<String> names = new HashSet<>();
        List<String> twice = new ArrayList<>();
        for (Method m : DecimalUnit.class.getDeclaredMethods()) {
            if (!names.add(m.getName())) {
                twice.add(m.getName());
            }
            Check.due("parameters of " + m.getName() + " are at most seven", m.getParameterCount() <= 7, true);
            for (Class<?> type : m.getParameterTypes()) {
                Check.due("type of a parameter of " + m.getName(), TYPES.contains(type), true);
            }
            Class<?> answer = m.getReturnType();
            Check.due("type of " + m.getName(), answer == void.class || answer.isPrimitive(), true);
        }
        Check.due("methods that share a name " + twice, twice.size(), 0);
        for (Field f : DecimalUnit.class.getDeclaredFields()) {
            Check.due("type of the field " + f.getName(), TYPES.contains(f.getType()), true);
            if (Modifier.isStatic(f.getModifiers())) {
                boolean whole = f.getType() == int.class || f.getType() == long.class;
                Check.due(f.getName() + " is a constant", whole && Modifier.isFinal(f.getModifiers()), true);
            }
        }
    }

    private static void constants() throws Exception {
        int[] values = {0, 1, 2, 3, 1, 2, 4, 8, -1};
        for (int i = 0; i < values.length; i++) {
            String member = MEMBERS.get(i);
            String name = member.substring(member.lastIndexOf(' ') + 1);
            Check.due(name, DecimalUnit.class.getField(name).getInt(null), values[i]);
        }
    }
}
