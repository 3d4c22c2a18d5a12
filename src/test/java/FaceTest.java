import java.lang.reflect.Constructor;
import java.lang.reflect.Field;
import java.lang.reflect.Method;
import java.lang.reflect.Modifier;
import java.util.Arrays;
import java.util.HashSet;
import java.util.Set;
import java.util.TreeSet;

/** The public face of the document, and the rules of the language that a compiled class shows. */
public final class FaceTest {
    private static int wrong = 0;

    private static void due(String what, Object got, Object want) {
        if (!got.equals(want)) {
            wrong++;
            System.out.println(what + " is " + got + ", due is " + want);
        }
    }

    private static Set<String> publicMethods() {
        Set<String> found = new TreeSet<>();
        for (Method m : TemplateShop.class.getDeclaredMethods()) {
            if (Modifier.isPublic(m.getModifiers())) {
                String takes = Arrays.toString(m.getParameterTypes());
                found.add(m.getReturnType() + " " + m.getName() + takes);
            }
        }
        return found;
    }

    private static Set<String> publicConstants() throws IllegalAccessException {
        Set<String> found = new TreeSet<>();
        for (Field f : TemplateShop.class.getDeclaredFields()) {
            if (Modifier.isPublic(f.getModifiers())) {
                due(f.getName() + " static and final", isConstant(f), true);
                found.add(f.getType() + " " + f.getName() + " " + f.get(null));
            }
        }
        return found;
    }

    private static boolean isConstant(Field f) {
        return Modifier.isStatic(f.getModifiers()) && Modifier.isFinal(f.getModifiers());
    }

    private static boolean isPublicOrPrivate(int modifiers) {
        return Modifier.isPublic(modifiers) || Modifier.isPrivate(modifiers);
    }

    private static void face() throws IllegalAccessException {
        Set<String> methods = new TreeSet<>(Arrays.asList(
            "int token[int, int]", "int define[int]", "int forget[]", "int source[int]",
            "int place[]", "int size[int]", "int uses[int]", "int kinds[int, int]",
            "int depth[int]", "long at[int, int]", "int origin[int, int]",
            "int parent[int, int]", "int span[int, int]", "int run[int, int, int, int]",
            "int result[]", "int says[]", "int said[int]"));
        due("the public methods", publicMethods(), methods);
        Set<String> constants = new TreeSet<>(Arrays.asList("int OK 0", "int SHAPE -1",
            "int LARGE -2", "int BAD -3", "int FULL -4", "long NONE 100000000000"));
        due("the public constants", publicConstants(), constants);
        Constructor<?>[] constructors = TemplateShop.class.getDeclaredConstructors();
        due("the number of constructors", constructors.length, 1);
        due("the constructor's parameters", constructors[0].getParameterCount(), 0);
        due("constructor public", Modifier.isPublic(constructors[0].getModifiers()), true);
        due("class public", Modifier.isPublic(TemplateShop.class.getModifiers()), true);
        due("class final", Modifier.isFinal(TemplateShop.class.getModifiers()), true);
    }

    private static void hiddenMethods() {
        Set<String> names = new HashSet<>();
        for (Method m : TemplateShop.class.getDeclaredMethods()) {
            if (Modifier.isPublic(m.getModifiers())) {
                names.add(m.getName());
            }
        }
        for (Method m : TemplateShop.class.getDeclaredMethods()) {
            due(m.getName() + " public or private", isPublicOrPrivate(m.getModifiers()), true);
            due(m.getName() + " with few parameters", m.getParameterCount() <= 7, true);
            if (Modifier.isPrivate(m.getModifiers())) {
                due(m.getName() + " named as a public one", names.contains(m.getName()), false);
            }
            due(m.getName() + " answers an array", m.getReturnType().isArray(), false);
        }
    }

    private static void hiddenFields() {
        Set<Class<?>> types = new HashSet<>(Arrays.asList(int.class, long.class, short.class,
            byte.class, char.class, boolean.class));
        int count = 0;
        for (Field f : TemplateShop.class.getDeclaredFields()) {
            Class<?> type = f.getType();
            due(f.getName() + " public or private", isPublicOrPrivate(f.getModifiers()), true);
            if (Modifier.isStatic(f.getModifiers())) {
                due(f.getName() + " constant", isConstant(f), true);
                due(f.getName() + " number", type == int.class || type == long.class, true);
            } else {
                count++;
                Class<?> plain = type.isArray() ? type.getComponentType() : type;
                due(f.getName() + " of a plain type", types.contains(plain), true);
            }
        }
        due("at most forty fields", count <= 40, true);
    }

    public static void main(String[] args) throws IllegalAccessException {
        face();
        hiddenMethods();
        hiddenFields();
        due("nested classes", TemplateShop.class.getDeclaredClasses().length, 0);
        System.out.println(wrong == 0 ? "the face is as due" : wrong + " things are not as due");
        if (wrong != 0) {
            System.exit(1);
        }
    }
}
