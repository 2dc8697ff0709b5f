import java.lang.reflect.Constructor;
import java.lang.reflect.Field;
import java.lang.reflect.Method;
import java.lang.reflect.Modifier;
import java.util.HashSet;
import java.util.Set;

/** The public face of the document, and those rules of LANGUAGE.md that the compiled class shows. */
public final class FaceTest {
    private static final Class<TabledRules> THE_CLASS = TabledRules.class;

    public static void main(String[] args) {
        Check.test("one public and final class", FaceTest::classIsPlain);
        Check.test("NONE and FULL are all the constants to be seen", FaceTest::constants);
        Check.test("one constructor", FaceTest::constructor);
        Check.test("the methods of the document and no other to be seen", FaceTest::methods);
        Check.test("fields are of the allowed types, and few", FaceTest::fieldsAreAllowed);
        Check.test("at most seven parameters", FaceTest::parametersAreFew);
        Check.finish();
    }

    private static void classIsPlain() {
        Check.isTrue("public", Modifier.isPublic(THE_CLASS.getModifiers()));
        Check.isTrue("final", Modifier.isFinal(THE_CLASS.getModifiers()));
        Check.same("package", THE_CLASS.getPackageName(), "");
        Check.same("super class", THE_CLASS.getSuperclass(), Object.class);
        Check.same("interfaces", THE_CLASS.getInterfaces().length, 0);
        Check.same("nested classes", THE_CLASS.getDeclaredClasses().length, 0);
    }

    private static void constants() {
        Set<String> found = new HashSet<>();
        for (Field field : THE_CLASS.getDeclaredFields()) {
            if (!Modifier.isPrivate(field.getModifiers())) {
                found.add(field.toString());
            }
        }
        Check.same("constants", found, Set.of(
            "public static final int TabledRules.NONE",
            "public static final int TabledRules.FULL"));
        Check.same("NONE", TabledRules.NONE, -1);
        Check.same("FULL", TabledRules.FULL, -2);
    }

    private static void constructor() {
        Set<String> found = new HashSet<>();
        for (Constructor<?> one : THE_CLASS.getDeclaredConstructors()) {
            found.add(one.toString());
        }
        Check.same("constructors", found, Set.of("public TabledRules()"));
    }

    private static void methods() {
        Set<String> found = new HashSet<>();
        Set<String> publicNames = new HashSet<>();
        for (Method method : THE_CLASS.getDeclaredMethods()) {
            if (!Modifier.isPrivate(method.getModifiers())) {
                found.add(method.toString().replace("TabledRules.", ""));
                publicNames.add(method.getName());
            }
        }
        Check.same("methods", found, Set.of(
            "public boolean give(int,int,int,boolean)",
            "public int rule(int,int,int)",
            "public boolean drop(int)",
            "public int rules()",
            "public boolean holds(int,int,int)",
            "public int from(int,int)",
            "public int to(int,int)",
            "public int count(int)",
            "public boolean within(int,int)",
            "public boolean redundant(int)",
            "public int loss(int,int,int,int)",
            "public boolean transitive(int)"));
        for (Method method : THE_CLASS.getDeclaredMethods()) {
            boolean hidden = Modifier.isPrivate(method.getModifiers());
            Check.isFalse("private " + method.getName(), hidden && publicNames.contains(method.getName()));
        }
    }

    private static void fieldsAreAllowed() {
        int ownFields = 0;
        for (Field field : THE_CLASS.getDeclaredFields()) {
            Class<?> type = field.getType();
            if (Modifier.isStatic(field.getModifiers())) {
                Check.isTrue("constant " + field, Modifier.isFinal(field.getModifiers()));
                Check.isTrue("constant " + field, type == int.class || type == long.class);
            } else {
                ownFields++;
                Class<?> part = type.isArray() ? type.getComponentType() : type;
                Check.isTrue("type of " + field, isWhole(part));
            }
        }
        Check.isTrue("few fields", ownFields <= 40);
    }

    private static boolean isWhole(Class<?> type) {
        return type.isPrimitive() && type != float.class && type != double.class;
    }

    private static void parametersAreFew() {
        for (Method method : THE_CLASS.getDeclaredMethods()) {
            Check.isTrue("parameters of " + method.getName(), method.getParameterCount() <= 7);
        }
    }
}
