import java.lang.reflect.Constructor;
import java.lang.reflect.Field;
import java.lang.reflect.Method;
import java.lang.reflect.Modifier;
import java.util.Arrays;
import java.util.Set;
import java.util.TreeSet;

/**
 * The class has the face of the document, no more and no less, and its members
 * are such as LANGUAGE.md leaves. What its source must keep to is in LanguageTest.
 */
public final class FaceTest {
    private static final String[] FACE = {
        "int guard(int,long)", "int compare(int,int,int)", "int oppose(int)", "int skip()", "int fail()",
        "int assign(int,int)", "int sequence(int,int)", "int choice(int,int)", "int loop(int,int)",
        "int programs()", "long ends(int,int)", "long sure(int)", "long demand(int,long)",
        "long weakDemand(int,long)", "long image(int,long)", "int refines(int,int)", "int settled(int)",
        "int widest(int)",
    };
    private static int wrong = 0;

    public static void main(String[] args) {
        Class<?> type = GuardedCommands.class;
        check(Modifier.isPublic(type.getModifiers()) && Modifier.isFinal(type.getModifiers()), "public and final");
        check(type.getSuperclass() == Object.class && type.getInterfaces().length == 0, "a plain class");
        check(type.getPackageName().isEmpty(), "no package");
        check(type.getDeclaredClasses().length == 0, "no nested class");
        constructors(type);
        methods(type);
        fields(type);
        System.out.println(wrong == 0 ? "the face is as due" : wrong + " things are not as due");
        if (wrong != 0) {
            System.exit(1);
        }
    }

    private static void check(boolean holds, String what) {
        if (!holds) {
            wrong++;
            System.out.println("not so: " + what);
        }
    }

    private static void constructors(Class<?> type) {
        Constructor<?>[] all = type.getDeclaredConstructors();
        check(all.length == 1 && all[0].getParameterCount() == 0 && Modifier.isPublic(all[0].getModifiers()),
                "one public constructor without arguments");
    }

    private static void methods(Class<?> type) {
        Set<String> open = new TreeSet<>();
        Set<String> openNames = new TreeSet<>();
        for (Method method : type.getDeclaredMethods()) {
            if (!Modifier.isPrivate(method.getModifiers())) {
                check(Modifier.isPublic(method.getModifiers()) && !Modifier.isStatic(method.getModifiers()),
                        method.getName() + " is public and not static");
                open.add(written(method));
                openNames.add(method.getName());
            }
            check(method.getParameterCount() <= 7, method.getName() + " takes at most seven parameters");
            check(method.getExceptionTypes().length == 0, method.getName() + " throws nothing");
            check(!method.getReturnType().isArray(), method.getName() + " answers no array");
        }
        check(open.equals(new TreeSet<>(Arrays.asList(FACE))), "the public methods are those of the document: " + open);
        for (Method method : type.getDeclaredMethods()) {
            check(!Modifier.isPrivate(method.getModifiers()) || !openNames.contains(method.getName()),
                    "private " + method.getName() + " does not bear the name of a public method");
        }
    }

    private static String written(Method method) {
        StringBuilder text = new StringBuilder(method.getReturnType() + " " + method.getName() + "(");
        for (Class<?> parameter : method.getParameterTypes()) {
            text.append(text.charAt(text.length() - 1) == '(' ? "" : ",").append(parameter);
        }
        return text.append(")").toString();
    }

    private static void fields(Class<?> type) {
        int changing = 0;
        for (Field field : type.getDeclaredFields()) {
            int modifiers = field.getModifiers();
            Class<?> held = field.getType();
            Class<?> plain = held.isArray() ? held.getComponentType() : held;
            check(Modifier.isPrivate(modifiers), field.getName() + " is private");
            check(plain.isPrimitive() && plain != float.class && plain != double.class,
                    field.getName() + " holds whole numbers");
            if (Modifier.isStatic(modifiers)) {
                check(Modifier.isFinal(modifiers) && (held == int.class || held == long.class),
                        field.getName() + " is a constant of int or long");
            } else {
                changing++;
            }
        }
        check(changing <= 40, "at most forty fields");
    }
}
