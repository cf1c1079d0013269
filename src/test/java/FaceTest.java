import java.lang.reflect.Constructor;
import java.lang.reflect.Field;
import java.lang.reflect.Method;
import java.lang.reflect.Modifier;
import java.util.Arrays;
import java.util.Set;
import java.util.TreeSet;

/** The document's face: these members are public, no others are seen outside. */
public final class FaceTest {
    private static final String[] FACE = {
        "int another(int) NoSuchElementException",
        "int assault(int) NoSuchElementException",
        "int better(int) NoSuchElementException",
        "int bought(int) NoSuchElementException",
        "int brother(int,int) NoSuchElementException",
        "int change(int,int,int) NoSuchElementException",
        "int cities(int,int,int) NoSuchElementException,IllegalArgumentException",
        "int cost(int) IllegalArgumentException",
        "int count(int) NoSuchElementException",
        "int deed(int,int) NoSuchElementException",
        "int fair() ",
        "int fault() ",
        "int feed(int,int,int,int,int) ",
        "void forget() ",
        "int friend(int,int) NoSuchElementException",
        "int game(int,int,int) NoSuchElementException,IllegalArgumentException",
        "int gift(int,int) NoSuchElementException",
        "int guarded(int) NoSuchElementException",
        "int highest(int) NoSuchElementException",
        "void image() ",
        "int land(int) IllegalArgumentException",
        "int least() ",
        "int loan(int) ",
        "int moved(int,int) NoSuchElementException,IllegalArgumentException",
        "int next(int) NoSuchElementException",
        "int odds(int,int,int) NoSuchElementException,IllegalArgumentException",
        "int parties(int) NoSuchElementException",
        "int plan(int,int) NoSuchElementException,IllegalArgumentException",
        "boolean restore() ",
        "int ruin() ",
        "int see(int,int) ",
        "int stays(int) NoSuchElementException",
        "int swap(int) NoSuchElementException",
        "int term(int) ",
        "int then(int,int) NoSuchElementException,IllegalArgumentException",
        "int undo() ",
        "int way(int,int) NoSuchElementException",
        "boolean wins(int,int) NoSuchElementException",
        "int years(int) ",
    };

    private FaceTest() {
    }

    public static void main(String[] args) {
        Set<String> found = new TreeSet<>();
        Set<String> names = new TreeSet<>();
        for (Method method : TurnBrothers.class.getDeclaredMethods()) {
            int modifiers = method.getModifiers();
            if (Modifier.isPublic(modifiers)) {
                found.add(told(method));
                names.add(method.getName());
            } else {
                Checks.same(method + " is private", true,
                        Modifier.isPrivate(modifiers) || method.isSynthetic());
            }
        }
        Checks.same("the face is " + found, true, found.equals(new TreeSet<>(Arrays.asList(FACE))));
        checkFields();
        checkConstructors();
        checkNested(names);
        Checks.finish();
    }

    private static String told(Method method) {
        StringBuilder text = new StringBuilder();
        text.append(method.getReturnType()).append(' ').append(method.getName()).append('(');
        String between = "";
        for (Class<?> type : method.getParameterTypes()) {
            text.append(between).append(type);
            between = ",";
        }
        text.append(") ");
        between = "";
        for (Class<?> type : method.getExceptionTypes()) {
            text.append(between).append(type.getSimpleName());
            between = ",";
        }
        return text.toString();
    }

    private static void checkFields() {
        for (Field field : TurnBrothers.class.getDeclaredFields()) {
            if (field.getName().equals("NONE")) {
                Checks.same("NONE is a public constant", Modifier.PUBLIC | Modifier.STATIC | Modifier.FINAL,
                        field.getModifiers());
            } else {
                Checks.same(field + " is private", true, Modifier.isPrivate(field.getModifiers()));
            }
        }
        Checks.same("NONE", -1, TurnBrothers.NONE);
    }

    private static void checkConstructors() {
        Constructor<?>[] constructors = TurnBrothers.class.getDeclaredConstructors();
        Checks.same("constructors", 1, constructors.length);
        Checks.same("the constructor is public", true, Modifier.isPublic(constructors[0].getModifiers()));
        Checks.same("its parameters", 0, constructors[0].getParameterCount());
        int modifiers = TurnBrothers.class.getModifiers();
        Checks.same("the class is public and final", true,
                Modifier.isPublic(modifiers) && Modifier.isFinal(modifiers));
    }

    /** LANGUAGE.md, 1: no private method bears the name of a public one; classes inside are static. */
    private static void checkNested(Set<String> names) {
        for (Class<?> inside : TurnBrothers.class.getDeclaredClasses()) {
            int modifiers = inside.getModifiers();
            Checks.same(inside + " is static, not public", true,
                    Modifier.isStatic(modifiers) && !Modifier.isPublic(modifiers));
            for (Method method : inside.getDeclaredMethods()) {
                Checks.same(method + " bears no public name", false, names.contains(method.getName()));
            }
        }
        for (Method method : TurnBrothers.class.getDeclaredMethods()) {
            if (!Modifier.isPublic(method.getModifiers())) {
                Checks.same(method + " bears no public name", false, names.contains(method.getName()));
            }
        }
    }
}
