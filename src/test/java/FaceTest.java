import java.lang.reflect.Constructor;
import java.lang.reflect.Field;
import java.lang.reflect.Method;
import java.lang.reflect.Modifier;
import java.util.ArrayList;
import java.util.Arrays;
import java.util.List;
import java.util.NoSuchElementException;

/** The public face, and that nothing else of the class can be seen (rules 1 and 5 of the language). */
public final class FaceTest {
    private static final Due due = new Due();

    /** Each method: what it answers, its name, how many ints it takes, and N, I for what it throws. */
    private static final String FACE = "int feed 5 -|int chapel 1 I|int fault 0 -|int count 1 N|int person 2 N|int pew 2 N|"
        + "int sundays 1 -|int come 1 N|int leave 1 N|boolean swap 2 N|int lie 2 N|int bar 2 N|int undo 0 -|int then 3 NI|"
        + "int who 3 I|int later 2 NI|int size 2 I|int front 2 NI|int first 1 N|int beside 2 N|int together 3 NI|int asNow 0 -|"
        + "int neighbours 2 NI|int more 2 N|int order 1 I|int longest 1 N|int toCome 2 N|int whose 1 N|int couples 1 N|"
        + "int see 3 N|void forget 0 -|int old 1 N|int look 1 N|int rain 3 NI|int game 3 NI|int years 3 NI|int ahead 2 NI|"
        + "int putBy 3 NI|int forward 3 NI|int spread 2 NI|int toLie 3 NI|int toBar 0 -|void image 0 -|boolean restore 0 -";

    public static void main(String[] args) {
        methods();
        members();
        nested();
        due.is("NONE", JuniorPews.NONE, -1);
        due.end("FaceTest");
    }

    private static void methods() {
        List<String> names = new ArrayList<>();
        for (String line : FACE.split("\\|")) {
            String[] part = line.split(" ");
            names.add(part[1]);
            Class<?>[] takes = new Class<?>[Integer.parseInt(part[2])];
            Arrays.fill(takes, int.class);
            String told = "none";
            try {
                Method method = JuniorPews.class.getMethod(part[1], takes);
                List<Class<?>> thrown = Arrays.asList(method.getExceptionTypes());
                String letters = (thrown.contains(NoSuchElementException.class) ? "N" : "")
                    + (thrown.contains(IllegalArgumentException.class) ? "I" : "");
                told = method.getReturnType().getSimpleName() + " " + (letters.isEmpty() ? "-" : letters);
            } catch (NoSuchMethodException e) {
                // told stays none
            }
            due.is("face: " + line + " is " + told, told.equals(part[0] + " " + part[3]), true);
        }
        for (Method method : JuniorPews.class.getDeclaredMethods()) {
            boolean isPublic = Modifier.isPublic(method.getModifiers());
            due.is("method " + method.getName() + " is of the face", names.contains(method.getName()), isPublic);
            due.is("method " + method.getName() + " is private", Modifier.isPrivate(method.getModifiers()), !isPublic);
        }
    }

    private static void members() {
        int modifiers = JuniorPews.class.getModifiers();
        due.is("public and final", Modifier.isPublic(modifiers) && Modifier.isFinal(modifiers), true);
        Constructor<?>[] constructors = JuniorPews.class.getDeclaredConstructors();
        due.is("one constructor", constructors.length, 1);
        due.is("without parameters", constructors[0].getParameterCount(), 0);
        due.is("public", Modifier.isPublic(constructors[0].getModifiers()), true);
        for (Field field : JuniorPews.class.getDeclaredFields()) {
            boolean isFace = field.getName().equals("NONE");
            due.is("field " + field.getName() + " is private", Modifier.isPrivate(field.getModifiers()), !isFace);
        }
    }

    private static void nested() {
        Class<?>[] all = JuniorPews.class.getDeclaredClasses();
        due.is("some twelve classes", all.length <= 11, true);
        for (Class<?> one : all) {
            due.is(one.getSimpleName() + " is static", Modifier.isStatic(one.getModifiers()), true);
            due.is(one.getSimpleName() + " is not public",
                Modifier.isPublic(one.getModifiers()) || Modifier.isProtected(one.getModifiers()), false);
            int own = 0;
            for (Field field : one.getDeclaredFields()) {
                boolean isStatic = Modifier.isStatic(field.getModifiers());
                due.is(field + ": static is final", !isStatic || Modifier.isFinal(field.getModifiers()), true);
                own += isStatic ? 0 : 1;
            }
            due.is(one.getSimpleName() + " has some twenty fields", own <= 20, true);
        }
    }
}
