import java.lang.reflect.Constructor;
import java.lang.reflect.Field;
import java.lang.reflect.Method;
import java.lang.reflect.Modifier;
import java.util.Set;
import java.util.TreeSet;

/** The public face: just the members of the document, and none that is seen from the package. */
public final class FaceTest {
    private static final String[] METHODS = {
        "int feed(int,int,int,int,int)",
        "boolean end(int)",
        "int sky() throws IllegalArgumentException,UnsupportedOperationException",
        "int law() throws IllegalArgumentException",
        "int fault()",
        "int place(int,int) throws IndexOutOfBoundsException,NoSuchElementException",
        "int pinner(int,int) throws IndexOutOfBoundsException,NoSuchElementException",
        "int rusts(int) throws IndexOutOfBoundsException",
        "int pin(int) throws IndexOutOfBoundsException,IllegalStateException",
        "int change(int) throws IndexOutOfBoundsException,IllegalStateException",
        "int go(int,int) throws IndexOutOfBoundsException,IllegalArgumentException",
        "int pull(int) throws IndexOutOfBoundsException,IllegalStateException",
        "int hand(int,int) throws IndexOutOfBoundsException,IllegalArgumentException,IllegalStateException",
        "int fell(int) throws IndexOutOfBoundsException",
        "int height(int) throws IllegalArgumentException",
        "int days(int) throws IllegalArgumentException",
        "int low()",
        "int held()",
        "int gives(boolean)",
        "int weakest()",
        "int key()",
        "int fewest(int)",
        "int first()",
        "int spare()",
        "int round(int,int,boolean) throws IndexOutOfBoundsException",
        "int goes(int) throws IndexOutOfBoundsException,IllegalArgumentException",
        "int before(int) throws IllegalArgumentException",
        "int seen(boolean) throws IllegalArgumentException",
        "int climb() throws IllegalArgumentException",
        "int duke()",
        "int pay(int) throws IllegalArgumentException",
        "int season()",
        "int best()",
        "int lasts()",
        "int stars(int,int) throws IndexOutOfBoundsException,IllegalArgumentException",
        "int longest()",
        "int ahead(int,int,boolean) throws IndexOutOfBoundsException,IllegalArgumentException",
        "int odds(int,int) throws IllegalArgumentException",
        "int needs(int) throws IllegalArgumentException",
        "int trial(int,boolean) throws IllegalArgumentException",
        "int span(int,boolean) throws IllegalArgumentException",
        "int led(int,boolean) throws IndexOutOfBoundsException",
        "int log(int,int) throws NoSuchElementException",
        "int seed(int)",
        "boolean undo()",
        "void image()",
        "boolean back()",
        "int count(int)",
    };

    public static void main(String[] args) {
        Set<String> seen = new TreeSet<>();
        Set<String> publicNames = new TreeSet<>();
        Set<String> privateNames = new TreeSet<>();
        for (Method method : PinnedSky.class.getDeclaredMethods()) {
            if (Modifier.isPrivate(method.getModifiers())) {
                privateNames.add(method.getName());
                continue;
            }
            publicNames.add(method.getName());
            Check.due(method + " is public", Modifier.isPublic(method.getModifiers()), true);
            seen.add(shape(method));
        }
        Check.due("the methods", seen, new TreeSet<>(Set.of(METHODS)));
        for (Class<?> inside : PinnedSky.class.getDeclaredClasses()) {
            Check.due(inside + " is static", Modifier.isStatic(inside.getModifiers()), true);
            Check.due(inside + " is public", Modifier.isPublic(inside.getModifiers()), false);
            for (Method method : inside.getDeclaredMethods()) {
                privateNames.add(method.getName());
            }
        }
        privateNames.retainAll(publicNames);
        Check.due("private methods with the name of a public one", privateNames, new TreeSet<String>());
        Set<String> fields = new TreeSet<>();
        for (Field field : PinnedSky.class.getDeclaredFields()) {
            if (!Modifier.isPrivate(field.getModifiers())) {
                fields.add(Modifier.toString(field.getModifiers()) + " " + field.getName());
            }
        }
        Check.due("the constants", fields, new TreeSet<>(Set.of("public static final NONE")));
        Constructor<?>[] made = PinnedSky.class.getDeclaredConstructors();
        Check.due("constructors", made.length, 1);
        Check.due("the constructor", made[0].toString(), "public PinnedSky()");
        Check.due("final", Modifier.isFinal(PinnedSky.class.getModifiers()), true);
        Check.due("NONE", PinnedSky.NONE, -1);
        Check.finish("FaceTest");
    }

    private static String shape(Method method) {
        StringBuilder shape = new StringBuilder(method.getReturnType() + " " + method.getName() + "(");
        for (int i = 0; i < method.getParameterCount(); i++) {
            shape.append(i == 0 ? "" : ",").append(method.getParameterTypes()[i]);
        }
        shape.append(")");
        for (int i = 0; i < method.getExceptionTypes().length; i++) {
            shape.append(i == 0 ? " throws " : ",").append(method.getExceptionTypes()[i].getSimpleName());
        }
        return shape.toString();
    }
}
