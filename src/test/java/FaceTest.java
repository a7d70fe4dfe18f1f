import java.lang.reflect.Constructor;
import java.lang.reflect.Field;
import java.lang.reflect.Method;
import java.lang.reflect.Modifier;
import java.util.Map;
import java.util.Set;
import java.util.TreeMap;
import java.util.TreeSet;

/** The class shows the public face of the document and nothing else. */
public final class FaceTest {
    private static final Map<String, Integer> PARAMETERS = new TreeMap<>(Map.ofEntries(
            Map.entry("add", 2), Map.entry("row", 3), Map.entry("remove", 1), Map.entry("move", 2),
            Map.entry("origin", 3), Map.entry("direction", 3), Map.entry("boxes", 0),
            Map.entry("first", 0), Map.entry("firstTop", 0), Map.entry("firstBottom", 0),
            Map.entry("hit", 1), Map.entry("hits", 0), Map.entry("hitsBefore", 2),
            Map.entry("blocked", 2), Map.entry("leaveTop", 1), Map.entry("leaveBottom", 1),
            Map.entry("around", 3), Map.entry("meeting", 2), Map.entry("touching", 0),
            Map.entry("nearest", 3)));

    public static void main(String[] args) {
        classIsPublicAndFinal();
        constructorIsAlone();
        methodsAreThoseOfTheDocument();
        fieldsArePrivate();
        Due.finish();
    }

    private static void classIsPublicAndFinal() {
        int modifiers = BvhTracer.class.getModifiers();
        Due.holds("the class is public", Modifier.isPublic(modifiers));
        Due.holds("the class is final", Modifier.isFinal(modifiers));
        Due.holds("the class has no package", BvhTracer.class.getPackageName().isEmpty());
        Due.is("nested classes", BvhTracer.class.getDeclaredClasses().length, 0);
    }

    private static void constructorIsAlone() {
        Constructor<?>[] all = BvhTracer.class.getDeclaredConstructors();
        Due.is("constructors", all.length, 1);
        Due.is("constructor's parameters", all[0].getParameterCount(), 0);
        Due.holds("the constructor is public", Modifier.isPublic(all[0].getModifiers()));
    }

    private static void methodsAreThoseOfTheDocument() {
        Set<String> seen = new TreeSet<>();
        for (Method method : BvhTracer.class.getDeclaredMethods()) {
            String name = method.getName();
            if (Modifier.isPrivate(method.getModifiers())) {
                Due.holds("private " + name + " has a name of its own", !PARAMETERS.containsKey(name));
                continue;
            }
            Due.holds(name + " is named once", seen.add(name));
            Due.holds(name + " is public", Modifier.isPublic(method.getModifiers()));
            Due.holds(name + " is not static", !Modifier.isStatic(method.getModifiers()));
            Due.holds(name + " answers an int", method.getReturnType() == int.class);
            Due.is(name + "'s parameters", method.getParameterCount(), PARAMETERS.getOrDefault(name, -1));
            for (Class<?> type : method.getParameterTypes()) {
                Due.holds(name + " takes ints", type == int.class);
            }
        }
        Due.holds("every method of the document is there", seen.equals(PARAMETERS.keySet()));
    }

    private static void fieldsArePrivate() {
        for (Field field : BvhTracer.class.getDeclaredFields()) {
            Due.holds(field.getName() + " is private", Modifier.isPrivate(field.getModifiers()));
        }
    }
}
