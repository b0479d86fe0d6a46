import java.lang.reflect.Constructor;
import java.lang.reflect.Field;
import java.lang.reflect.Method;
import java.lang.reflect.Modifier;
import java.util.Arrays;
import java.util.List;
import java.util.Set;
import java.util.TreeSet;

/** The public face: the document's members, all of them and no others. */
public final class FaceTests {
    private static final List<String> METHODS = List.of("addSensor/6", "addDerived/3", "addOutage/3", "subscribe/3",
            "unsubscribe/1", "setCapacity/1", "append/1", "clearText/0", "load/0", "advance/1", "flush/0", "undo/0",
            "count/1", "wakes/1", "sensor/2", "client/2", "entry/2", "delivered/3", "nextDeadline/0",
            "forecastWakes/2", "smallestCapacity/1", "tightestClient/1");

    public static void main(String[] args) {
        Check check = new Check("FaceTests");
        constants(check);
        methods(check);
        members(check);
        check.finish();
    }

    private static void constants(Check check) {
        check.test("constants");
        check.due("INVALID_ARGUMENT", SensorHub.INVALID_ARGUMENT, -1);
        check.due("ILLEGAL_STATE", SensorHub.ILLEGAL_STATE, -2);
        check.due("CAPACITY_EXCEEDED", SensorHub.CAPACITY_EXCEEDED, -3);
        check.due("MISSING", SensorHub.MISSING, -8);
        check.due("NONE", SensorHub.NONE, -9);
        for (Field field : SensorHub.class.getFields()) {
            check.isTrue("constant " + field, Modifier.isStatic(field.getModifiers())
                    && Modifier.isFinal(field.getModifiers()) && field.getType() == int.class);
        }
        check.due("number of constants", SensorHub.class.getFields().length, 5);
    }

    private static void methods(Check check) {
        check.test("methods");
        Set<String> found = new TreeSet<>();
        for (Method method : SensorHub.class.getDeclaredMethods()) {
            if (Modifier.isPublic(method.getModifiers())) {
                found.add(method.getName() + "/" + method.getParameterCount());
                check.isTrue(method + " is of ints", method.getReturnType() == int.class
                        && Arrays.stream(method.getParameterTypes()).allMatch(type -> type == int.class));
            }
        }
        check.isTrue("the methods are those of the document, not " + found, found.equals(new TreeSet<>(METHODS)));
    }

    private static void members(Check check) {
        check.test("no other member");
        check.isTrue("public and final", Modifier.isPublic(SensorHub.class.getModifiers())
                && Modifier.isFinal(SensorHub.class.getModifiers()));
        Constructor<?>[] constructors = SensorHub.class.getDeclaredConstructors();
        check.due("constructors", constructors.length, 1);
        check.isTrue("public constructor", Modifier.isPublic(constructors[0].getModifiers())
                && constructors[0].getParameterCount() == 0);
        for (Field field : SensorHub.class.getDeclaredFields()) {
            check.isTrue(field + " is public or private", isPublicOrPrivate(field.getModifiers()));
        }
        for (Method method : SensorHub.class.getDeclaredMethods()) {
            check.isTrue(method + " is public or private", isPublicOrPrivate(method.getModifiers()));
        }
        for (Class<?> inside : SensorHub.class.getDeclaredClasses()) {
            check.isTrue(inside + " is static and not public", Modifier.isStatic(inside.getModifiers())
                    && !Modifier.isPublic(inside.getModifiers()) && !Modifier.isProtected(inside.getModifiers()));
        }
    }

    private static boolean isPublicOrPrivate(int modifiers) {
        return Modifier.isPublic(modifiers) || Modifier.isPrivate(modifiers);
    }
}
