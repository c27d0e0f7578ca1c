import java.lang.reflect.Constructor;
import java.lang.reflect.Field;
import java.lang.reflect.Method;
import java.lang.reflect.Modifier;
import java.util.Set;
import java.util.TreeSet;

/** The public face, and nothing beside it that is not private. */
public final class FaceTest {
    private static final Checks CHECKS = new Checks("FaceTest");

    public static void main(String[] args) {
        Class<?> face = TinyFloats.class;
        CHECKS.dueTrue("the class is public and final",
                Modifier.isPublic(face.getModifiers()) && Modifier.isFinal(face.getModifiers()));
        CHECKS.dueTrue("it has no nested class", face.getDeclaredClasses().length == 0);
        CHECKS.due("BAD_ARG", TinyFloats.BAD_ARG, -1);
        methodsAreThoseOfTheDocument(face);
        constructorIsTheOnlyOne(face);
        fieldsArePrivateButForTheConstant(face);
        CHECKS.finish();
    }

    private static void methodsAreThoseOfTheDocument(Class<?> face) {
        Set<String> due = new TreeSet<>(Set.of("mode 1", "notes 0", "clear 0", "add 2", "subtract 2",
                "multiply 2", "divide 2", "root 1", "together 3", "compare 2", "from 1", "whole 1",
                "pile 1", "pileProduct 2", "store 1"));
        Set<String> seen = new TreeSet<>();
        Set<String> names = new TreeSet<>();
        for (Method method : face.getDeclaredMethods()) {
            if (Modifier.isPublic(method.getModifiers())) {
                seen.add(method.getName() + " " + method.getParameterCount());
                names.add(method.getName());
                CHECKS.dueTrue(method + " answers an int", method.getReturnType() == int.class);
                CHECKS.dueTrue(method + " is not static", !Modifier.isStatic(method.getModifiers()));
                for (Class<?> type : method.getParameterTypes()) {
                    CHECKS.dueTrue(method + " takes ints", type == int.class);
                }
            }
        }
        CHECKS.dueTrue("the public methods are " + due + ", not " + seen, due.equals(seen));
        for (Method method : face.getDeclaredMethods()) {
            if (!Modifier.isPublic(method.getModifiers())) {
                CHECKS.dueTrue(method + " is private", Modifier.isPrivate(method.getModifiers()));
                CHECKS.dueTrue(method + " has a name of its own", !names.contains(method.getName()));
            }
        }
    }

    private static void constructorIsTheOnlyOne(Class<?> face) {
        Constructor<?>[] constructors = face.getDeclaredConstructors();
        CHECKS.due("the number of constructors", constructors.length, 1);
        CHECKS.due("its parameters", constructors[0].getParameterCount(), 0);
        CHECKS.dueTrue("it is public", Modifier.isPublic(constructors[0].getModifiers()));
    }

    private static void fieldsArePrivateButForTheConstant(Class<?> face) {
        for (Field field : face.getDeclaredFields()) {
            int modifiers = field.getModifiers();
            boolean isTheConstant = field.getName().equals("BAD_ARG");
            CHECKS.dueTrue(field + " is private, or BAD_ARG and public",
                    isTheConstant ? Modifier.isPublic(modifiers) : Modifier.isPrivate(modifiers));
            if (Modifier.isStatic(modifiers)) {
                CHECKS.dueTrue(field + " is a constant int or long", Modifier.isFinal(modifiers)
                        && (field.getType() == int.class || field.getType() == long.class));
            }
        }
    }
}
