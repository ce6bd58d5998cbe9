import java.lang.reflect.Constructor;
import java.lang.reflect.Executable;
import java.lang.reflect.Field;
import java.lang.reflect.Method;
import java.lang.reflect.Modifier;
import java.util.Set;
import java.util.TreeSet;

/** The public face: the document's constructor and methods with their exceptions, and no other member. */
public final class FaceTest {
    private static final String INDEX = "IndexOutOfBoundsException";
    private static final String ARGUMENT = "IllegalArgumentException";
    private static final String STATE = "IllegalStateException";

    private static final String[] FACE = {
        "int feed(int,int,int,int,int) " + STATE, "int trim(int) " + ARGUMENT, "int teach()", "int errorAt()",
        "int hedges()", "int roses()", "int day()", "int ordersCarriedOut()", "int whispers()", "int cycles()",
        "int departures()", "int hushOf(int) " + INDEX, "int heardBy(int) " + INDEX, "int latestOf(int) " + INDEX,
        "int listenersOf(int) " + INDEX, "int hedgeInRow(int,int) " + INDEX, "int roseInRow(int,int) " + INDEX,
        "int patienceOf(int) " + INDEX, "int petalsOf(int) " + INDEX, "int countOf(int) " + INDEX,
        "int hedgesOf(int) " + INDEX, "int fullest()",
        "int hedgeListens(int,int) " + INDEX + " " + STATE, "int roseListens(int,int) " + INDEX + " " + STATE,
        "int hedgeLeaves(int,int) " + INDEX + " " + STATE, "int roseLeaves(int,int) " + INDEX + " " + STATE,
        "int tell(int,int) " + INDEX + " " + ARGUMENT, "int passDays(int) " + ARGUMENT,
        "int reach(int,int) " + INDEX + " " + ARGUMENT, "int loudnessAt(int,int) " + INDEX,
        "boolean comesBack(int) " + INDEX, "int petalsAfter(int,int) " + INDEX + " " + ARGUMENT,
        "int daysUntilLeft(int) " + INDEX, "int bestToTell(int) " + ARGUMENT, "double meanPetals()", "long digest()",
    };

    public static void main(String[] args) {
        Class<?> face = HedgeNews.class;
        Checks.due("the class is public and final",
            Modifier.isPublic(face.getModifiers()) && Modifier.isFinal(face.getModifiers()), true);
        Set<String> names = new TreeSet<>();
        Set<String> found = new TreeSet<>();
        for (Method method : face.getDeclaredMethods()) {
            if (Modifier.isPrivate(method.getModifiers()) || method.isSynthetic()) {
                continue;
            }
            found.add(told(method));
            names.add(method.getName());
            Checks.due(method.getName() + " is public and no static one",
                Modifier.isPublic(method.getModifiers()) && !Modifier.isStatic(method.getModifiers()), true);
        }
        for (String method : FACE) {
            Checks.due("there is " + method, found.remove(method), true);
        }
        Checks.due("others are none: " + found, found.size(), 0);
        for (Method method : face.getDeclaredMethods()) {
            boolean hidden = Modifier.isPrivate(method.getModifiers());
            Checks.due(method.getName() + " is no private name too", hidden && names.contains(method.getName()), false);
        }
        for (Field field : face.getDeclaredFields()) {
            Checks.due(field.getName() + " is private", Modifier.isPrivate(field.getModifiers()), true);
            Checks.due(field.getName() + ", if static, is final",
                Modifier.isFinal(field.getModifiers()) || !Modifier.isStatic(field.getModifiers()), true);
        }
        Constructor<?>[] constructors = face.getDeclaredConstructors();
        Checks.due("constructors", constructors.length, 1);
        Checks.due("the constructor is public and takes nothing",
            Modifier.isPublic(constructors[0].getModifiers()) && constructors[0].getParameterCount() == 0, true);
        for (Class<?> inside : face.getDeclaredClasses()) {
            Checks.due(inside.getSimpleName() + " is static", Modifier.isStatic(inside.getModifiers()), true);
            Checks.due(inside.getSimpleName() + " is public", Modifier.isPublic(inside.getModifiers()), false);
            for (Method method : inside.getDeclaredMethods()) {
                Checks.due(inside.getSimpleName() + " has a face's name: " + method.getName(),
                    names.contains(method.getName()), false);
            }
        }
        Checks.finish("FaceTest");
    }

    private static String told(Method method) {
        StringBuilder text = new StringBuilder(method.getReturnType().getSimpleName());
        text.append(' ').append(method.getName()).append('(');
        String comma = "";
        for (Class<?> parameter : method.getParameterTypes()) {
            text.append(comma).append(parameter.getSimpleName());
            comma = ",";
        }
        return text.append(')').append(thrown(method)).toString();
    }

    private static String thrown(Executable method) {
        StringBuilder text = new StringBuilder();
        for (Class<?> exception : method.getExceptionTypes()) {
            text.append(' ').append(exception.getSimpleName());
        }
        return text.toString();
    }
}
