import java.lang.reflect.Constructor;
import java.lang.reflect.Field;
import java.lang.reflect.Method;
import java.lang.reflect.Modifier;
import java.util.Arrays;
import java.util.TreeSet;

/** The public face is the document's, and nothing but it can be seen. */
public final class FaceTest {
    private static final String[] FACE = {
        "int feed(int,int,int,int,int)", "int dale(int)", "int fault()", "int count(int)",
        "int person(int,int)", "int bride(int,int)", "int years(int,int)", "int weight(int,int)",
        "int days(int)", "int train(int,int)", "int onions(int,int)", "int putOff(int,int)",
        "int tie(int,int,int)", "int undo()", "int leader(int)", "int then(int,int)", "int led(int,int)",
        "int dog()", "int rank(int,int)", "int toTrain(int,int)", "int instead(int)", "int bestDay(int,int)",
        "int choice(int)", "int unloved()", "int tug(int)", "int decisive(int,int)", "int steps(int,int)",
        "int busiest(int)", "int crowd(int)", "int common(int,int)", "int see(int,int,int,int,boolean)",
        "int hidden(int)", "int next(int)", "void forget()", "int game(int,int,int,int)",
        "int drawn(int,int,int)", "void image()", "boolean restore()",
    };

    private FaceTest() {
    }

    private static String written(Method method) {
        StringBuilder text = new StringBuilder(method.getReturnType().getSimpleName());
        text.append(' ').append(method.getName()).append('(');
        for (Class<?> type : method.getParameterTypes()) {
            text.append(text.charAt(text.length() - 1) == '(' ? "" : ",").append(type.getSimpleName());
        }
        return text.append(')').toString();
    }

    public static void main(String[] args) throws ReflectiveOperationException {
        TreeSet<String> open = new TreeSet<>();
        TreeSet<String> openNames = new TreeSet<>();
        for (Method method : GivenAway.class.getDeclaredMethods()) {
            if (Modifier.isPublic(method.getModifiers())) {
                open.add(written(method));
                openNames.add(method.getName());
            } else {
                Check.due(method + " is private", Modifier.isPrivate(method.getModifiers()), true);
            }
        }
        Check.due("the face is " + open, open.equals(new TreeSet<>(Arrays.asList(FACE))), true);
        noPrivateNamesake(GivenAway.class, openNames);
        for (Field field : GivenAway.class.getDeclaredFields()) {
            boolean isNone = field.getName().equals("NONE");
            Check.due(field + " is seen", Modifier.isPublic(field.getModifiers()), isNone);
            Check.due(field + " is private", Modifier.isPrivate(field.getModifiers()), !isNone);
        }
        Constructor<?>[] made = GivenAway.class.getDeclaredConstructors();
        Check.due("constructors", made.length, 1);
        Check.due("its parameters", made[0].getParameterCount(), 0);
        Check.due("public", Modifier.isPublic(made[0].getModifiers()), true);
        Check.due("final", Modifier.isFinal(GivenAway.class.getModifiers()), true);
        Check.due("NONE", GivenAway.NONE, -1);
        Check.due("classes", GivenAway.class.getDeclaredClasses().length <= 12, true);
        for (Class<?> inside : GivenAway.class.getDeclaredClasses()) {
            Check.due(inside + " is static", Modifier.isStatic(inside.getModifiers()), true);
            Check.due(inside + " is not open", Modifier.isPublic(inside.getModifiers()), false);
            noPrivateNamesake(inside, openNames);
        }
        Check.end("FaceTest");
    }

    private static void noPrivateNamesake(Class<?> type, TreeSet<String> openNames) {
        for (Method method : type.getDeclaredMethods()) {
            boolean namesake = !Modifier.isPublic(method.getModifiers()) && openNames.contains(method.getName());
            Check.due(method + " bears a name of the face", namesake, false);
        }
    }
}
