import java.util.Map;
import java.util.NoSuchElementException;
import java.util.TreeMap;
import java.util.function.Consumer;
import java.util.function.ToIntFunction;

/** Checks of boundary cases, each under the name of whose sentence it holds: a promise's number, or a term. */
final class Edge {
    private static final Map<String, Integer> CHECKS = new TreeMap<>();
    private static String owner = "";

    private Edge() {
    }

    static void promise(int number) {
        owner = "promise " + number;
    }

    static void term(String name) {
        owner = "term " + name;
    }

    static int checksOf(String whose) {
        return CHECKS.getOrDefault(whose, 0);
    }

    static void due(String what, long got, long want) {
        CHECKS.merge(owner, 1, Integer::sum);
        Check.due(owner + ": " + what, got, want);
    }

    static void due(String what, boolean got, boolean want) {
        due(what, got ? 1 : 0, want ? 1 : 0);
    }

    /** A new object that has read a text without a fault. */
    static GivenAway fine(String text) {
        GivenAway x = new GivenAway();
        due("dale of '" + text + "'", Check.dale(x, text), 0);
        due("fault() of '" + text + "'", x.fault(), -1);
        return x;
    }

    /** In a marked text ^ stands ahead of the token (or the end) that is the fault. */
    static void faulty(String marked, int fault) {
        int place = marked.indexOf('^');
        String text = marked.substring(0, place) + marked.substring(place + 1);
        GivenAway x = new GivenAway();
        Check.dale(x, "friend 5 6 7;");
        due("dale of '" + marked + "'", Check.dale(x, text), fault);
        due("fault() of '" + marked + "'", x.fault(), place);
        due("STATUS of '" + marked + "'", x.count(10), 1);
        due("the tape behind '" + marked + "'", x.count(9), 0);
        due("PEOPLE behind '" + marked + "'", x.count(0), 1);
        due("ONIONS behind '" + marked + "'", x.person(0, 3), 7);
    }

    /** The call throws, and all is as it was. */
    static void noSuch(String what, Consumer<GivenAway> call) {
        due(what + " throws NoSuchElementException", thrownBy(Twins.one(), call) == NoSuchElementException.class, true);
        stays(what, call, -1);
    }

    /** The call throws, and all is as it was. */
    static void illegal(String what, Consumer<GivenAway> call) {
        due(what + " throws IllegalArgumentException", thrownBy(Twins.one(), call) == IllegalArgumentException.class, true);
        stays(what, call, -1);
    }

    static void noSuch(String what, GivenAway x, Consumer<GivenAway> call) {
        due(what + " throws NoSuchElementException", thrownBy(x, call) == NoSuchElementException.class, true);
    }

    static void illegal(String what, GivenAway x, Consumer<GivenAway> call) {
        due(what + " throws IllegalArgumentException", thrownBy(x, call) == IllegalArgumentException.class, true);
    }

    /** The call answers NONE and one more of that STATUS; all else is as it was. */
    static void refused(String what, int status, ToIntFunction<GivenAway> call) {
        due(what, call.applyAsInt(Twins.one()), -1);
        stays(what, call::applyAsInt, status);
    }

    /** The call answers that, and all is as it was. */
    static void asked(String what, int want, ToIntFunction<GivenAway> call) {
        due(what, call.applyAsInt(Twins.one()), want);
        stays(what, call::applyAsInt, -1);
    }

    private static void stays(String what, Consumer<GivenAway> call, int status) {
        GivenAway x = Twins.one();
        GivenAway untouched = Twins.one();
        thrownBy(x, call);
        for (int s = 0; s < 3; s++) {
            due("STATUS " + s + " behind " + what, x.count(10 + s), untouched.count(10 + s) + (s == status ? 1 : 0));
        }
        due("all else behind " + what + " as it was", Twins.story(x).equals(Twins.story(untouched)), true);
    }

    private static Class<?> thrownBy(GivenAway x, Consumer<GivenAway> call) {
        try {
            call.accept(x);
            return null;
        } catch (RuntimeException e) {
            return e.getClass();
        }
    }
}
