import java.util.NoSuchElementException;
import java.util.Random;
import java.util.function.ToLongFunction;

/** Runs of random calls, each answer held against the model's; the seeds are fixed. */
public final class ModelTest {
    private static final int RUNS = 220;
    private static final int CALLS = 300;
    private static final String[] VALUES = {"grief", "onions", "kind", "led", "day", "years", "left", "rivals"};
    private static final String[] TROUBLE = {"x", ";", "(", ")", "not ", "12345", "99", " or ", "<", "tie ", "years", "\t"};

    private final Random random;
    private final GivenAway x = new GivenAway();
    private final Model model = new Model();
    private int people;
    private int brides;

    private ModelTest(long seed) {
        random = new Random(seed);
    }

    private int to(int most) {
        return random.nextInt(most + 1);
    }

    private int odd(int least, int most) {
        return random.nextInt(12) == 0 ? random.nextInt(2) * (most + 2 - least) + least - 1
                : least + random.nextInt(most - least + 1);
    }

    private String part(int depth, int values) {
        int kind = to(depth > 3 ? 3 : 5);
        if (kind <= 1) {
            return VALUES[random.nextInt(values)];
        }
        if (kind <= 3) {
            return String.valueOf(to(3) == 0 ? to(9999) : to(40));
        }
        return "(" + expression(depth + 1, values) + ")";
    }

    private String expression(int depth, int values) {
        String[] operators = {"+", "-", "*", "/", "<", "=", " and ", " or "};
        StringBuilder text = new StringBuilder();
        boolean tested = false;
        for (int more = to(3); more >= 0; more--) {
            text.append(to(9) == 0 && (text.length() == 0 || text.charAt(text.length() - 1) == ' ') ? "not " : "");
            text.append(part(depth, values));
            if (more > 0) {
                int which = random.nextInt(operators.length);
                if (which == 4 || which == 5) {
                    which = tested ? 0 : which;
                    tested = true;
                }
                tested = tested && which < 6;
                text.append(operators[which]);
            }
        }
        return text.toString();
    }

    private String text() {
        StringBuilder text = new StringBuilder();
        String[] kinds = {"father", "friend", "suitor", "beast"};
        people = to(9);
        brides = to(6);
        int latestDay = to(1) == 0 ? 60 : 8;
        for (int p = 0; p < people; p++) {
            text.append(kinds[to(3)]).append(' ').append(to(to(1) == 0 ? 99 : 20)).append(' ').append(to(9));
            text.append(' ').append(to(9)).append(';').append(to(5) == 0 ? "\n" : "");
        }
        for (int b = 0; b < brides; b++) {
            text.append("bride ").append(to(latestDay)).append("; ".substring(0, 1 + to(1)));
        }
        boolean[] tied = new boolean[60];
        for (int i = people * brides > 0 ? to(24) : 0; i > 0; i--) {
            int tie = 6 * random.nextInt(people) + random.nextInt(brides);
            if (!tied[tie]) {
                text.append("tie ").append(tie / 6).append(' ').append(tie % 6).append(' ').append(1 + to(39)).append(';');
                tied[tie] = true;
            }
        }
        if (to(2) == 0) {
            text.append("weighs ").append(to(1) == 0 ? "grief+" : "").append(expression(0, 8)).append(';');
        }
        if (to(2) == 0) {
            text.append("mourns ").append(expression(0, 5)).append(';');
        }
        return text.length() > 700 ? text() : text.toString();
    }

    private String spoilt(String text) {
        int at = to(text.length());
        int behind = Math.min(text.length(), at + to(3));
        String trouble = to(3) == 0 ? "" : TROUBLE[random.nextInt(TROUBLE.length)];
        String all = text.substring(0, at) + trouble + text.substring(behind);
        return all.length() > 700 ? all.substring(0, 700) : all;
    }

    private void both(String call, ToLongFunction<GivenAway> ours, ToLongFunction<Model> due) {
        Check.due(call, answer(ours, x), answer(due, model));
    }

    private static <T> long answer(ToLongFunction<T> call, T of) {
        try {
            return call.applyAsLong(of);
        } catch (NoSuchElementException e) {
            return Long.MIN_VALUE;
        } catch (RuntimeException e) {
            return e.getClass() == IllegalArgumentException.class ? Long.MIN_VALUE + 1 : Long.MIN_VALUE + 2;
        }
    }

    private void tell(String text) {
        int length = text.length();
        for (int from = 0; from < length; from += 20) {
            int[] n = new int[5];
            for (int i = 0; i < 20; i++) {
                n[i / 4] = n[i / 4] << 8 | (from + i < length ? text.charAt(from + i) : 32);
            }
            both("feed", g -> g.feed(n[0], n[1], n[2], n[3], n[4]), m -> m.feed(n));
        }
        both("dale " + text, g -> g.dale(length), m -> m.dale(length));
        both("fault of " + text, g -> g.fault(), m -> m.fault());
    }

    private void run(int calls) {
        tell(text());
        for (int i = 0; i < calls; i++) {
            call();
        }
        for (int what = -1; what <= 13; what++) {
            int w = what;
            both("count " + w, g -> g.count(w), m -> m.count(w));
        }
    }

    private void call() {
        int p = odd(0, Math.max(0, people - 1));
        int q = odd(0, Math.max(0, people - 1));
        int b = odd(0, Math.max(0, brides - 1));
        int which = random.nextInt(50);
        if (which < 14) {
            change(which, p, q, b);
        } else {
            ask(which, p, q, b);
        }
    }

    private void change(int which, int p, int q, int b) {
        int many = odd(1, to(3) == 0 ? 20 : 3);
        int small = odd(0, 9);
        switch (which) {
            case 0, 1 -> both("days " + many, g -> g.days(many), m -> m.days(many));
            case 2 -> both("train", g -> g.train(p, small), m -> m.train(p, small));
            case 3 -> both("onions", g -> g.onions(p, small), m -> m.onions(p, small));
            case 4, 5 -> {
                int day = to(9) == 0 ? odd(0, 999) : x.count(3) + to(9) - 1;
                both("putOff " + b + " " + day, g -> g.putOff(b, day), m -> m.putOff(b, day));
            }
            case 6, 7 -> {
                int years = odd(1, 40);
                both("tie", g -> g.tie(p, b, years), m -> m.tie(p, b, years));
            }
            case 8, 9 -> {
                for (int i = to(3); i > 0; i--) {
                    both("undo", g -> g.undo(), m -> m.undo());
                }
            }
            case 10 -> {
                int days = odd(0, to(1) == 0 ? 20 : 4);
                boolean more = to(1) == 0;
                both("see", g -> g.see(b, days, p, q, more), m -> m.see(b, days, p, q, more));
            }
            case 11 -> {
                x.image();
                model.image();
            }
            case 12 -> both("restore", g -> g.restore() ? 1 : 0, m -> m.restore() ? 1 : 0);
            default -> changeSeldom();
        }
    }

    private void changeSeldom() {
        int which = to(3);
        if (which == 0) {
            tell(to(3) == 0 ? text() : spoilt(text()));
        } else if (which == 1) {
            int n = odd(0, 3);
            both("dale of an empty tape", g -> g.dale(n), m -> m.dale(n));
        } else {
            x.forget();
            model.forget();
        }
    }

    private void ask(int which, int p, int q, int b) {
        int days = odd(0, 60);
        int two = odd(0, 1);
        int three = odd(0, 2);
        int six = odd(0, 5);
        int seed = random.nextInt();
        switch (which) {
            case 14, 15 -> both("count", g -> g.count(six + 2), m -> m.count(six + 2));
            case 16, 17 -> both("person", g -> g.person(p, six), m -> m.person(p, six));
            case 18, 19 -> both("bride", g -> g.bride(b, six), m -> m.bride(b, six));
            case 20 -> both("years", g -> g.years(p, b), m -> m.years(p, b));
            case 21, 22 -> both("weight", g -> g.weight(p, b), m -> m.weight(p, b));
            case 23, 24 -> both("leader", g -> g.leader(b), m -> m.leader(b));
            case 25 -> both("then", g -> g.then(p, days), m -> m.then(p, days));
            case 26 -> both("led", g -> g.led(p, days), m -> m.led(p, days));
            case 27 -> both("dog", g -> g.dog(), m -> m.dog());
            case 28 -> both("rank", g -> g.rank(p, b), m -> m.rank(p, b));
            case 29, 30 -> both("toTrain", g -> g.toTrain(p, b), m -> m.toTrain(p, b));
            case 31 -> both("instead", g -> g.instead(p), m -> m.instead(p));
            case 32, 33 -> both("bestDay", g -> g.bestDay(b, two), m -> m.bestDay(b, two));
            case 34 -> both("choice", g -> g.choice(b), m -> m.choice(b));
            case 35 -> both("unloved", g -> g.unloved(), m -> m.unloved());
            case 36 -> both("tug", g -> g.tug(b), m -> m.tug(b));
            case 37 -> both("decisive", g -> g.decisive(p, b), m -> m.decisive(p, b));
            case 38 -> both("steps", g -> g.steps(p, q), m -> m.steps(p, q));
            case 39 -> both("busiest", g -> g.busiest(days), m -> m.busiest(days));
            case 40 -> both("crowd", g -> g.crowd(two), m -> m.crowd(two));
            case 41 -> both("common", g -> g.common(p, q), m -> m.common(p, q));
            case 42, 43 -> both("hidden", g -> g.hidden(three), m -> m.hidden(three));
            case 44 -> both("next", g -> g.next(two), m -> m.next(two));
            case 45, 46, 47 -> both("game", g -> g.game(p, q, b, two), m -> m.game(p, q, b, two));
            default -> both("drawn", g -> g.drawn(seed, days, three), m -> m.drawn(seed, days, three));
        }
    }

    private static void spoiltTexts() {
        for (long seed = 0; seed < 4000; seed++) {
            ModelTest test = new ModelTest(-1 - seed);
            String text = test.text();
            test.tell(text);
            for (int i = 0; i < 5; i++) {
                test.tell(test.spoilt(text));
            }
        }
    }

    public static void main(String[] args) {
        int runs = args.length > 0 ? Integer.parseInt(args[0]) : RUNS;
        spoiltTexts();
        for (long seed = 0; seed < runs; seed++) {
            new ModelTest(seed).run(CALLS);
        }
        Check.end("ModelTest");
    }
}
