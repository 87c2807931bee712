import java.util.ArrayDeque;
import java.util.ArrayList;
import java.util.HashSet;
import java.util.List;
import java.util.Map;
import java.util.NoSuchElementException;
import java.util.Set;
import java.util.TreeMap;
import java.util.regex.Matcher;
import java.util.regex.Pattern;

/** The document in its slowest and plainest form, written apart from the class, to be held against it. */
final class Model {
    private static final class Fault extends RuntimeException {
        private static final long serialVersionUID = 1L;
        final int number;
        final int place;

        Fault(int number, int place) {
            this.number = number;
            this.place = place;
        }
    }

    private record Token(String text, int place) {
        boolean isNumber() {
            return !text.isEmpty() && Character.isDigit(text.charAt(0));
        }

        boolean isWord() {
            return text.matches("[a-z]+");
        }

        boolean is(String other) {
            return text.equals(other);
        }
    }

    interface Expr {
        int of(Map<String, Integer> values);
    }

    private static final class Person {
        int kind, grief, trains, onions;
        Set<Integer> led = new HashSet<>();

        Person copy() {
            Person c = new Person();
            c.kind = kind;
            c.grief = grief;
            c.trains = trains;
            c.onions = onions;
            c.led = new HashSet<>(led);
            return c;
        }
    }

    private static final class Bride {
        int day;
        boolean home = true;
        int leader = -1;
        int leaderWeight = 0;

        Bride copy() {
            Bride c = new Bride();
            c.day = day;
            c.home = home;
            c.leader = leader;
            c.leaderWeight = leaderWeight;
            return c;
        }
    }

    /** Everything that a text tells, and that days and acts change. */
    private static final class World {
        List<Person> people = new ArrayList<>();
        List<Bride> brides = new ArrayList<>();
        TreeMap<Integer, Integer> ties = new TreeMap<>();
        Expr weighs, mourns;
        int day, dog;

        World copy() {
            World c = new World();
            for (Person p : people) {
                c.people.add(p.copy());
            }
            for (Bride b : brides) {
                c.brides.add(b.copy());
            }
            c.ties.putAll(ties);
            c.weighs = weighs;
            c.mourns = mourns;
            c.day = day;
            c.dog = dog;
            return c;
        }

        int years(int p, int b) {
            return ties.getOrDefault(10 * p + b, 0);
        }

        int tied(int b) {
            int bits = 0;
            for (int p = 0; p < people.size(); p++) {
                bits += years(p, b) > 0 ? 1 << p : 0;
            }
            return bits;
        }

        private Map<String, Integer> values(int p) {
            Person one = people.get(p);
            Map<String, Integer> values = new TreeMap<>();
            values.put("grief", one.grief);
            values.put("onions", one.onions);
            values.put("kind", one.kind);
            values.put("led", one.led.size());
            values.put("day", day);
            return values;
        }

        int weight(int p, int b) {
            if (years(p, b) == 0) {
                return -1;
            }
            int w = people.get(p).grief + years(p, b) - 2 * people.get(p).onions;
            if (weighs != null) {
                Map<String, Integer> values = values(p);
                values.put("years", years(p, b));
                values.put("left", brides.get(b).day > day ? brides.get(b).day - day : 0);
                values.put("rivals", Integer.bitCount(tied(b)) - 1);
                w = weighs.of(values);
            }
            return w < 0 ? 0 : w > 999 ? 999 : w;
        }

        int heaviest(int b) {
            int best = -1;
            for (int p = people.size() - 1; p >= 0; p--) {
                if (years(p, b) > 0 && (best < 0 || weight(p, b) >= weight(best, b))) {
                    best = p;
                }
            }
            return best;
        }

        World pass(int days) {
            for (int i = 0; i < days; i++) {
                for (int b = 0; b < brides.size(); b++) {
                    wed(b);
                }
                for (int p = 0; p < people.size(); p++) {
                    mourn(p);
                }
                day++;
            }
            return this;
        }

        private void wed(int b) {
            Bride bride = brides.get(b);
            if (!bride.home || bride.day != day) {
                return;
            }
            int who = heaviest(b);
            bride.leaderWeight = who < 0 ? 0 : weight(who, b);
            bride.home = false;
            if (bride.leaderWeight == 0) {
                dog++;
            } else {
                bride.leader = who;
                people.get(who).grief /= 2;
                people.get(who).led.add(b);
            }
        }

        private void mourn(int p) {
            Person one = people.get(p);
            int more = one.kind == 3 ? 0 : one.trains;
            if (mourns != null) {
                more = mourns.of(values(p));
                more = more < 0 ? 0 : more > 20 ? 20 : more;
            }
            one.grief = Math.min(99, one.grief + more);
            one.onions = one.onions == 0 ? 0 : one.onions - 1;
        }

        int leader(int b) {
            return brides.get(b).home ? copy().pass(60).brides.get(b).leader : brides.get(b).leader;
        }

        int griefOfAll() {
            return people.stream().mapToInt(p -> p.grief).sum();
        }

        int home() {
            int bits = 0;
            for (int b = 0; b < brides.size(); b++) {
                bits += brides.get(b).home ? 1 << b : 0;
            }
            return bits;
        }

        int loves(int p) {
            int bits = 0;
            for (int b = 0; b < brides.size(); b++) {
                bits += years(p, b) > 0 ? 1 << b : 0;
            }
            return bits;
        }
    }

    /** Reads a text by lists of tokens and exceptions. */
    private static final class Text {
        private static final Pattern TOKEN = Pattern.compile("[a-z]+|[0-9]+|[^ \\n]", Pattern.DOTALL);
        private final List<Token> tokens = new ArrayList<>();
        private int at = 0;
        private final World world = new World();
        private boolean forBride;

        Text(String text) {
            Matcher m = TOKEN.matcher(text);
            while (m.find()) {
                tokens.add(new Token(m.group(), m.start()));
            }
            tokens.add(new Token("", text.length()));
        }

        private Token peek() {
            return tokens.get(at);
        }

        private Token take() {
            return tokens.get(at++);
        }

        private void must(boolean holds, int fault) {
            if (!holds) {
                throw new Fault(fault, peek().place);
            }
        }

        private void sign(String sign) {
            must(peek().is(sign), 1);
            at++;
        }

        private int number(int least, int most, int faultAbove) {
            must(peek().isNumber(), 1);
            must(peek().text.length() <= 4, 2);
            int value = Integer.parseInt(peek().text);
            must(value >= least, 2);
            must(value <= most, faultAbove);
            at++;
            return value;
        }

        World read() {
            while (!peek().is("")) {
                line();
                sign(";");
            }
            return world;
        }

        private void line() {
            String word = peek().text;
            int kind = List.of("father", "friend", "suitor", "beast").indexOf(word);
            if (kind >= 0) {
                must(world.people.size() < 9, 2);
                at++;
                Person p = new Person();
                p.kind = kind;
                p.grief = number(0, 99, 2);
                p.trains = number(0, 9, 2);
                p.onions = number(0, 9, 2);
                world.people.add(p);
            } else if (word.equals("bride")) {
                must(world.brides.size() < 6, 2);
                at++;
                Bride b = new Bride();
                b.day = number(0, 60, 2);
                world.brides.add(b);
            } else if (word.equals("tie")) {
                must(world.ties.size() < 24, 2);
                at++;
                int p = number(0, world.people.size() - 1, 3);
                int b = number(0, world.brides.size() - 1, 3);
                at--;
                must(world.years(p, b) == 0, 4);
                at++;
                world.ties.put(10 * p + b, number(1, 40, 2));
            } else if (word.equals("weighs")) {
                must(world.weighs == null, 5);
                at++;
                forBride = true;
                world.weighs = or(0);
            } else {
                must(word.equals("mourns"), 1);
                must(world.mourns == null, 5);
                at++;
                forBride = false;
                world.mourns = or(0);
            }
        }

        private Expr or(int within) {
            if (within == 6 && (peek().isNumber() || peek().isWord() || peek().is("("))) {
                must(false, 2);
            }
            Expr left = and(within);
            while (peek().is("or")) {
                at++;
                Expr a = left;
                Expr b = and(within);
                left = v -> (a.of(v) != 0 | b.of(v) != 0) ? 1 : 0;
            }
            return left;
        }

        private Expr and(int within) {
            Expr left = not(within, 1);
            while (peek().is("and")) {
                at++;
                Expr a = left;
                Expr b = not(within, 1);
                left = v -> (a.of(v) != 0 & b.of(v) != 0) ? 1 : 0;
            }
            return left;
        }

        private Expr not(int within, int which) {
            if (peek().is("not")) {
                must(which < 7, 2);
                at++;
                Expr inner = not(within, which + 1);
                return v -> inner.of(v) == 0 ? 1 : 0;
            }
            Expr a = sum(within);
            if (peek().is("<")) {
                at++;
                Expr b = sum(within);
                return v -> a.of(v) < b.of(v) ? 1 : 0;
            }
            if (peek().is("=")) {
                at++;
                Expr b = sum(within);
                return v -> a.of(v) == b.of(v) ? 1 : 0;
            }
            return a;
        }

        private Expr sum(int within) {
            Expr left = product(within);
            while (peek().is("+") || peek().is("-")) {
                boolean plus = take().is("+");
                Expr a = left;
                Expr b = product(within);
                left = plus ? v -> a.of(v) + b.of(v) : v -> a.of(v) - b.of(v);
            }
            return left;
        }

        private Expr product(int within) {
            Expr left = part(within);
            while (peek().is("*") || peek().is("/")) {
                boolean times = take().is("*");
                Expr a = left;
                Expr b = part(within);
                left = times ? v -> a.of(v) * b.of(v) : v -> b.of(v) == 0 ? 0 : (int) ((long) a.of(v) / b.of(v));
            }
            return left;
        }

        private Expr part(int within) {
            if (peek().isWord()) {
                List<String> own = List.of("grief", "onions", "kind", "led", "day");
                List<String> hers = List.of("years", "left", "rivals");
                must(own.contains(peek().text) || forBride && hers.contains(peek().text), 3);
                String word = take().text;
                return v -> v.get(word);
            }
            if (peek().is("(")) {
                at++;
                Expr inner = or(within + 1);
                sign(")");
                return inner;
            }
            int value = number(0, 9999, 2);
            return v -> value;
        }
    }

    private record Sight(int bride, int days, int one, int other, boolean more) {
    }

    private String tape = "";
    private World now = new World();
    private ArrayDeque<World> acts = new ArrayDeque<>();
    private List<Sight> seen = new ArrayList<>();
    private int[] status = new int[3];
    private int fault = -1;
    private World imageWorld;
    private ArrayDeque<World> imageActs;
    private List<Sight> imageSeen;
    private int[] imageStatus;

    private void person(int p) {
        if (p < 0 || p >= now.people.size()) {
            throw new NoSuchElementException();
        }
    }

    private void bride(int b) {
        if (b < 0 || b >= now.brides.size()) {
            throw new NoSuchElementException();
        }
    }

    private void what(int what, int last) {
        if (what < 0 || what > last) {
            throw new NoSuchElementException();
        }
    }

    private void sixty(int days) {
        if (days < 0 || days > 60) {
            throw new IllegalArgumentException();
        }
    }

    private int refused(int which) {
        status[which]++;
        return -1;
    }

    private void act() {
        acts.addLast(now.copy());
        if (acts.size() > 40) {
            acts.removeFirst();
        }
    }

    int feed(int... numbers) {
        if (tape.length() + 20 > 700) {
            return -1;
        }
        for (int number : numbers) {
            for (int i = 0; i < 4; i++) {
                tape += (char) (number >>> 24 - 8 * i & 255);
            }
        }
        return tape.length();
    }

    int dale(int n) {
        if (n < 0 || n > tape.length()) {
            throw new IllegalArgumentException();
        }
        String text = tape.substring(0, n);
        tape = "";
        try {
            now = new Text(text).read();
        } catch (Fault f) {
            fault = f.place;
            status[0]++;
            return f.number;
        }
        fault = -1;
        acts.clear();
        seen.clear();
        imageWorld = null;
        return 0;
    }

    int fault() {
        return fault;
    }

    int count(int what) {
        what(what, 12);
        int[] all = {now.people.size(), now.brides.size(), now.ties.size(), now.day, now.home(), now.dog,
            now.griefOfAll(), acts.size(), seen.size(), tape.length(), status[0], status[1], status[2]};
        return all[what];
    }

    int person(int p, int what) {
        person(p);
        what(what, 5);
        Person one = now.people.get(p);
        int led = one.led.stream().mapToInt(b -> 1 << b).sum();
        return new int[] {one.kind, one.grief, one.trains, one.onions, led, now.loves(p)}[what];
    }

    int bride(int b, int what) {
        bride(b);
        what(what, 5);
        Bride one = now.brides.get(b);
        int rivals = Math.max(0, Integer.bitCount(now.tied(b)) - 1);
        return new int[] {one.day, one.home ? 1 : 0, one.leader, now.tied(b), now.heaviest(b), rivals}[what];
    }

    int years(int p, int b) {
        person(p);
        bride(b);
        return now.years(p, b);
    }

    int weight(int p, int b) {
        person(p);
        bride(b);
        return now.weight(p, b);
    }

    int days(int many) {
        if (many < 1 || many > 20 || now.day + many > 999) {
            return refused(1);
        }
        act();
        return now.pass(many).day;
    }

    int train(int p, int trains) {
        person(p);
        if (trains < 0 || trains > 9) {
            return refused(1);
        }
        act();
        int was = now.people.get(p).trains;
        now.people.get(p).trains = trains;
        return was;
    }

    int onions(int p, int more) {
        person(p);
        if (more < 1 || more > 9) {
            return refused(1);
        }
        act();
        Person one = now.people.get(p);
        one.onions = Math.min(9, one.onions + more);
        return one.onions;
    }

    int putOff(int b, int day) {
        bride(b);
        Bride one = now.brides.get(b);
        if (!one.home || day < now.day || day > 999) {
            return refused(1);
        }
        act();
        one = now.brides.get(b);
        int was = one.day;
        one.day = day;
        return was;
    }

    int tie(int p, int b, int years) {
        person(p);
        bride(b);
        if (years < 1 || years > 40) {
            return refused(1);
        }
        act();
        Integer was = now.ties.put(10 * p + b, years);
        return was == null ? 0 : was;
    }

    int undo() {
        if (acts.isEmpty()) {
            return -1;
        }
        now = acts.removeLast();
        return acts.size();
    }

    int leader(int b) {
        bride(b);
        return now.leader(b);
    }

    int then(int p, int days) {
        person(p);
        sixty(days);
        return now.copy().pass(days).people.get(p).grief;
    }

    private int ledFromNow(int p, int days) {
        return now.copy().pass(days).people.get(p).led.size() - now.people.get(p).led.size();
    }

    int led(int p, int days) {
        person(p);
        sixty(days);
        return ledFromNow(p, days);
    }

    int dog() {
        return now.copy().pass(60).dog - now.dog;
    }

    int rank(int p, int b) {
        person(p);
        bride(b);
        if (now.years(p, b) == 0) {
            return -1;
        }
        int rank = 0;
        for (int q = 0; q < now.people.size(); q++) {
            if (now.years(q, b) > 0) {
                int more = now.weight(q, b) - now.weight(p, b);
                rank += more > 0 || more == 0 && q < p ? 1 : 0;
            }
        }
        return rank;
    }

    int toTrain(int p, int b) {
        person(p);
        bride(b);
        for (int t = 0; t <= 9 && now.brides.get(b).home; t++) {
            World w = now.copy();
            w.people.get(p).trains = t;
            if (w.leader(b) == p) {
                return t;
            }
        }
        return -1;
    }

    int instead(int p) {
        person(p);
        World w = now.copy();
        w.ties.keySet().removeIf(tie -> tie / 10 == p);
        int bits = 0;
        for (int b = 0; b < now.brides.size(); b++) {
            bits += now.brides.get(b).home && now.leader(b) != w.leader(b) ? 1 << b : 0;
        }
        return bits;
    }

    int bestDay(int b, int what) {
        bride(b);
        what(what, 1);
        int best = -1;
        int most = -1;
        for (int day = Math.min(999, now.day + 30); day >= now.day && now.brides.get(b).home; day--) {
            World w = now.copy();
            w.brides.get(b).day = day;
            w.pass(day - now.day + 1);
            Bride wed = w.brides.get(b);
            if (wed.leader >= 0 && wed.leaderWeight >= most) {
                most = wed.leaderWeight;
                best = day;
            }
        }
        return what == 0 ? best : most;
    }

    private int[] bestRow;
    private int bestSum;

    private void choose(int b, int taken, int sum, int[] row) {
        if (b == now.brides.size()) {
            if (sum > bestSum) {
                bestSum = sum;
                bestRow = row.clone();
            }
            return;
        }
        for (int p = 0; p < now.people.size() && now.brides.get(b).home; p++) {
            if ((taken >> p & 1) == 0 && now.years(p, b) > 0) {
                row[b] = p;
                choose(b + 1, taken | 1 << p, sum + now.weight(p, b), row);
            }
        }
        row[b] = -1;
        choose(b + 1, taken, sum, row);
    }

    int choice(int b) {
        if (b != -1) {
            bride(b);
        }
        bestSum = -1;
        choose(0, 0, 0, new int[now.brides.size()]);
        return b == -1 ? bestSum : bestRow[b];
    }

    int unloved() {
        int bits = 0;
        for (int b = 0; b < now.brides.size(); b++) {
            bits += now.brides.get(b).home && now.tied(b) == 0 ? 1 << b : 0;
        }
        return bits;
    }

    private boolean wins(int set, int b) {
        int balance = 0;
        for (int p = 0; p < now.people.size(); p++) {
            if (now.years(p, b) > 0) {
                balance += (set >> p & 1) == 1 ? now.weight(p, b) : -now.weight(p, b);
            }
        }
        return balance > 0;
    }

    int tug(int b) {
        bride(b);
        for (int size = 1; size <= 9; size++) {
            for (int set = 0; set < 512; set++) {
                if (Integer.bitCount(set) == size && (set | now.tied(b)) == now.tied(b) && wins(set, b)) {
                    return set;
                }
            }
        }
        return -1;
    }

    int decisive(int p, int b) {
        person(p);
        bride(b);
        int many = 0;
        for (int set = 0; set < 512; set++) {
            boolean subset = (set | now.tied(b)) == now.tied(b) && (set >> p & 1) == 1;
            many += subset && wins(set, b) && !wins(set ^ 1 << p, b) ? 1 : 0;
        }
        return many;
    }

    int steps(int p, int q) {
        person(p);
        person(q);
        int n = now.people.size();
        int[][] far = new int[n][n];
        for (int i = 0; i < n; i++) {
            for (int j = 0; j < n; j++) {
                far[i][j] = i == j ? 0 : (now.loves(i) & now.loves(j)) != 0 ? 1 : 99;
            }
        }
        for (int k = 0; k < n; k++) {
            for (int i = 0; i < n; i++) {
                for (int j = 0; j < n; j++) {
                    far[i][j] = Math.min(far[i][j], far[i][k] + far[k][j]);
                }
            }
        }
        return far[p][q] >= 99 ? -1 : far[p][q];
    }

    int busiest(int days) {
        sixty(days);
        int best = -1;
        for (int p = 0; p < now.people.size(); p++) {
            int many = ledFromNow(p, days);
            if (many > 0 && (best < 0 || many > ledFromNow(best, days))) {
                best = p;
            }
        }
        return best;
    }

    int crowd(int what) {
        what(what, 1);
        TreeMap<Integer, Integer> crowds = new TreeMap<>();
        now.brides.stream().filter(b -> b.home).forEach(b -> crowds.merge(b.day, 1, Integer::sum));
        int best = -1;
        for (int day : crowds.keySet()) {
            if (best < 0 || crowds.get(day) > crowds.get(best)) {
                best = day;
            }
        }
        return what == 0 ? best : best < 0 ? 0 : crowds.get(best);
    }

    int common(int p, int q) {
        person(p);
        person(q);
        return now.loves(p) & now.loves(q);
    }

    int see(int b, int days, int p, int q, boolean more) {
        bride(b);
        person(p);
        person(q);
        if (seen.size() == 8 || days < 0 || days > 20 || p == q) {
            return refused(2);
        }
        seen.add(new Sight(b, days, p, q, more));
        return seen.size();
    }

    private boolean allSeen(World world) {
        for (Sight s : seen) {
            World then = world.copy().pass(s.days);
            if (then.weight(s.one, s.bride) > then.weight(s.other, s.bride) != s.more) {
                return false;
            }
        }
        return true;
    }

    private World with(int p, int onions) {
        World w = now.copy();
        w.people.get(p).onions = onions;
        return w;
    }

    private List<Integer> guesses() {
        List<Integer> all = new ArrayList<>();
        for (int p = 0; p < now.people.size(); p++) {
            for (int o = 0; o <= 9; o++) {
                if (o != now.people.get(p).onions && allSeen(with(p, o))) {
                    all.add(10 * p + o);
                }
            }
        }
        return all;
    }

    int hidden(int what) {
        what(what, 2);
        List<Integer> all = guesses();
        return what == 0 ? all.size() : what == 1 ? (all.isEmpty() ? -1 : all.get(0)) : allSeen(now) ? 1 : 0;
    }

    int next(int what) {
        what(what, 1);
        List<Integer> all = guesses();
        List<World> ends = new ArrayList<>();
        for (int guess : all) {
            ends.add(with(guess / 10, guess % 10).pass(60));
        }
        int best = -1;
        int most = 0;
        for (int b = 0; b < now.brides.size(); b++) {
            Set<Integer> leaders = new HashSet<>();
            for (World end : ends) {
                leaders.add(end.brides.get(b).leader);
            }
            if (leaders.size() > most) {
                most = leaders.size();
                best = b;
            }
        }
        return what == 0 ? best : most;
    }

    void forget() {
        seen.clear();
    }

    private int gain(int who, int[] people, int[] choices, int b) {
        World w = now.copy();
        for (int i = 0; i < 2; i++) {
            Person one = w.people.get(people[i]);
            if (choices[i] == 0) {
                one.onions = Math.min(9, one.onions + 3);
            } else {
                one.trains = Math.min(9, one.trains + 3);
            }
        }
        return (w.leader(b) == people[who] ? 10 : 0) + (choices[who] == 0 ? 1 : -2);
    }

    int game(int p, int q, int b, int what) {
        person(p);
        person(q);
        bride(b);
        what(what, 1);
        if (p == q || now.years(p, b) == 0 || now.years(q, b) == 0 || !now.brides.get(b).home) {
            throw new IllegalArgumentException();
        }
        int[] both = {p, q};
        List<Integer> rest = new ArrayList<>();
        for (int i = 0; i < 2; i++) {
            for (int j = 0; j < 2; j++) {
                int[] here = {i, j};
                boolean one = gain(0, both, new int[] {1 - i, j}, b) <= gain(0, both, here, b);
                boolean other = gain(1, both, new int[] {i, 1 - j}, b) <= gain(1, both, here, b);
                if (one && other) {
                    rest.add(10 * i + j);
                }
            }
        }
        return what == 0 ? rest.size() : rest.isEmpty() ? -1 : rest.get(0);
    }

    private long seed;

    private int draw(int n) {
        seed = seed * 1103515245L + 12345L & 0xffffffffL;
        return (int) (seed / 65536 % 32768 % n);
    }

    int drawn(int firstSeed, int n, int what) {
        what(what, 2);
        sixty(n);
        seed = firstSeed & 0xffffffffL;
        World w = now.copy();
        for (int i = 0; i < n; i++) {
            int side = draw(6);
            if (side == 0 && !w.people.isEmpty()) {
                Person one = w.people.get(draw(w.people.size()));
                one.grief = Math.min(99, one.grief + 15);
            }
            if (side == 1 && !w.brides.isEmpty()) {
                Bride one = w.brides.get(draw(w.brides.size()));
                one.day += one.home && one.day >= w.day ? 2 : 0;
            }
            w.pass(1);
        }
        int gone = w.brides.size() - Integer.bitCount(w.home());
        return what == 0 ? gone : what == 1 ? w.dog - now.dog : w.griefOfAll();
    }

    void image() {
        imageWorld = now.copy();
        imageActs = new ArrayDeque<>();
        acts.forEach(w -> imageActs.addLast(w.copy()));
        imageSeen = new ArrayList<>(seen);
        imageStatus = status.clone();
    }

    boolean restore() {
        if (imageWorld == null) {
            return false;
        }
        now = imageWorld.copy();
        acts = new ArrayDeque<>();
        imageActs.forEach(w -> acts.addLast(w.copy()));
        seen = new ArrayList<>(imageSeen);
        status = imageStatus.clone();
        return true;
    }
}
