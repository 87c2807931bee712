/** Promises 16 to 37: what would be, what weighs how, what is seen, hidden, played and drawn. */
public final class QuestionTest {
    private static final String FOUR = "father 40 3 0;friend 30 1 2;suitor 60 0 5;beast 20 9 0;"
            + "bride 2;bride 2;bride 5;tie 0 0 20;tie 1 0 10;tie 2 0 1;tie 0 1 15;tie 3 1 12;tie 1 2 5;";

    private static final String BEASTS = "beast 0 0 0;beast 90 0 0;bride 4;bride 60;";

    private QuestionTest() {
    }

    private static void leader() {
        GivenAway x = Check.of(FOUR);
        Check.due("leader 0", x.leader(0), 0);
        Check.due("leader 1", x.leader(1), 0);
        Check.due("leader 2", x.leader(2), 1);
        Check.noSuch("leader(3)", () -> x.leader(3));
        Check.noSuch("leader(-1)", () -> x.leader(-1));
        x.putOff(2, 59);
        Check.due("on the 60th day", x.leader(2), 1);
        x.putOff(2, 60);
        Check.due("not in 60 days", x.leader(2), -1);
        x.days(3);
        Check.due("in 60 days now", x.leader(2), 1);
        Check.due("gone", x.leader(0), 0);
        Check.due("nothing changes", x.count(3), 3);
        GivenAway dog = Check.of("beast 0 0 0;bride 0;tie 0 0 1;weighs 0;");
        Check.due("the dog", dog.leader(0), -1);
    }

    private static void thenAndLed() {
        GivenAway x = Check.of(FOUR);
        Check.due("then(0, 0)", x.then(0, 0), 40);
        Check.due("then(0, 2)", x.then(0, 2), 46);
        Check.due("then(0, 3)", x.then(0, 3), 14);
        Check.due("then(0, 60)", x.then(0, 60), 99);
        Check.illegal("then(0, -1)", () -> x.then(0, -1));
        Check.illegal("then(0, 61)", () -> x.then(0, 61));
        Check.noSuch("then(4, 61)", () -> x.then(4, 61));
        Check.due("led(0, 2)", x.led(0, 2), 0);
        Check.due("led(0, 3)", x.led(0, 3), 2);
        Check.due("led(1, 60)", x.led(1, 60), 1);
        Check.illegal("led(0, -1)", () -> x.led(0, -1));
        Check.illegal("led(0, 61)", () -> x.led(0, 61));
        Check.noSuch("led(-1, 61)", () -> x.led(-1, 61));
        x.days(3);
        Check.due("from now on", x.led(0, 60), 0);
        Check.due("from now on", x.led(1, 3), 1);
        Check.due("led(1, 0)", x.led(1, 0), 0);
    }

    private static void dogAndBusiest() {
        GivenAway x = Check.of("beast 1 0 0;friend 90 0 0;bride 0;bride 59;bride 60;bride 3;bride 3;bride 1;"
                + "tie 0 3 1;tie 1 4 1;tie 1 5 1;");
        Check.due("the dog", x.dog(), 2);
        Check.due("busiest(0)", x.busiest(0), -1);
        Check.due("busiest(1)", x.busiest(1), -1);
        Check.due("busiest(2)", x.busiest(2), 1);
        Check.due("busiest(4)", x.busiest(4), 1);
        Check.illegal("busiest(-1)", () -> x.busiest(-1));
        Check.illegal("busiest(61)", () -> x.busiest(61));
        x.days(2);
        Check.due("of like ones the least", x.busiest(2), 0);
        Check.due("the dog from now on", x.dog(), 2);
        Check.due("the dog so far", x.count(5), 1);
    }

    private static void rank() {
        GivenAway x = Check.of(FOUR);
        Check.due("rank(0, 0)", x.rank(0, 0), 0);
        Check.due("rank(1, 0)", x.rank(1, 0), 2);
        Check.due("rank(2, 0)", x.rank(2, 0), 1);
        Check.due("rank(3, 0)", x.rank(3, 0), -1);
        Check.noSuch("rank(4, 0)", () -> x.rank(4, 0));
        Check.noSuch("rank(0, 3)", () -> x.rank(0, 3));
        GivenAway like = Check.of("beast 1 0 0;beast 1 0 0;beast 1 0 0;bride 0;tie 2 0 5;tie 1 0 5;");
        Check.due("like, less", like.rank(1, 0), 0);
        Check.due("like, more", like.rank(2, 0), 1);
        like.days(1);
        Check.due("of one gone", like.rank(1, 0), 1);
    }

    private static void toTrain() {
        GivenAway x = Check.of(FOUR);
        Check.due("toTrain(2, 0)", x.toTrain(2, 0), 6);
        Check.due("toTrain(0, 0)", x.toTrain(0, 0), 0);
        Check.due("beasts don't mourn", x.toTrain(3, 1), -1);
        Check.due("no tie", x.toTrain(3, 0), -1);
        Check.due("trains stay", x.person(2, 2), 0);
        String beside = "friend 20 0 0;bride 1;tie 0 0 1;tie 1 0 1;";
        Check.due("9 at most", Check.of("beast 28 0 0;" + beside).toTrain(1, 0), 9);
        Check.due("10 would be too many", Check.of("beast 29 0 0;" + beside).toTrain(1, 0), -1);
        x.days(3);
        Check.due("gone", x.toTrain(0, 0), -1);
        Check.noSuch("toTrain(4, 0)", () -> x.toTrain(4, 0));
        Check.noSuch("toTrain(0, 3)", () -> x.toTrain(0, 3));
    }

    private static void instead() {
        GivenAway x = Check.of(FOUR);
        Check.due("instead(0)", x.instead(0), 3);
        Check.due("instead(1)", x.instead(1), 4);
        Check.due("instead(2)", x.instead(2), 0);
        Check.noSuch("instead(4)", () -> x.instead(4));
        Check.due("ties stay", x.count(2), 6);
        x.days(3);
        Check.due("of those at home", x.instead(0), 0);
        GivenAway rivals = Check.of("friend 9 0 0;friend 5 0 0;friend 1 0 0;bride 0;tie 0 0 1;tie 1 0 1;tie 2 0 1;"
                + "weighs grief*(rivals=2)+years*(rivals=1)*(2-kind);");
        Check.due("rivals are fewer then", rivals.leader(0), 0);
        Check.due("instead(2)", rivals.instead(2), 0);
        Check.due("instead(0)", rivals.instead(0), 1);
    }

    private static void bestDay() {
        GivenAway x = Check.of(FOUR);
        Check.due("day", x.bestDay(2, 0), 30);
        Check.due("weight", x.bestDay(2, 1), 65);
        Check.due("the first of like ones", x.bestDay(1, 0), 28);
        Check.due("weight", x.bestDay(1, 1), 114);
        Check.noSuch("bestDay(3, 0)", () -> x.bestDay(3, 0));
        Check.noSuch("bestDay(0, 2)", () -> x.bestDay(0, 2));
        Check.noSuch("bestDay(0, -1)", () -> x.bestDay(0, -1));
        Check.due("the wedding stays", x.bride(1, 0), 2);
        x.days(3);
        Check.due("gone", x.bestDay(0, 0), -1);
        Check.due("gone", x.bestDay(0, 1), -1);
        GivenAway dog = Check.of("beast 0 0 9;bride 60;bride 5;tie 0 0 1;weighs day*(day-20)*(25-day);");
        Check.due("the dog only", dog.bestDay(1, 0), -1);
        Check.due("the dog only", dog.bestDay(1, 1), -1);
        Check.due("day", dog.bestDay(0, 0), 23);
        Check.due("weight", dog.bestDay(0, 1), 23 * 3 * 2);
        GivenAway late = Check.of("beast 0 0 0;bride 0;tie 0 0 1;weighs day;");
        late.putOff(0, 999);
        for (int i = 0; i < 49; i++) {
            late.days(20);
        }
        Check.due("999 at most", late.bestDay(0, 0), 999);
        late.undo();
        Check.due("30 more", late.bestDay(0, 0), 990);
    }

    private static void choice() {
        GivenAway x = Check.of(FOUR);
        Check.due("how much", x.choice(-1), 51 + 55 + 31);
        Check.due("who", x.choice(0), 2);
        Check.due("who", x.choice(1), 0);
        Check.due("who", x.choice(2), 1);
        Check.noSuch("choice(3)", () -> x.choice(3));
        Check.noSuch("choice(-2)", () -> x.choice(-2));
        x.days(3);
        Check.due("gone", x.choice(0), -1);
        Check.due("of those at home", x.choice(-1), 38);
        GivenAway like = Check.of("beast 5 0 0;beast 5 0 0;bride 9;bride 9;bride 9;"
                + "tie 0 0 1;tie 1 0 1;tie 0 1 1;tie 1 1 1;tie 0 2 1;tie 1 2 1;");
        Check.due("how much", like.choice(-1), 12);
        Check.due("the first row", like.choice(0), 0);
        Check.due("the first row", like.choice(1), 1);
        Check.due("nobody behind all", like.choice(2), -1);
        GivenAway nothing = Check.of("beast 0 0 9;bride 9;bride 9;tie 0 0 1;tie 0 1 1;");
        Check.due("nothing", nothing.choice(-1), 0);
        Check.due("one who weighs nothing", nothing.choice(0), 0);
        Check.due("nobody", nothing.choice(1), -1);
        Check.due("no bride", Check.of("beast 1 1 1;").choice(-1), 0);
    }

    private static void unlovedAndCrowd() {
        GivenAway x = Check.of("beast 5 0 0;bride 3;bride 2;bride 3;bride 2;bride 7;tie 0 0 1;tie 0 2 1;");
        Check.due("unloved", x.unloved(), 26);
        Check.due("crowd day", x.crowd(0), 2);
        Check.due("crowd", x.crowd(1), 2);
        Check.noSuch("crowd(2)", () -> x.crowd(2));
        Check.noSuch("crowd(-1)", () -> x.crowd(-1));
        x.days(3);
        Check.due("unloved at home", x.unloved(), 16);
        Check.due("crowd day", x.crowd(0), 3);
        Check.due("crowd", x.crowd(1), 2);
        x.days(1);
        Check.due("crowd of one", x.crowd(0), 7);
        Check.due("crowd of one", x.crowd(1), 1);
        x.days(4);
        Check.due("none", x.crowd(0), -1);
        Check.due("none", x.crowd(1), 0);
        Check.due("unloved", x.unloved(), 0);
    }

    private static void tugAndDecisive() {
        GivenAway x = Check.of(FOUR);
        Check.due("tug(0)", x.tug(0), 3);
        Check.due("tug(1)", x.tug(1), 1);
        Check.due("tug(2)", x.tug(2), 2);
        Check.noSuch("tug(3)", () -> x.tug(3));
        for (int p = 0; p < 3; p++) {
            Check.due("decisive " + p, x.decisive(p, 0), 2);
        }
        Check.due("no tie", x.decisive(3, 0), 0);
        Check.due("one of two", x.decisive(0, 1), 2);
        Check.due("other of two", x.decisive(3, 1), 0);
        Check.noSuch("decisive(4, 0)", () -> x.decisive(4, 0));
        Check.noSuch("decisive(0, 3)", () -> x.decisive(0, 3));
        x.days(3);
        Check.due("of one gone", x.tug(0), 3);
        GivenAway even = Check.of("beast 3 0 0;beast 3 0 0;beast 0 0 9;bride 1;bride 1;bride 1;"
                + "tie 0 0 1;tie 1 0 1;tie 2 1 1;");
        Check.due("half is not more", even.tug(0), 3);
        Check.due("both are decisive", even.decisive(1, 0), 1);
        Check.due("all weigh nothing", even.tug(1), -1);
        Check.due("none is decisive", even.decisive(2, 1), 0);
        Check.due("nobody", even.tug(2), -1);
    }

    private static void stepsAndCommon() {
        GivenAway x = Check.of("beast 1 1 1;beast 1 1 1;beast 1 1 1;beast 1 1 1;beast 1 1 1;bride 0;bride 1;bride 2;"
                + "tie 0 0 1;tie 1 0 1;tie 1 1 1;tie 2 1 1;tie 2 2 1;tie 3 2 1;tie 3 1 1;");
        Check.due("oneself", x.steps(4, 4), 0);
        Check.due("one step", x.steps(0, 1), 1);
        Check.due("two steps", x.steps(0, 2), 2);
        Check.due("two steps", x.steps(3, 0), 2);
        Check.due("none", x.steps(0, 4), -1);
        Check.due("none", x.steps(4, 0), -1);
        Check.noSuch("steps(5, 0)", () -> x.steps(5, 0));
        Check.noSuch("steps(0, -1)", () -> x.steps(0, -1));
        Check.due("common", x.common(2, 3), 6);
        Check.due("common", x.common(0, 1), 1);
        Check.due("nothing", x.common(0, 2), 0);
        Check.due("one's own", x.common(1, 1), 3);
        Check.due("none", x.common(4, 4), 0);
        Check.noSuch("common(5, 0)", () -> x.common(5, 0));
        Check.noSuch("common(0, 5)", () -> x.common(0, 5));
        x.days(3);
        Check.due("by brides gone too", x.steps(0, 2), 2);
        Check.due("by brides gone too", x.common(2, 3), 6);
        StringBuilder chain = new StringBuilder("beast 1 1 1;".repeat(7) + "bride 1;".repeat(6));
        for (int b = 0; b < 6; b++) {
            chain.append("tie ").append(b).append(' ').append(b).append(" 1;");
            chain.append("tie ").append(b + 1).append(' ').append(b).append(" 1;");
        }
        Check.due("six steps", Check.of(chain.toString()).steps(0, 6), 6);
    }

    private static void see() {
        GivenAway x = Check.of(FOUR);
        Check.due("both are one", x.see(0, 0, 1, 1, true), -1);
        Check.due("not 0 to 20", x.see(0, 21, 0, 1, true), -1);
        Check.due("not 0 to 20", x.see(0, -1, 0, 1, true), -1);
        Check.noSuch("see of no bride", () -> x.see(3, 21, 0, 0, true));
        Check.noSuch("see of no person", () -> x.see(0, 0, 4, 0, true));
        Check.noSuch("see of no other", () -> x.see(0, 0, 0, -1, true));
        for (int i = 1; i <= 8; i++) {
            Check.due("see", x.see(0, 20, 0, 1, true), i);
        }
        Check.due("there are 8", x.see(0, 0, 0, 1, true), -1);
        Check.due("status", x.count(12), 4);
        Check.due("seen", x.count(8), 8);
        x.forget();
        Check.due("forgotten", x.count(8), 0);
        Check.due("status stays", x.count(12), 4);
        Check.due("anew", x.see(0, 0, 0, 1, true), 1);
    }

    private static void hidden() {
        GivenAway x = Check.of(FOUR);
        Check.due("all", x.hidden(0), 36);
        Check.due("first", x.hidden(1), 1);
        Check.due("without", x.hidden(2), 1);
        Check.noSuch("hidden(3)", () -> x.hidden(3));
        Check.noSuch("hidden(-1)", () -> x.hidden(-1));
        x.see(0, 0, 2, 0, true);
        Check.due("by 6", x.hidden(0), 6);
        Check.due("first", x.hidden(1), 5);
        Check.due("not without", x.hidden(2), 0);
        x.see(0, 2, 2, 0, true);
        Check.due("by father's 8 and 9", x.hidden(0), 2);
        Check.due("first", x.hidden(1), 8);
        x.see(0, 2, 2, 0, false);
        Check.due("by none", x.hidden(0), 0);
        Check.due("none", x.hidden(1), -1);
        Check.due("next of none", x.next(0), -1);
        Check.due("next of none", x.next(1), 0);
        x.forget();
        x.see(2, 0, 1, 0, true);
        Check.due("without a tie one weighs -1", x.hidden(2), 1);
        x.see(2, 0, 3, 0, false);
        Check.due("like without ties", x.hidden(2), 1);
        x.forget();
        x.see(0, 2, 2, 0, false);
        Check.due("ahead of what the day does", x.hidden(2), 1);
        x.see(0, 3, 2, 0, true);
        Check.due("behind it", x.hidden(2), 1);
        x.days(2);
        Check.due("from now on: it's not so that day", x.hidden(2), 0);
    }

    private static void next() {
        GivenAway x = Check.of(FOUR);
        Check.noSuch("next(2)", () -> x.next(2));
        Check.noSuch("next(-1)", () -> x.next(-1));
        x.see(0, 0, 2, 0, true);
        Check.due("bride", x.next(0), 0);
        Check.due("unlike", x.next(1), 2);
        GivenAway other = Check.of("beast 2 0 0;friend 9 0 0;bride 0;bride 0;bride 60;tie 1 0 1;tie 0 1 8;tie 1 1 2;");
        Check.due("of bride 1: 0, 1", other.next(1), 2);
        other.days(1);
        Check.due("all are alike then", other.next(1), 1);
        Check.due("the least", other.next(0), 0);
        Check.due("no bride", Check.of("beast 2 0 0;").next(0), -1);
        Check.due("no bride", Check.of("beast 2 0 0;").next(1), 0);
        Check.due("nobody", Check.of("bride 2;").next(0), -1);
        GivenAway only = Check.of("father 9 0 2;beast 8 0 0;bride 0;tie 0 0 1;tie 1 0 1;weighs grief-2*onions*(kind=0);");
        only.see(0, 0, 0, 1, true);
        Check.due("by no onions of the first alone", only.hidden(0), 1);
        Check.due("the first", only.hidden(1), 0);
        Check.due("one leader", only.next(1), 1);
        Check.due("bride", only.next(0), 0);
        lookingAhead();
        GivenAway none = Check.of("beast 9 0 0;bride 0;bride 0;tie 0 1 2;");
        Check.due("none is one", none.next(1), 2);
        Check.due("bride", none.next(0), 1);
    }

    private static void lookingAhead() {
        String text = "beast 0 0 0;beast 20 0 0;bride 1;bride 40;tie 0 1 1;tie 1 1 1;mourns onions*(1-day/60);";
        GivenAway x = Check.of(text);
        x.see(0, 20, 0, 1, false);
        Check.due("onions make grief", x.next(1), 2);
        Check.due("bride", x.next(0), 1);
        x.putOff(1, 59);
        Check.due("on the 60th day from now", x.next(1), 2);
        x.putOff(1, 60);
        Check.due("not in 60 days from now, however far is seen", x.next(1), 1);
    }

    private static void game() {
        GivenAway x = Check.of(FOUR);
        Check.due("rests", x.game(0, 2, 0, 0), 1);
        Check.due("first", x.game(0, 2, 0, 1), 0);
        Check.noSuch("game(4, 0, 0, 0)", () -> x.game(4, 0, 0, 0));
        Check.noSuch("game(0, 4, 0, 0)", () -> x.game(0, 4, 0, 0));
        Check.noSuch("game(0, 1, 3, 0)", () -> x.game(0, 1, 3, 0));
        Check.noSuch("game(0, 0, 0, 2)", () -> x.game(0, 0, 0, 2));
        Check.noSuch("game(0, 0, 0, -1)", () -> x.game(0, 0, 0, -1));
        Check.illegal("both are one", () -> x.game(0, 0, 0, 0));
        Check.illegal("no tie", () -> x.game(0, 3, 0, 0));
        Check.illegal("no tie", () -> x.game(3, 0, 0, 1));
        x.days(3);
        Check.illegal("gone", () -> x.game(0, 2, 0, 0));
        // On day 2 father weighs 10 + 1 (by training 6 more, by onions 2 less), friend 12 + 1 likewise:
        // who trains against onions leads; of two that do the same friend leads.
        GivenAway pair = Check.of("father 10 0 0;friend 12 0 0;bride 2;tie 0 0 1;tie 1 0 1;");
        Check.due("onions and onions: father would train", pair.game(0, 1, 0, 0), 0);
        Check.due("none rests", pair.game(0, 1, 0, 1), -1);
        // A like choice gives way to the least, so father leads by doing the same: friend trains, then he.
        GivenAway even = Check.of("friend 10 9 9;father 10 9 9;bride 0;tie 0 0 9;tie 1 0 9;");
        Check.due("9 at most: nothing changes", even.game(1, 0, 0, 0), 1);
        Check.due("onions both", even.game(1, 0, 0, 1), 0);
        // Beside a third one who leads anyway training only loses.
        GivenAway third = Check.of("father 10 0 0;friend 12 0 0;beast 99 0 0;bride 2;tie 0 0 1;tie 1 0 1;tie 2 0 9;");
        Check.due("onions both", third.game(0, 1, 0, 0), 1);
        Check.due("onions both", third.game(0, 1, 0, 1), 0);
    }

    private static void restingByTraining() {
        // Friend leads only if he trains (9 days of 3), whatever father, who is far behind, does.
        GivenAway x = Check.of("father 1 0 0;friend 10 0 0;beast 30 0 0;bride 9;tie 0 0 1;tie 1 0 1;tie 2 0 1;");
        Check.due("one couple rests", x.game(0, 1, 0, 0), 1);
        Check.due("onions, training", x.game(0, 1, 0, 1), 1);
        Check.due("training, onions", x.game(1, 0, 0, 1), 10);
    }

    private static int drawOf(int[] seed, int n) {
        seed[0] = seed[0] * 1103515245 + 12345;
        return (seed[0] >>> 16 & 32767) % n;
    }

    private static void drawn() {
        GivenAway x = Check.of(FOUR);
        Check.due("nothing yet", x.drawn(5, 0, 0), 0);
        Check.due("nothing yet", x.drawn(5, 0, 1), 0);
        Check.due("grief", x.drawn(5, 0, 2), 150);
        Check.illegal("61 days", () -> x.drawn(5, 61, 0));
        Check.illegal("-1 days", () -> x.drawn(5, -1, 2));
        Check.noSuch("drawn what 3", () -> x.drawn(5, 61, 3));
        Check.noSuch("drawn what -1", () -> x.drawn(5, 0, -1));
        for (int first = -300; first < 300; first++) {
            GivenAway beasts = Check.of(BEASTS);
            int[] seed = {first};
            int[] grief = {0, 90};
            int[] wedding = {4, 60};
            int dog = 0;
            for (int day = 0; day < 7; day++) {
                int side = drawOf(seed, 6);
                if (side == 0) {
                    int who = drawOf(seed, 2);
                    grief[who] = Math.min(99, grief[who] + 15);
                } else if (side == 1) {
                    int bride = drawOf(seed, 2);
                    wedding[bride] += wedding[bride] >= day ? 2 : 0;
                }
                dog += wedding[0] == day ? 1 : 0;
            }
            Check.due("gone by " + first, beasts.drawn(first, 7, 0), dog);
            Check.due("the dog's by " + first, beasts.drawn(first, 7, 1), dog);
            Check.due("grief by " + first, beasts.drawn(first, 7, 2), grief[0] + grief[1]);
            Check.due("nothing changes", beasts.count(6), 90);
        }
        GivenAway beasts = Check.of(BEASTS);
        beasts.days(5);
        Check.due("gone ahead of these days counts", beasts.drawn(1, 0, 0), 1);
        Check.due("the dog's in these days", beasts.drawn(1, 0, 1), 0);
        nothingOfNone();
    }

    private static void nothingOfNone() {
        GivenAway people = Check.of("beast 0 0 0;");
        GivenAway brides = Check.of("bride 9;");
        for (int first = 0; first < 300; first++) {
            int[] seed = {first};
            int grief = 0;
            int[] other = {first};
            int wedding = 9;
            for (int day = 0; day < 20; day++) {
                if (drawOf(seed, 6) == 0) {
                    drawOf(seed, 1);
                    grief = Math.min(99, grief + 15);
                }
                if (drawOf(other, 6) == 1) {
                    drawOf(other, 1);
                    wedding += wedding >= day ? 2 : 0;
                }
            }
            Check.due("no bride is drawn by " + first, people.drawn(first, 20, 2), grief);
            Check.due("nobody is drawn by " + first, brides.drawn(first, 20, 0), wedding < 20 ? 1 : 0);
        }
    }

    public static void main(String[] args) {
        leader();
        thenAndLed();
        dogAndBusiest();
        rank();
        toTrain();
        instead();
        bestDay();
        choice();
        unlovedAndCrowd();
        tugAndDecisive();
        stepsAndCommon();
        see();
        hidden();
        next();
        game();
        restingByTraining();
        drawn();
        Check.end("QuestionTest");
    }
}
