/** Boundary cases of promises 16 to 31, and of the terms LEADER to STEPS. */
final class EdgeQuestions {
    private static final String NINE = "beast 1 1 1;".repeat(9);
    private static final int[] FAR = {Integer.MIN_VALUE, Integer.MAX_VALUE};

    private EdgeQuestions() {
    }

    static void all() {
        leader();
        leaderOfGone();
        then();
        led();
        dog();
        rank();
        toTrain();
        leastTrains();
        instead();
        otherwise();
        bestDay();
        daysToTry();
        lastDaysToTry();
        weightOfBestDay();
        choice();
        likeChoices();
        unloved();
        tug();
        decisive();
        steps();
        busiest();
        crowd();
        common();
    }

    /** Six TIES of one person with BRIDES 0 to 5. */
    private static String sixTies(int p, int years) {
        StringBuilder text = new StringBuilder();
        for (int b = 0; b < 6; b++) {
            text.append("tie ").append(p).append(' ').append(b).append(' ').append(years).append(';');
        }
        return text.toString();
    }

    /** Nine TIES with BRIDE 0. */
    private static String nineTies() {
        StringBuilder text = new StringBuilder();
        for (int p = 0; p < 9; p++) {
            text.append("tie ").append(p).append(" 0 1;");
        }
        return text.toString();
    }

    private static GivenAway onDay(GivenAway x, int day) {
        for (int left = day - x.count(3); left > 0; left -= 20) {
            x.days(Math.min(20, left));
        }
        return x;
    }

    private static void leader() {
        Edge.promise(16);
        Edge.asked("leader(0)", 0, x -> x.leader(0));
        Edge.asked("leader(1)", 2, x -> x.leader(1));
        Edge.asked("leader(2)", 1, x -> x.leader(2));
        Edge.noSuch("leader(-1)", x -> x.leader(-1));
        Edge.noSuch("leader(3)", x -> x.leader(3));
        for (int far : FAR) {
            Edge.noSuch("leader(" + far + ")", x -> x.leader(far));
        }
        Edge.term("LEADER");
        GivenAway x = Check.of("beast 1 0 0;bride 0;bride 59;bride 60;bride 0;bride 59;tie 0 0 1;tie 0 1 1;tie 0 2 1;");
        Edge.due("on this DAY", x.leader(0), 0);
        Edge.due("on the last of 60 DAYS", x.leader(1), 0);
        Edge.due("on the DAY behind 60", x.leader(2), -1);
        Edge.due("the dog on this DAY", x.leader(3), -1);
        Edge.due("the dog on the last of 60 DAYS", x.leader(4), -1);
        x.days(1);
        Edge.due("on the last of 60 DAYS from now on", x.leader(2), 0);
        x.putOff(1, 999);
        Edge.due("not in 60 DAYS", x.leader(1), -1);
        onDay(x, 939);
        Edge.due("61 DAYS from DAY 939", x.leader(1), -1);
        x.days(1);
        Edge.due("60 DAYS from DAY 940", x.leader(1), 0);
        onDay(x, 999);
        Edge.due("on DAY 999", x.leader(1), 0);
        Edge.due("one GONE, who did", x.leader(2), 0);
    }

    private static void leaderOfGone() {
        Edge.term("LEADER");
        GivenAway x = Check.of("beast 9 0 0;beast 8 0 0;bride 0;bride 0;bride 1;tie 0 0 1;tie 1 0 1;tie 0 2 1;tie 1 2 1;");
        Edge.due("ahead of it", x.leader(0), 0);
        Edge.due("behind another's wedding", x.leader(2), 1);
        x.days(1);
        Edge.due("of one GONE: who did", x.leader(0), 0);
        Edge.due("who weighs most now is another", x.bride(0, 4), 1);
        Edge.due("of one GONE with the dog", x.leader(1), -1);
        x.tie(0, 1, 40);
        Edge.due("a TIE with her is too late", x.leader(1), -1);
        GivenAway one = Check.of("beast 0 0 1;bride 0;bride 1;tie 0 0 1;tie 0 1 1;");
        Edge.due("who weighs 0 doesn't", one.leader(0), -1);
        Edge.due("who weighs 1 does", one.leader(1), 0);
    }

    private static void then() {
        Edge.promise(17);
        Edge.asked("then(2, 0)", 72, x -> x.then(2, 0));
        Edge.asked("then(2, 60)", 99, x -> x.then(2, 60));
        Edge.illegal("then(2, -1)", x -> x.then(2, -1));
        Edge.illegal("then(2, 61)", x -> x.then(2, 61));
        Edge.noSuch("then(-1, 0)", x -> x.then(-1, 0));
        Edge.noSuch("then(3, 0)", x -> x.then(3, 0));
        Edge.noSuch("then(3, 61)", x -> x.then(3, 61));
        Edge.noSuch("then(-1, -1)", x -> x.then(-1, -1));
        for (int far : FAR) {
            Edge.illegal("then(0, " + far + ")", x -> x.then(0, far));
            Edge.noSuch("then(" + far + ", 0)", x -> x.then(far, 0));
        }
        Edge.term("THEN");
        GivenAway x = Check.of("father 0 1 0;father 99 1 0;bride 59;bride 60;tie 1 0 1;tie 1 1 1;");
        for (int days : new int[] {0, 1, 2, 59, 60}) {
            Edge.due("in " + days + " DAYS", x.then(0, days), days);
        }
        Edge.due("ahead of the last wedding", x.then(1, 59), 99);
        Edge.due("half of it behind DAY 59", x.then(1, 60), 50);
    }

    private static void led() {
        Edge.promise(18);
        Edge.asked("led(2, 0)", 0, x -> x.led(2, 0));
        Edge.asked("led(2, 6)", 0, x -> x.led(2, 6));
        Edge.asked("led(2, 7)", 1, x -> x.led(2, 7));
        Edge.asked("led(0, 60): not who was led ahead", 0, x -> x.led(0, 60));
        Edge.illegal("led(2, -1)", x -> x.led(2, -1));
        Edge.illegal("led(2, 61)", x -> x.led(2, 61));
        Edge.noSuch("led(-1, 0)", x -> x.led(-1, 0));
        Edge.noSuch("led(3, 0)", x -> x.led(3, 0));
        Edge.noSuch("led(3, 61)", x -> x.led(3, 61));
        for (int far : FAR) {
            Edge.illegal("led(0, " + far + ")", x -> x.led(0, far));
            Edge.noSuch("led(" + far + ", 0)", x -> x.led(far, 0));
        }
        Edge.term("LED");
        GivenAway x = Check.of("beast 99 0 0;bride 0;bride 59;bride 60;" + "tie 0 0 1;tie 0 1 1;tie 0 2 1;");
        Edge.due("in 0 DAYS", x.led(0, 0), 0);
        Edge.due("in 1 DAY", x.led(0, 1), 1);
        Edge.due("in 59 DAYS", x.led(0, 59), 1);
        Edge.due("in 60 DAYS", x.led(0, 60), 2);
        x.days(1);
        Edge.due("in 0 DAYS from now on", x.led(0, 0), 0);
        Edge.due("in 60 DAYS from now on", x.led(0, 60), 2);
        GivenAway all = Check.of("beast 99 0 0;" + "bride 0;".repeat(6) + sixTies(0, 1));
        Edge.due("all", all.led(0, 1), 6);
    }

    private static void dog() {
        Edge.promise(19);
        Edge.asked("dog()", 0, x -> x.dog());
        Edge.term("THE DOG");
        GivenAway x = Check.of("bride 0;bride 59;bride 60;");
        Edge.due("in 60 DAYS", x.dog(), 2);
        x.days(1);
        Edge.due("in 60 DAYS from now on", x.dog(), 2);
        Edge.due("so far", x.count(5), 1);
        onDay(x, 60);
        Edge.due("the last", x.dog(), 1);
        x.days(1);
        Edge.due("none any more", x.dog(), 0);
        Edge.due("all six", Check.of("bride 0;".repeat(6)).dog(), 6);
        Edge.due("no BRIDE", Check.of("beast 1 1 1;").dog(), 0);
        Edge.due("who weighs 0", Check.of("beast 1 0 1;bride 0;tie 0 0 1;").dog(), 1);
        Edge.due("who weighs 1", Check.of("beast 2 0 1;bride 0;tie 0 0 1;").dog(), 0);
    }

    private static void rank() {
        Edge.promise(20);
        Edge.asked("rank(1, 0)", 0, x -> x.rank(1, 0));
        Edge.asked("rank(0, 0)", 1, x -> x.rank(0, 0));
        Edge.asked("rank(2, 0)", -1, x -> x.rank(2, 0));
        Edge.noSuch("rank(-1, 0)", x -> x.rank(-1, 0));
        Edge.noSuch("rank(3, 0)", x -> x.rank(3, 0));
        Edge.noSuch("rank(0, -1)", x -> x.rank(0, -1));
        Edge.noSuch("rank(0, 3)", x -> x.rank(0, 3));
        for (int far : FAR) {
            Edge.noSuch("rank(" + far + ", 0)", x -> x.rank(far, 0));
            Edge.noSuch("rank(0, " + far + ")", x -> x.rank(0, far));
        }
        Edge.term("RANK");
        GivenAway x = Check.of(NINE + "bride 9;bride 9;bride 9;" + nineTies() + "tie 4 1 1;tie 5 1 2;tie 3 2 1;");
        for (int p = 0; p < 9; p++) {
            Edge.due("of nine like ones, " + p, x.rank(p, 0), p);
        }
        x.train(8, 1);
        x.tie(8, 0, 2);
        Edge.due("the last weighs 1 more", x.rank(8, 0), 0);
        Edge.due("the first behind", x.rank(0, 0), 1);
        Edge.due("who weighs less", x.rank(4, 1), 1);
        Edge.due("who weighs more", x.rank(5, 1), 0);
        Edge.due("one alone", x.rank(3, 2), 0);
        Edge.due("without a TIE", x.rank(4, 2), -1);
        GivenAway nothing = Check.of("beast 0 0 9;beast 0 0 9;bride 0;tie 0 0 1;tie 1 0 1;");
        Edge.due("nothing, the first", nothing.rank(0, 0), 0);
        Edge.due("nothing, the next", nothing.rank(1, 0), 1);
        nothing.days(1);
        Edge.due("for one GONE", nothing.rank(1, 0), 1);
    }

    private static void toTrain() {
        Edge.promise(21);
        Edge.asked("toTrain(2, 1)", 0, x -> x.toTrain(2, 1));
        Edge.asked("toTrain(1, 1) without a TIE", -1, x -> x.toTrain(1, 1));
        Edge.asked("toTrain(0, 0) of one GONE", -1, x -> x.toTrain(0, 0));
        Edge.noSuch("toTrain(-1, 0)", x -> x.toTrain(-1, 0));
        Edge.noSuch("toTrain(3, 0)", x -> x.toTrain(3, 0));
        Edge.noSuch("toTrain(0, -1)", x -> x.toTrain(0, -1));
        Edge.noSuch("toTrain(0, 3)", x -> x.toTrain(0, 3));
        for (int far : FAR) {
            Edge.noSuch("toTrain(" + far + ", 0)", x -> x.toTrain(far, 0));
            Edge.noSuch("toTrain(0, " + far + ")", x -> x.toTrain(0, far));
        }
    }

    private static int trainsBeside(int grief, int wedding) {
        return Check.of("beast " + grief + " 0 0;friend 20 5 0;bride " + wedding + ";tie 0 0 1;tie 1 0 1;").toTrain(1, 0);
    }

    private static void leastTrains() {
        Edge.term("TO TRAIN");
        Edge.due("0, whatever one trains", trainsBeside(19, 1), 0);
        Edge.due("1", trainsBeside(20, 1), 1);
        Edge.due("9 at most", trainsBeside(28, 1), 9);
        Edge.due("10 would be too many", trainsBeside(29, 1), -1);
        Edge.due("too late on this DAY", trainsBeside(20, 0), -1);
        Edge.due("on the last of 60 DAYS", trainsBeside(99, 59), -1);
        Edge.due("1 on the last of 60 DAYS", trainsBeside(78, 59), 1);
        Edge.due("2 on the last of 60 DAYS", trainsBeside(79, 59), 2);
        Edge.due("not in 60 DAYS", trainsBeside(0, 60), -1);
        // Fewer than 6 are too few, and who trains more leads bride 0, so that half of the grief is gone.
        GivenAway some = Check.of("beast 33 0 0;beast 40 0 0;friend 20 0 0;bride 2;bride 4;"
                + "tie 0 0 1;tie 2 0 1;tie 1 1 1;tie 2 1 1;");
        Edge.due("6 alone", some.toTrain(2, 1), 6);
        some.train(2, 9);
        Edge.due("9 would not do", some.leader(1), 1);
        Edge.due("6 alone, whatever one trains now", some.toTrain(2, 1), 6);
    }

    private static void instead() {
        Edge.promise(22);
        Edge.asked("instead(0)", 0, x -> x.instead(0));
        Edge.asked("instead(1)", 4, x -> x.instead(1));
        Edge.asked("instead(2)", 2, x -> x.instead(2));
        Edge.noSuch("instead(-1)", x -> x.instead(-1));
        Edge.noSuch("instead(3)", x -> x.instead(3));
        for (int far : FAR) {
            Edge.noSuch("instead(" + far + ")", x -> x.instead(far));
        }
    }

    private static void otherwise() {
        Edge.term("INSTEAD");
        GivenAway all = Check.of("beast 99 0 0;beast 1 0 0;beast 1 0 0;" + "bride 1;".repeat(6) + sixTies(0, 40)
                + "tie 1 5 1;");
        Edge.due("all six", all.instead(0), 63);
        Edge.due("one who leads none", all.instead(1), 0);
        Edge.due("one without TIES", all.instead(2), 0);
        all.putOff(0, 60);
        Edge.due("one not in 60 DAYS", all.instead(0), 62);
        all.putOff(1, 0);
        all.days(1);
        Edge.due("GONE ones don't count, the other is in 60 DAYS", all.instead(0), 61);
        Edge.due("TIES stay", all.count(2), 7);
        // Without 0 it is 1 who leads bride 0, and by half of the grief 2 who leads bride 1.
        GivenAway chain = Check.of("beast 30 0 0;beast 20 0 0;beast 15 0 0;bride 0;bride 1;"
                + "tie 0 0 1;tie 1 0 1;tie 1 1 1;tie 2 1 1;");
        Edge.due("another one, and another for another's sake", chain.instead(0), 3);
        GivenAway full = Check.of("beast 40 0 0;beast 9 0 0;" + "beast 1 0 0;".repeat(7) + "bride 0;".repeat(6)
                + "tie 0 0 1;tie 0 1 1;tie 1 0 1;tie 8 5 1;");
        Edge.due("of six BRIDES: 1 in place of 0, the dog in place of 0", full.instead(0), 3);
        Edge.due("the last of nine for the last of six", full.instead(8), 32);
        Edge.due("who is behind 0 leads none", full.instead(1), 0);
        GivenAway next = Check.of("beast 40 0 0;beast 30 0 0;" + "bride 0;".repeat(6) + "tie 0 1 1;tie 1 0 1;");
        Edge.due("TIES of the next one stay", next.instead(0), 2);
        Edge.due("TIES of the one ahead stay", next.instead(1), 1);
        GivenAway rivals = Check.of("beast 9 0 0;beast 8 0 0;bride 0;tie 0 0 1;tie 1 0 1;weighs grief*rivals;");
        Edge.due("fewer rivals: the dog in place of 0", rivals.instead(1), 1);
        GivenAway dog = Check.of("beast 0 0 9;bride 0;tie 0 0 1;");
        Edge.due("the dog anyway", dog.instead(0), 0);
    }

    private static void bestDay() {
        Edge.promise(23);
        Edge.asked("bestDay(0, 0) of one GONE", -1, x -> x.bestDay(0, 0));
        Edge.asked("bestDay(0, 1) of one GONE", -1, x -> x.bestDay(0, 1));
        // Her suitor has 99 GRIEF from DAY 10 on; its onions are dry by then, and left is 0 on the day itself.
        Edge.asked("bestDay(1, 0)", 10, x -> x.bestDay(1, 0));
        Edge.asked("bestDay(1, 1)", 102, x -> x.bestDay(1, 1));
        Edge.noSuch("bestDay(-1, 0)", x -> x.bestDay(-1, 0));
        Edge.noSuch("bestDay(3, 0)", x -> x.bestDay(3, 0));
        Edge.noSuch("bestDay(1, -1)", x -> x.bestDay(1, -1));
        Edge.noSuch("bestDay(1, 2)", x -> x.bestDay(1, 2));
        Edge.noSuch("bestDay(0, 2) of one GONE", x -> x.bestDay(0, 2));
        for (int far : FAR) {
            Edge.noSuch("bestDay(" + far + ", 0)", x -> x.bestDay(far, 0));
            Edge.noSuch("bestDay(1, " + far + ")", x -> x.bestDay(1, far));
        }
    }

    private static GivenAway byRule(String rule) {
        return Check.of("beast 1 0 0;bride 60;tie 0 0 1;weighs " + rule + ";");
    }

    private static void best(String what, GivenAway x, int day, int weight) {
        Edge.due(what + ", the DAY", x.bestDay(0, 0), day);
        Edge.due(what + ", the WEIGHT", x.bestDay(0, 1), weight);
    }

    private static void daysToTry() {
        Edge.term("BEST DAY");
        best("this DAY", byRule("day=0"), 0, 1);
        best("30 more", byRule("day=30"), 30, 1);
        best("31 more", byRule("day=31"), -1, -1);
        best("60, her own", byRule("day=60"), -1, -1);
        best("of like ones the first", byRule("5"), 0, 5);
        best("of like ones the first", byRule("7*(day=11)+7*(day=30)"), 11, 7);
        best("the most", byRule("7*(day=11)+8*(day=30)"), 30, 8);
        best("more each DAY", byRule("1+day"), 30, 31);
        best("999", byRule("1000*(day=4)+999*(day=3)"), 3, 999);
        best("the dog on all", byRule("0"), -1, -1);
        GivenAway x = byRule("(day=0)*3+(day=31)");
        best("this DAY", x, 0, 3);
        x.days(1);
        best("30 more from DAY 1", x, 31, 1);
        x.days(1);
        best("30 more from DAY 2", x, 31, 1);
        Edge.due("AT HOME as she was", x.bride(0, 0), 60);
        best("nobody", Check.of("beast 1 0 0;bride 0;"), -1, -1);
    }

    private static void lastDaysToTry() {
        Edge.term("BEST DAY");
        GivenAway x = byRule("day");
        x.putOff(0, 999);
        onDay(x, 968);
        best("30 from DAY 968", x, 998, 998);
        x.days(1);
        best("30 from DAY 969", x, 999, 999);
        x.days(1);
        best("999 at most from DAY 970", x, 999, 999);
        onDay(x, 999);
        best("on DAY 999", x, 999, 999);
        GivenAway over = byRule("(day=1000)*9+(day=999)");
        over.putOff(0, 999);
        onDay(over, 970);
        best("not DAY 1000", over, 999, 1);
        GivenAway only = byRule("day=1000");
        only.putOff(0, 999);
        onDay(only, 970);
        best("DAY 1000 alone", only, -1, -1);
    }

    private static void weightOfBestDay() {
        Edge.term("BEST DAY");
        // On DAY 0 bride 0 takes half of 40; behind it there is nothing more.
        GivenAway x = Check.of("beast 40 0 0;bride 0;bride 5;tie 0 0 1;tie 0 1 1;");
        Edge.due("behind bride 0 on the same DAY", x.bestDay(1, 1), 21);
        Edge.due("of like ones the first", x.bestDay(1, 0), 0);
        Edge.due("bride 0 ahead of bride 1", x.bestDay(0, 1), 41);
        Edge.due("this DAY", x.bestDay(0, 0), 0);
        GivenAway onions = Check.of("beast 0 0 9;bride 5;tie 0 0 1;");
        Edge.due("once ONIONS are dry", onions.bestDay(0, 0), 9);
        Edge.due("1 is more than 0", onions.bestDay(0, 1), 1);
    }

    private static void choice() {
        Edge.promise(24);
        // Bride 1: 73 by 2 or 25 by 0; bride 2: 39 + 4 + 27 / 9 by 1 alone.
        Edge.asked("choice(-1)", 73 + 46, x -> x.choice(-1));
        Edge.asked("choice(0) of one GONE", -1, x -> x.choice(0));
        Edge.asked("choice(1)", 2, x -> x.choice(1));
        Edge.asked("choice(2)", 1, x -> x.choice(2));
        Edge.noSuch("choice(-2)", x -> x.choice(-2));
        Edge.noSuch("choice(3)", x -> x.choice(3));
        for (int far : FAR) {
            Edge.noSuch("choice(" + far + ")", x -> x.choice(far));
        }
        GivenAway six = Check.of(NINE + "bride 1;".repeat(6) + "tie 8 5 3;");
        Edge.due("for the last", six.choice(5), 8);
        Edge.due("nobody for the first", six.choice(0), -1);
        Edge.noSuch("choice(6) of six", six, g -> g.choice(6));
    }

    private static void likeChoices() {
        Edge.term("A CHOICE");
        Edge.due("no BRIDE", Check.of("beast 1 1 1;").choice(-1), 0);
        Edge.due("nobody", Check.of("bride 1;").choice(-1), 0);
        Edge.due("nobody", Check.of("bride 1;").choice(0), -1);
        GivenAway nothing = Check.of("beast 0 0 9;bride 1;bride 1;tie 0 0 1;tie 0 1 1;");
        Edge.due("all weigh nothing", nothing.choice(-1), 0);
        Edge.due("nobody is behind one who weighs nothing", nothing.choice(0), 0);
        Edge.due("nobody has two", nothing.choice(1), -1);
        GivenAway all = Check.of("beast 0 0 0;".repeat(9) + "bride 9;".repeat(6) + sixTies(8, 1) + sixTies(7, 1));
        for (int b = 0; b < 6; b++) {
            for (int p = 0; p < 7; p++) {
                all.tie(p, b, 1);
            }
        }
        Edge.due("54 TIES alike", all.choice(-1), 6);
        for (int b = 0; b < 6; b++) {
            Edge.due("the first row of all, " + b, all.choice(b), b);
        }
        GivenAway six = Check.of("beast 9 0 0;" + "bride 1;bride 1;bride 1;bride 1;bride 1;bride 1;" + sixTies(0, 3));
        Edge.due("one for six", six.choice(-1), 12);
        Edge.due("the first has", six.choice(0), 0);
        Edge.due("the last hasn't", six.choice(5), -1);
        six.tie(0, 5, 4);
        Edge.due("1 more for the last", six.choice(-1), 13);
        Edge.due("the first hasn't", six.choice(0), -1);
        Edge.due("the last has", six.choice(5), 0);
        six.putOff(5, 0);
        six.days(1);
        Edge.due("of those AT HOME", six.choice(-1), 4 + 3);
        GivenAway swap = Check.of("beast 9 0 0;beast 5 0 0;bride 1;bride 1;tie 0 0 10;tie 0 1 5;tie 1 0 9;");
        Edge.due("not the most for the first: 19 alone", swap.choice(-1), 28);
        Edge.due("but the most together", swap.choice(0), 1);
        Edge.due("the other", swap.choice(1), 0);
    }

    private static void unloved() {
        Edge.promise(25);
        Edge.asked("unloved()", 0, x -> x.unloved());
        Edge.term("LOVED");
        GivenAway x = Check.of("beast 1 1 1;" + "bride 0;".repeat(5) + "bride 1;");
        Edge.due("all", x.unloved(), 63);
        x.tie(0, 0, 1);
        Edge.due("all but the first", x.unloved(), 62);
        x.days(1);
        Edge.due("AT HOME", x.unloved(), 32);
        x.tie(0, 5, 1);
        Edge.due("none", x.unloved(), 0);
        x.undo();
        x.days(1);
        Edge.due("none AT HOME", x.unloved(), 0);
        Edge.due("no BRIDE", Check.of("beast 1 1 1;").unloved(), 0);
    }

    private static void tug() {
        Edge.promise(26);
        Edge.asked("tug(0)", 2, x -> x.tug(0));
        Edge.asked("tug(1)", 4, x -> x.tug(1));
        Edge.noSuch("tug(-1)", x -> x.tug(-1));
        Edge.noSuch("tug(3)", x -> x.tug(3));
        for (int far : FAR) {
            Edge.noSuch("tug(" + far + ")", x -> x.tug(far));
        }
        Edge.term("A TUG");
        GivenAway nine = Check.of("beast 1 0 0;".repeat(9) + "bride 1;bride 1;bride 1;bride 1;bride 1;" + nineTies()
                + "tie 8 2 1;tie 3 3 1;tie 6 3 1;tie 3 4 1;tie 6 4 2;tie 7 4 1;");
        Edge.due("five of nine alike, the least as bits", nine.tug(0), 31);
        Edge.due("nobody", nine.tug(1), -1);
        Edge.due("one alone, the last", nine.tug(2), 256);
        Edge.due("half of two is not more", nine.tug(3), 72);
        Edge.due("two of 2, 3, 2: the least as bits", nine.tug(4), 72);
        GivenAway weigh = Check.of("beast 5 0 0;beast 2 0 0;beast 1 0 0;beast 0 0 9;bride 1;bride 1;bride 1;"
                + "tie 0 0 1;tie 1 0 1;tie 2 0 1;tie 3 1 1;tie 0 2 1;tie 1 2 1;tie 2 2 2;");
        Edge.due("6 against 3 and 2", weigh.tug(0), 1);
        Edge.due("all weigh nothing", weigh.tug(1), -1);
        Edge.due("6 against 3 and 3", weigh.tug(2), 3);
        weigh.days(2);
        Edge.due("2, 3 and 2 for one GONE", weigh.tug(0), 3);
    }

    private static void decisive() {
        Edge.promise(27);
        Edge.asked("decisive(1, 0)", 2, x -> x.decisive(1, 0));
        Edge.asked("decisive(0, 0)", 0, x -> x.decisive(0, 0));
        Edge.asked("decisive(2, 0) without a TIE", 0, x -> x.decisive(2, 0));
        Edge.asked("decisive(2, 1), beside one without a TIE", 2, x -> x.decisive(2, 1));
        Edge.asked("decisive(0, 1), beside one without a TIE", 0, x -> x.decisive(0, 1));
        Edge.noSuch("decisive(-1, 0)", x -> x.decisive(-1, 0));
        Edge.noSuch("decisive(3, 0)", x -> x.decisive(3, 0));
        Edge.noSuch("decisive(0, -1)", x -> x.decisive(0, -1));
        Edge.noSuch("decisive(0, 3)", x -> x.decisive(0, 3));
        for (int far : FAR) {
            Edge.noSuch("decisive(" + far + ", 0)", x -> x.decisive(far, 0));
            Edge.noSuch("decisive(0, " + far + ")", x -> x.decisive(0, far));
        }
        Edge.term("DECISIVE");
        GivenAway nine = Check.of("beast 1 0 0;".repeat(9) + "bride 1;bride 1;bride 1;" + nineTies()
                + "tie 8 1 1;tie 3 2 1;tie 6 2 1;");
        Edge.due("of nine alike: four of the other eight", nine.decisive(0, 0), 70);
        Edge.due("of nine alike: the last", nine.decisive(8, 0), 70);
        Edge.due("one alone", nine.decisive(8, 1), 1);
        Edge.due("nobody's", nine.decisive(0, 1), 0);
        Edge.due("the first alone", Check.of("beast 1 0 0;bride 1;tie 0 0 1;").decisive(0, 0), 1);
        GivenAway between = Check.of("beast 5 0 0;beast 9 0 0;beast 3 0 0;bride 1;tie 0 0 1;tie 2 0 1;");
        Edge.due("without a TIE one is in no set", between.decisive(0, 0), 2);
        Edge.due("without a TIE one decides nothing", between.decisive(1, 0), 0);
        Edge.due("two alike", nine.decisive(3, 2), 1);
        Edge.due("two alike", nine.decisive(6, 2), 1);
        nine.tie(8, 0, 40);
        Edge.due("one above all: whichever of the other eight", nine.decisive(8, 0), 256);
        Edge.due("none of the others", nine.decisive(0, 0), 0);
        GivenAway nothing = Check.of("beast 0 0 9;beast 0 0 9;bride 1;tie 0 0 1;tie 1 0 1;");
        Edge.due("who weigh nothing", nothing.decisive(0, 0), 0);
    }

    private static void steps() {
        Edge.promise(28);
        Edge.asked("steps(0, 0)", 0, x -> x.steps(0, 0));
        Edge.asked("steps(0, 1)", 1, x -> x.steps(0, 1));
        Edge.asked("steps(1, 2)", 2, x -> x.steps(1, 2));
        Edge.noSuch("steps(-1, 0)", x -> x.steps(-1, 0));
        Edge.noSuch("steps(3, 0)", x -> x.steps(3, 0));
        Edge.noSuch("steps(0, -1)", x -> x.steps(0, -1));
        Edge.noSuch("steps(0, 3)", x -> x.steps(0, 3));
        for (int far : FAR) {
            Edge.noSuch("steps(" + far + ", 0)", x -> x.steps(far, 0));
            Edge.noSuch("steps(0, " + far + ")", x -> x.steps(0, far));
        }
        Edge.term("STEPS");
        StringBuilder chain = new StringBuilder(NINE + "bride 1;".repeat(6) + "tie 8 5 1;");
        for (int b = 0; b < 6; b++) {
            chain.append("tie ").append(b).append(' ').append(b).append(" 1;");
            chain.append("tie ").append(b + 1).append(' ').append(b).append(" 1;");
        }
        GivenAway x = Check.of(chain.toString());
        for (int p = 0; p <= 6; p++) {
            Edge.due("along the chain to " + p, x.steps(0, p), p);
            Edge.due("and back from " + p, x.steps(p, 0), p);
        }
        Edge.due("beside the end of the chain", x.steps(0, 8), 6);
        Edge.due("to one without TIES", x.steps(0, 7), -1);
        Edge.due("from one without TIES", x.steps(7, 0), -1);
        Edge.due("of oneself without TIES", x.steps(7, 7), 0);
        x.tie(0, 5, 1);
        Edge.due("the fewest", x.steps(0, 6), 1);
        Edge.due("the fewest", x.steps(0, 4), 2);
        GivenAway apart = Check.of("beast 1 1 1;beast 1 1 1;bride 0;bride 0;tie 0 0 1;tie 1 1 1;");
        Edge.due("each has another BRIDE", apart.steps(0, 1), -1);
        apart.tie(1, 0, 1);
        apart.days(1);
        Edge.due("by one who is GONE", apart.steps(0, 1), 1);
    }

    private static void busiest() {
        Edge.promise(29);
        Edge.asked("busiest(0)", -1, x -> x.busiest(0));
        Edge.asked("busiest(6)", -1, x -> x.busiest(6));
        Edge.asked("busiest(7)", 2, x -> x.busiest(7));
        Edge.asked("busiest(60): of like ones the least", 1, x -> x.busiest(60));
        Edge.illegal("busiest(-1)", x -> x.busiest(-1));
        Edge.illegal("busiest(61)", x -> x.busiest(61));
        for (int far : FAR) {
            Edge.illegal("busiest(" + far + ")", x -> x.busiest(far));
        }
        GivenAway x = Check.of("beast 1 0 0;beast 9 0 0;bride 0;bride 1;bride 58;bride 59;bride 60;"
                + "tie 1 0 1;tie 0 2 1;tie 0 3 1;tie 0 4 1;tie 1 4 9;");
        Edge.due("nobody any in 0 DAYS", x.busiest(0), -1);
        Edge.due("in 1 DAY", x.busiest(1), 1);
        Edge.due("of like ones the least", x.busiest(59), 0);
        Edge.due("in 60 DAYS", x.busiest(60), 0);
        x.days(2);
        Edge.due("from now on", x.busiest(56), -1);
        Edge.due("from now on", x.busiest(57), 0);
        Edge.due("the dog isn't one of PEOPLE", Check.of("beast 1 1 1;bride 0;").busiest(60), -1);
        Edge.due("the last of nine", Check.of(NINE + "bride 0;tie 8 0 9;").busiest(1), 8);
        Edge.illegal("without anybody, busiest(61)", new GivenAway(), g -> g.busiest(61));
    }

    private static void crowd() {
        Edge.promise(30);
        Edge.asked("crowd(0)", 9, x -> x.crowd(0));
        Edge.asked("crowd(1)", 1, x -> x.crowd(1));
        Edge.noSuch("crowd(-1)", x -> x.crowd(-1));
        Edge.noSuch("crowd(2)", x -> x.crowd(2));
        for (int far : FAR) {
            Edge.noSuch("crowd(" + far + ")", x -> x.crowd(far));
        }
        GivenAway x = Check.of("bride 9;bride 9;bride 1;bride 9;bride 1;bride 1;");
        Edge.due("of like ones the least DAY", x.crowd(0), 1);
        Edge.due("how many", x.crowd(1), 3);
        x.putOff(2, 9);
        Edge.due("one more on DAY 9", x.crowd(0), 9);
        Edge.due("how many", x.crowd(1), 4);
        x.days(2);
        Edge.due("of those AT HOME", x.crowd(1), 4);
        x.days(8);
        Edge.due("none is AT HOME", x.crowd(0), -1);
        Edge.due("none", x.crowd(1), 0);
        Edge.due("one alone", Check.of("bride 5;").crowd(0), 5);
        Edge.due("one alone", Check.of("bride 5;").crowd(1), 1);
        Edge.due("no BRIDE", Check.of("beast 1 1 1;").crowd(0), -1);
        Edge.due("no BRIDE", Check.of("beast 1 1 1;").crowd(1), 0);
        GivenAway all = Check.of("bride 60;".repeat(6));
        Edge.due("all on DAY 60", all.crowd(0), 60);
        Edge.due("all", all.crowd(1), 6);
        GivenAway gone = Check.of("bride 0;bride 0;bride 0;bride 7;");
        Edge.due("on this DAY", gone.crowd(0), 0);
        gone.days(1);
        Edge.due("not of those GONE", gone.crowd(0), 7);
        Edge.due("one", gone.crowd(1), 1);
        gone.putOff(3, 999);
        Edge.due("on DAY 999", gone.crowd(0), 999);
    }

    private static void common() {
        Edge.promise(31);
        Edge.asked("common(0, 1)", 1, x -> x.common(0, 1));
        Edge.asked("common(1, 2)", 0, x -> x.common(1, 2));
        Edge.asked("common(0, 0)", 3, x -> x.common(0, 0));
        Edge.noSuch("common(-1, 0)", x -> x.common(-1, 0));
        Edge.noSuch("common(3, 0)", x -> x.common(3, 0));
        Edge.noSuch("common(0, -1)", x -> x.common(0, -1));
        Edge.noSuch("common(0, 3)", x -> x.common(0, 3));
        for (int far : FAR) {
            Edge.noSuch("common(" + far + ", 0)", x -> x.common(far, 0));
            Edge.noSuch("common(0, " + far + ")", x -> x.common(0, far));
        }
        GivenAway x = Check.of(NINE + "bride 0;".repeat(6) + sixTies(0, 1) + sixTies(8, 1) + "tie 7 5 1;");
        Edge.due("all six", x.common(0, 8), 63);
        Edge.due("all of one's own", x.common(8, 8), 63);
        Edge.due("the last", x.common(7, 8), 32);
        Edge.due("none of one's own", x.common(1, 1), 0);
        x.days(1);
        Edge.due("those GONE too", x.common(0, 8), 63);
    }
}
