/** Boundary cases of promises 5 to 15, 38 and 39, and of the terms WEIGHT, A DAY, ACTS, STATUS, AN IMAGE. */
final class EdgeActs {
    private static final String NINE = "beast 1 1 1;".repeat(9);
    private static final String SIX = "bride 1;".repeat(6);
    private static final int[] FAR = {Integer.MIN_VALUE, Integer.MAX_VALUE};

    private EdgeActs() {
    }

    static void all() {
        counting();
        countingMost();
        countingNoMoreThanThereAre();
        countingRefusals();
        askingPeople();
        askingBrides();
        heaviest();
        yearsOfTies();
        weights();
        weightByRule();
        whoLeads();
        halves();
        order();
        mourning();
        onionsDryUp();
        passingDays();
        lastDay();
        training();
        takingOnions();
        puttingOff();
        tying();
        undoing();
        keepingActs();
        picturing();
        restoring();
        restoringActs();
        manyCalls();
    }

    /** No such PERSON, BRIDE or what, of those that the twins have. */
    private static void counting() {
        Edge.promise(5);
        int[] want = {3, 3, 5, 3, 6, 0, 135, 3, 2, 20, 1, 1, 1};
        for (int what = 0; what <= 12; what++) {
            int w = what;
            Edge.asked("count(" + w + ")", want[w], x -> x.count(w));
        }
        Edge.noSuch("count(-1)", x -> x.count(-1));
        Edge.noSuch("count(13)", x -> x.count(13));
        for (int far : FAR) {
            Edge.noSuch("count(" + far + ")", x -> x.count(far));
        }
    }

    private static void countingMost() {
        Edge.promise(5);
        GivenAway x = Check.of("beast 99 0 0;".repeat(9) + "bride 0;".repeat(6));
        Edge.due("nine PEOPLE", x.count(0), 9);
        Edge.due("six BRIDES", x.count(1), 6);
        Edge.due("no TIE", x.count(2), 0);
        Edge.due("all AT HOME", x.count(4), 63);
        Edge.due("the dog led none", x.count(5), 0);
        Edge.due("GRIEF of all", x.count(6), 9 * 99);
        x.putOff(5, 1);
        x.days(1);
        Edge.due("the last is AT HOME", x.count(4), 32);
        Edge.due("the dog led five", x.count(5), 5);
        x.days(1);
        Edge.due("none is AT HOME", x.count(4), 0);
        Edge.due("the dog led all", x.count(5), 6);
        Edge.due("the DAY", x.count(3), 2);
        GivenAway tied = Check.of(NINE + SIX);
        for (int i = 0; i < 54; i++) {
            tied.tie(i / 6, i % 6, 1);
            Edge.due("TIES", tied.count(2), i + 1);
            Edge.due("ACTS that are kept", tied.count(7), Math.min(40, i + 1));
        }
        for (int i = 1; i <= 8; i++) {
            tied.see(0, 0, 0, 1, true);
            Edge.due("SEEN", tied.count(8), i);
        }
    }

    private static void countingNoMoreThanThereAre() {
        Edge.promise(5);
        GivenAway x = Check.of("beast 99 1 1;".repeat(9) + "bride 7;".repeat(6) + "tie 0 0 7;tie 0 1 1;tie 8 5 1;");
        Edge.due("TIES", x.count(2), 3);
        Edge.due("six AT HOME", x.count(4), 63);
        Edge.due("GRIEF of nine", x.count(6), 9 * 99);
        Edge.promise(25);
        Edge.due("of six", x.unloved(), 63 - 1 - 2 - 32);
        Edge.promise(30);
        Edge.due("six on DAY 7", x.crowd(1), 6);
        Edge.promise(7);
        Edge.due("the last of nine", x.bride(5, 3), 256);
        Edge.promise(6);
        Edge.due("the last of six", x.person(8, 5), 32);
    }

    private static void countingRefusals() {
        Edge.term("STATUS");
        GivenAway x = Check.of("beast 1 1 1;beast 1 1 1;bride 0;");
        for (int i = 1; i <= 3; i++) {
            Check.dale(x, "x");
            x.days(0);
            x.train(0, 10);
            x.onions(0, 0);
            x.putOff(0, 1000);
            x.tie(0, 0, 41);
            x.see(0, 21, 0, 1, true);
            Edge.due("TEXTS with a FAULT", x.count(10), i);
            Edge.due("ACTS", x.count(11), 5 * i);
            Edge.due("what is SEEN", x.count(12), i);
        }
        Edge.illegal("dale(1)", x, g -> g.dale(1));
        Edge.noSuch("train(2, 10)", x, g -> g.train(2, 10));
        Edge.noSuch("see(1, 21, 0, 0, true)", x, g -> g.see(1, 21, 0, 0, true));
        x.undo();
        x.restore();
        for (int i = 0; i < 36; i++) {
            x.feed(0, 0, 0, 0, 0);
        }
        Edge.due("no TEXT more", x.count(10), 3);
        Edge.due("no ACT more: undo(), restore(), feed(), what throws", x.count(11), 15);
        Edge.due("nothing SEEN more", x.count(12), 3);
    }

    private static void askingPeople() {
        Edge.promise(6);
        int[][] want = {{0, 24, 3, 0, 1, 3}, {1, 39, 1, 0, 0, 5}, {2, 72, 4, 2, 0, 2}};
        for (int p = 0; p < Twins.PEOPLE; p++) {
            for (int what = 0; what < 6; what++) {
                int one = p;
                int w = what;
                Edge.asked("person(" + one + ", " + w + ")", want[one][w], x -> x.person(one, w));
            }
        }
        Edge.noSuch("person(-1, 0)", x -> x.person(-1, 0));
        Edge.noSuch("person(3, 0)", x -> x.person(3, 0));
        Edge.noSuch("person(0, -1)", x -> x.person(0, -1));
        Edge.noSuch("person(0, 6)", x -> x.person(0, 6));
        for (int far : FAR) {
            Edge.noSuch("person(" + far + ", 0)", x -> x.person(far, 0));
            Edge.noSuch("person(0, " + far + ")", x -> x.person(0, far));
        }
        GivenAway x = Check.of("beast 1 0 0;".repeat(8) + "beast 99 0 0;" + "bride 0;".repeat(6)
                + "tie 8 0 1;tie 8 1 1;tie 8 2 1;tie 8 3 1;tie 8 4 1;tie 8 5 1;");
        Edge.due("TIES with all", x.person(8, 5), 63);
        Edge.due("led none", x.person(8, 4), 0);
        Edge.noSuch("person(9, 0) of nine", x, g -> g.person(9, 0));
        x.days(1);
        Edge.due("led all", x.person(8, 4), 63);
        Edge.due("TIES with those GONE", x.person(8, 5), 63);
        Edge.due("no TIE", x.person(7, 5), 0);
    }

    private static void askingBrides() {
        Edge.promise(7);
        int[][] want = {{2, 0, 0, 3, 1, 1}, {9, 1, -1, 5, 2, 1}, {30, 1, -1, 2, 1, 0}};
        for (int b = 0; b < Twins.BRIDES; b++) {
            for (int what = 0; what < 6; what++) {
                int bride = b;
                int w = what;
                Edge.asked("bride(" + bride + ", " + w + ")", want[bride][w], x -> x.bride(bride, w));
            }
        }
        Edge.noSuch("bride(-1, 0)", x -> x.bride(-1, 0));
        Edge.noSuch("bride(3, 0)", x -> x.bride(3, 0));
        Edge.noSuch("bride(0, -1)", x -> x.bride(0, -1));
        Edge.noSuch("bride(0, 6)", x -> x.bride(0, 6));
        for (int far : FAR) {
            Edge.noSuch("bride(" + far + ", 0)", x -> x.bride(far, 0));
            Edge.noSuch("bride(0, " + far + ")", x -> x.bride(0, far));
        }
        GivenAway x = Check.of(NINE + SIX + "tie 8 5 1;tie 0 5 1;");
        Edge.due("the last and the first", x.bride(5, 3), 257);
        Edge.noSuch("bride(6, 0) of six", x, g -> g.bride(6, 0));
        for (int p = 1; p < 8; p++) {
            x.tie(p, 5, 1);
        }
        Edge.due("all nine", x.bride(5, 3), 511);
        Edge.due("eight rivals", x.bride(5, 5), 8);
        x.days(2);
        Edge.due("led by the dog", x.bride(0, 2), -1);
        Edge.due("led by the dog, GONE", x.bride(0, 1), 0);
        Edge.due("of one GONE: all nine", x.bride(5, 3), 511);
    }

    private static void heaviest() {
        Edge.promise(7);
        GivenAway x = Check.of("beast 1 0 0;beast 1 0 9;beast 5 0 0;beast 5 0 0;bride 9;bride 9;bride 9;bride 9;"
                + "tie 1 1 1;tie 2 2 1;tie 3 2 1;tie 3 3 2;tie 2 3 1;tie 0 3 1;");
        Edge.due("nobody with a TIE", x.bride(0, 4), -1);
        Edge.due("rivals of nobody", x.bride(0, 5), 0);
        Edge.due("one who weighs nothing", x.bride(1, 4), 1);
        Edge.due("rivals of one alone", x.bride(1, 5), 0);
        Edge.due("of like ones the least", x.bride(2, 4), 2);
        Edge.due("rivals", x.bride(2, 5), 1);
        Edge.due("who weighs 1 more", x.bride(3, 4), 3);
        Edge.due("rivals", x.bride(3, 5), 2);
    }

    private static void yearsOfTies() {
        Edge.promise(8);
        Edge.asked("years(0, 0)", 20, x -> x.years(0, 0));
        Edge.asked("years(2, 2)", 0, x -> x.years(2, 2));
        Edge.noSuch("years(-1, 0)", x -> x.years(-1, 0));
        Edge.noSuch("years(3, 0)", x -> x.years(3, 0));
        Edge.noSuch("years(0, -1)", x -> x.years(0, -1));
        Edge.noSuch("years(0, 3)", x -> x.years(0, 3));
        for (int far : FAR) {
            Edge.noSuch("years(" + far + ", 0)", x -> x.years(far, 0));
            Edge.noSuch("years(0, " + far + ")", x -> x.years(0, far));
        }
        GivenAway x = Check.of(NINE + SIX + "tie 8 5 40;tie 0 0 1;");
        Edge.due("of the last", x.years(8, 5), 40);
        Edge.due("of the first", x.years(0, 0), 1);
        Edge.noSuch("years(9, 0) of nine", x, g -> g.years(9, 0));
        Edge.noSuch("years(0, 6) of six", x, g -> g.years(0, 6));
    }

    private static void weights() {
        Edge.promise(9);
        Edge.asked("weight(0, 0)", 44, x -> x.weight(0, 0));
        Edge.asked("weight(2, 2)", -1, x -> x.weight(2, 2));
        Edge.noSuch("weight(-1, 0)", x -> x.weight(-1, 0));
        Edge.noSuch("weight(3, 0)", x -> x.weight(3, 0));
        Edge.noSuch("weight(0, -1)", x -> x.weight(0, -1));
        Edge.noSuch("weight(0, 3)", x -> x.weight(0, 3));
        for (int far : FAR) {
            Edge.noSuch("weight(" + far + ", 0)", x -> x.weight(far, 0));
            Edge.noSuch("weight(0, " + far + ")", x -> x.weight(0, far));
        }
        Edge.term("WEIGHT");
        Edge.due("the most without a rule", plainWeight(99, 0, 40), 139);
        Edge.due("1", plainWeight(18, 9, 1), 1);
        Edge.due("0", plainWeight(17, 9, 1), 0);
        Edge.due("-1 is kept to 0", plainWeight(16, 9, 1), 0);
        Edge.due("-17 is kept to 0", plainWeight(0, 9, 1), 0);
        Edge.due("the least above 0", plainWeight(0, 0, 1), 1);
    }

    private static int plainWeight(int grief, int onions, int years) {
        return Check.of("father " + grief + " 0 " + onions + ";bride 0;tie 0 0 " + years + ";").weight(0, 0);
    }

    private static int ruledWeight(String rule) {
        return Check.of("father 1 0 0;bride 0;tie 0 0 1;weighs " + rule + ";").weight(0, 0);
    }

    private static void weightByRule() {
        Edge.term("WEIGHT");
        Edge.due("999", ruledWeight("999"), 999);
        Edge.due("1000 is kept to 999", ruledWeight("1000"), 999);
        Edge.due("9999 is kept to 999", ruledWeight("9999*9"), 999);
        Edge.due("998", ruledWeight("998"), 998);
        Edge.due("0", ruledWeight("0"), 0);
        Edge.due("-1 is kept to 0", ruledWeight("0-1"), 0);
        Edge.due("1", ruledWeight("1"), 1);
    }

    private static void whoLeads() {
        Edge.term("A DAY");
        GivenAway x = Check.of("beast 0 0 0;beast 0 0 0;beast 1 0 1;bride 0;bride 0;bride 0;bride 1;"
                + "tie 0 0 1;tie 1 0 1;tie 2 1 1;tie 1 3 1;");
        x.days(1);
        Edge.due("a WEIGHT of 1, of like ones the least", x.bride(0, 2), 0);
        Edge.due("she is GONE", x.bride(0, 1), 0);
        Edge.due("BRIDES one has led", x.person(0, 4), 1);
        Edge.due("a WEIGHT of 0: the dog", x.bride(1, 2), -1);
        Edge.due("GONE with the dog", x.bride(1, 1), 0);
        Edge.due("who weighs 0 has led none", x.person(2, 4), 0);
        Edge.due("and keeps GRIEF", x.person(2, 1), 1);
        Edge.due("nobody with a TIE: the dog", x.bride(2, 2), -1);
        Edge.due("the dog's", x.count(5), 2);
        Edge.due("AT HOME till her DAY", x.bride(3, 1), 1);
        x.days(1);
        Edge.due("GONE on her DAY", x.bride(3, 1), 0);
        Edge.due("led", x.bride(3, 2), 1);
        GivenAway late = Check.of("beast 1 0 0;bride 60;tie 0 0 1;");
        late.days(20);
        late.days(20);
        late.days(20);
        Edge.due("AT HOME ahead of DAY 60", late.bride(0, 1), 1);
        late.days(1);
        Edge.due("GONE behind DAY 60", late.bride(0, 1), 0);
        late.days(1);
        Edge.due("led once", late.person(0, 1), 0);
    }

    private static void halves() {
        Edge.term("A DAY");
        int[] griefs = {0, 1, 2, 3, 98, 99};
        for (int grief : griefs) {
            GivenAway x = Check.of("beast " + grief + " 0 0;bride 0;tie 0 0 1;");
            x.days(1);
            Edge.due("half of " + grief + " cut down", x.person(0, 1), grief / 2);
        }
        GivenAway all = Check.of("beast 99 0 0;" + "bride 0;".repeat(6)
                + "tie 0 0 1;tie 0 1 1;tie 0 2 1;tie 0 3 1;tie 0 4 1;tie 0 5 1;");
        all.days(1);
        Edge.due("six times half of 99", all.person(0, 1), 1);
        Edge.due("led six", all.person(0, 4), 63);
    }

    private static void order() {
        Edge.term("A DAY");
        GivenAway x = Check.of("father 20 9 0;friend 19 0 0;bride 0;bride 0;tie 0 0 1;tie 1 0 1;tie 0 1 1;tie 1 1 1;");
        x.days(1);
        Edge.due("BRIDE by BRIDE: the first", x.bride(0, 2), 0);
        Edge.due("half of GRIEF ahead of the next", x.bride(1, 2), 1);
        Edge.due("then GRIEF is more", x.person(0, 1), 10 + 9);
        GivenAway rule = Check.of("father 8 0 3;bride 0;tie 0 0 1;mourns grief+onions+led+day;");
        rule.days(1);
        Edge.due("MOURNS by half of GRIEF, ONIONS of that DAY, led, the DAY", rule.person(0, 1), 4 + 4 + 3 + 1);
        rule.days(1);
        Edge.due("a DAY on", rule.person(0, 1), Math.min(99, 12 + 12 + 2 + 1 + 1));
    }

    private static int mourned(String person, String rule) {
        GivenAway x = Check.of(person + ";" + rule);
        x.days(1);
        return x.person(0, 1);
    }

    private static void mourning() {
        Edge.term("A DAY");
        Edge.due("MOURNS 0", mourned("father 50 9 0", "mourns 0;"), 50);
        Edge.due("MOURNS -1 is kept to 0", mourned("father 50 9 0", "mourns 0-1;"), 50);
        Edge.due("MOURNS 1", mourned("father 50 9 0", "mourns 1;"), 51);
        Edge.due("MOURNS 20", mourned("father 50 9 0", "mourns 20;"), 70);
        Edge.due("MOURNS 21 is kept to 20", mourned("father 50 9 0", "mourns 21;"), 70);
        Edge.due("MOURNS of a beast", mourned("beast 50 9 0", "mourns 20;"), 70);
        Edge.due("GRIEF to 99", mourned("father 79 9 0", "mourns 20;"), 99);
        Edge.due("99 at most", mourned("father 80 9 0", "mourns 20;"), 99);
        Edge.due("99 stays", mourned("father 99 9 0", "mourns 20;"), 99);
        Edge.due("TRAINS 0", mourned("father 50 0 0", ""), 50);
        Edge.due("TRAINS 9", mourned("father 50 9 0", ""), 59);
        Edge.due("a friend's", mourned("friend 50 9 0", ""), 59);
        Edge.due("a suitor's", mourned("suitor 50 9 0", ""), 59);
        Edge.due("of a beast 0", mourned("beast 50 9 0", ""), 50);
        Edge.due("TRAINS to 99", mourned("father 90 9 0", ""), 99);
        Edge.due("TRAINS 99 at most", mourned("father 91 9 0", ""), 99);
    }

    private static void onionsDryUp() {
        Edge.term("A DAY");
        GivenAway x = Check.of("beast 0 0 0;beast 0 0 1;beast 0 0 9;");
        for (int day = 1; day <= 10; day++) {
            Edge.due("the DAY is one more", x.days(1), day);
            Edge.due("0 are not below 0", x.person(0, 3), 0);
            Edge.due("1 is 0 then", x.person(1, 3), 0);
            Edge.due("9 are fewer", x.person(2, 3), Math.max(0, 9 - day));
        }
    }

    private static void passingDays() {
        Edge.promise(10);
        Edge.refused("days(0)", 1, x -> x.days(0));
        Edge.refused("days(21)", 1, x -> x.days(21));
        Edge.refused("days(-1)", 1, x -> x.days(-1));
        for (int far : FAR) {
            Edge.refused("days(" + far + ")", 1, x -> x.days(far));
        }
        GivenAway x = Twins.one();
        Edge.due("days(1)", x.days(1), 4);
        Edge.due("days(20)", x.days(20), 24);
        Edge.due("two ACTS more", x.count(7), 5);
        Edge.due("none refused", x.count(11), 1);
    }

    /** One whose DAY is that one. */
    private static GivenAway onDay(String text, int day) {
        GivenAway x = Check.of(text);
        for (int left = day; left > 0; left -= 20) {
            x.days(Math.min(20, left));
        }
        return x;
    }

    private static void lastDay() {
        Edge.promise(10);
        GivenAway x = onDay("beast 1 1 1;", 979);
        Edge.due("979 and 20", x.days(20), 999);
        Edge.due("above 999", x.days(1), -1);
        Edge.due("STATUS", x.count(11), 1);
        Edge.due("the DAY stays", x.count(3), 999);
        x.undo();
        Edge.due("979 and 1", x.days(1), 980);
        Edge.due("980 and 20 would be 1000", x.days(20), -1);
        Edge.due("STATUS", x.count(11), 2);
        Edge.due("no ACT", x.count(7), 40);
        Edge.due("the DAY stays", x.count(3), 980);
        Edge.due("980 and 18", x.days(18), 998);
        Edge.due("998 and 2", x.days(2), -1);
        Edge.due("998 and 1", x.days(1), 999);
    }

    private static void training() {
        Edge.promise(11);
        Edge.refused("train(0, -1)", 1, x -> x.train(0, -1));
        Edge.refused("train(0, 10)", 1, x -> x.train(0, 10));
        for (int far : FAR) {
            Edge.refused("train(0, " + far + ")", 1, x -> x.train(0, far));
            Edge.noSuch("train(" + far + ", 1)", x -> x.train(far, 1));
        }
        Edge.noSuch("train(-1, 1)", x -> x.train(-1, 1));
        Edge.noSuch("train(3, 1)", x -> x.train(3, 1));
        Edge.noSuch("train(3, 10)", x -> x.train(3, 10));
        GivenAway x = Twins.one();
        Edge.due("train(0, 0)", x.train(0, 0), 3);
        Edge.due("TRAINS", x.person(0, 2), 0);
        Edge.due("train(0, 9)", x.train(0, 9), 0);
        Edge.due("TRAINS", x.person(0, 2), 9);
        Edge.due("train(0, 9) again", x.train(0, 9), 9);
        Edge.due("three ACTS more", x.count(7), 6);
        Edge.due("none refused", x.count(11), 1);
        GivenAway nine = Check.of(NINE);
        Edge.due("the last", nine.train(8, 2), 1);
        Edge.noSuch("train(9, 2) of nine", nine, g -> g.train(9, 2));
    }

    private static void takingOnions() {
        Edge.promise(12);
        Edge.refused("onions(0, 0)", 1, x -> x.onions(0, 0));
        Edge.refused("onions(0, 10)", 1, x -> x.onions(0, 10));
        Edge.refused("onions(0, -1)", 1, x -> x.onions(0, -1));
        for (int far : FAR) {
            Edge.refused("onions(0, " + far + ")", 1, x -> x.onions(0, far));
            Edge.noSuch("onions(" + far + ", 1)", x -> x.onions(far, 1));
        }
        Edge.noSuch("onions(-1, 1)", x -> x.onions(-1, 1));
        Edge.noSuch("onions(3, 1)", x -> x.onions(3, 1));
        Edge.noSuch("onions(3, 0)", x -> x.onions(3, 0));
        GivenAway x = Check.of("beast 1 1 0;".repeat(9));
        Edge.due("0 and 1", x.onions(0, 1), 1);
        Edge.due("1 and 7", x.onions(0, 7), 8);
        Edge.due("8 and 1", x.onions(0, 1), 9);
        Edge.due("9 and 1: 9 at most", x.onions(0, 1), 9);
        Edge.due("0 and 9", x.onions(1, 9), 9);
        Edge.due("9 and 9: 9 at most", x.onions(1, 9), 9);
        Edge.due("0 and 2", x.onions(8, 2), 2);
        Edge.due("2 and 8: 9 at most", x.onions(8, 8), 9);
        Edge.due("all are ACTS", x.count(7), 8);
        Edge.due("none refused", x.count(11), 0);
        Edge.noSuch("onions(9, 1) of nine", x, g -> g.onions(9, 1));
    }

    private static void puttingOff() {
        Edge.promise(13);
        Edge.refused("putOff(0, 9) of one GONE", 1, x -> x.putOff(0, 9));
        Edge.refused("putOff(1, 2) ahead of DAY 3", 1, x -> x.putOff(1, 2));
        Edge.refused("putOff(1, -1)", 1, x -> x.putOff(1, -1));
        Edge.refused("putOff(1, 1000)", 1, x -> x.putOff(1, 1000));
        for (int far : FAR) {
            Edge.refused("putOff(1, " + far + ")", 1, x -> x.putOff(1, far));
            Edge.noSuch("putOff(" + far + ", 9)", x -> x.putOff(far, 9));
        }
        Edge.noSuch("putOff(-1, 9)", x -> x.putOff(-1, 9));
        Edge.noSuch("putOff(3, 9)", x -> x.putOff(3, 9));
        Edge.noSuch("putOff(3, 1000)", x -> x.putOff(3, 1000));
        GivenAway x = Twins.one();
        Edge.due("to 999", x.putOff(1, 999), 9);
        Edge.due("DAY", x.bride(1, 0), 999);
        Edge.due("to this DAY", x.putOff(1, 3), 999);
        Edge.due("DAY", x.bride(1, 0), 3);
        Edge.due("to the same", x.putOff(1, 3), 3);
        Edge.due("three ACTS more", x.count(7), 6);
        Edge.due("none refused", x.count(11), 1);
        x.days(1);
        Edge.due("GONE on this DAY", x.bride(1, 1), 0);
        GivenAway first = Check.of(SIX);
        Edge.due("to DAY 0 on DAY 0", first.putOff(5, 0), 1);
        first.days(1);
        Edge.due("GONE on DAY 0", first.count(4), 31);
        Edge.due("to DAY 0 on DAY 1", first.putOff(0, 0), -1);
        GivenAway last = onDay("bride 60;", 60);
        last.putOff(0, 999);
        for (int i = 0; i < 46; i++) {
            last.days(20);
        }
        last.days(19);
        Edge.due("999 on DAY 999", last.putOff(0, 999), 999);
        Edge.due("998 on DAY 999", last.putOff(0, 998), -1);
        Edge.due("1000 on DAY 999", last.putOff(0, 1000), -1);
        Edge.due("AT HOME at the end", last.count(4), 1);
    }

    private static void tying() {
        Edge.promise(14);
        Edge.refused("tie(2, 2, 0)", 1, x -> x.tie(2, 2, 0));
        Edge.refused("tie(2, 2, 41)", 1, x -> x.tie(2, 2, 41));
        Edge.refused("tie(0, 0, 0) of a TIE", 1, x -> x.tie(0, 0, 0));
        Edge.refused("tie(0, 0, -1)", 1, x -> x.tie(0, 0, -1));
        for (int far : FAR) {
            Edge.refused("tie(0, 0, " + far + ")", 1, x -> x.tie(0, 0, far));
            Edge.noSuch("tie(" + far + ", 0, 1)", x -> x.tie(far, 0, 1));
            Edge.noSuch("tie(0, " + far + ", 1)", x -> x.tie(0, far, 1));
        }
        Edge.noSuch("tie(-1, 0, 1)", x -> x.tie(-1, 0, 1));
        Edge.noSuch("tie(3, 0, 1)", x -> x.tie(3, 0, 1));
        Edge.noSuch("tie(0, -1, 1)", x -> x.tie(0, -1, 1));
        Edge.noSuch("tie(0, 3, 1)", x -> x.tie(0, 3, 1));
        Edge.noSuch("tie(3, 0, 41)", x -> x.tie(3, 0, 41));
        GivenAway x = Twins.one();
        Edge.due("made", x.tie(2, 2, 1), 0);
        Edge.due("TIES", x.count(2), 6);
        Edge.due("other YEARS", x.tie(2, 2, 40), 1);
        Edge.due("no TIE more", x.count(2), 6);
        Edge.due("the same YEARS", x.tie(2, 2, 40), 40);
        Edge.due("with one GONE", x.tie(2, 0, 7), 0);
        Edge.due("four ACTS more", x.count(7), 7);
        Edge.due("none refused", x.count(11), 1);
        GivenAway all = Check.of(NINE + SIX);
        for (int i = 0; i < 54; i++) {
            Edge.due("YEARS alone refuse it: TIE " + (i + 1), all.tie(i / 6, i % 6, 40), 0);
        }
        Edge.due("none refused", all.count(11), 0);
        Edge.noSuch("tie(9, 0, 1) of nine", all, g -> g.tie(9, 0, 1));
        Edge.noSuch("tie(0, 6, 1) of six", all, g -> g.tie(0, 6, 1));
    }

    private static void undoing() {
        Edge.promise(15);
        GivenAway none = Check.of("beast 1 1 1;bride 9;");
        Edge.due("there is none", none.undo(), -1);
        none.train(0, 10);
        Edge.due("none by what was refused", none.undo(), -1);
        none.see(0, 0, 0, 0, true);
        none.forget();
        none.image();
        Edge.due("none by what is no ACT", none.undo(), -1);
        Edge.due("undo() is never refused", none.count(11), 1);
        none.train(0, 5);
        Edge.due("one", none.undo(), 0);
        Edge.due("as it was", none.person(0, 2), 1);
        Edge.due("there is none", none.undo(), -1);
        GivenAway x = Check.of("father 51 1 9;beast 9 1 0;bride 1;bride 1;tie 0 0 5;");
        x.putOff(0, 0);
        x.tie(1, 1, 3);
        x.tie(1, 1, 4);
        x.onions(1, 9);
        x.onions(1, 9);
        x.train(0, 9);
        x.days(20);
        Edge.due("DAYS undone", x.undo(), 6);
        Edge.due("the DAY", x.count(3), 0);
        Edge.due("AT HOME", x.count(4), 3);
        Edge.due("the dog's", x.count(5), 0);
        Edge.due("GRIEF", x.person(0, 1), 51);
        Edge.due("ONIONS that dried up", x.person(0, 3), 9);
        Edge.due("led", x.person(0, 4), 0);
        Edge.due("who led her", x.bride(0, 2), -1);
        Edge.due("TRAINS undone", x.undo(), 5);
        Edge.due("TRAINS", x.person(0, 2), 1);
        Edge.due("ONIONS beyond 9 undone", x.undo(), 4);
        Edge.due("ONIONS", x.person(1, 3), 9);
        Edge.due("ONIONS undone", x.undo(), 3);
        Edge.due("ONIONS", x.person(1, 3), 0);
        Edge.due("other YEARS undone", x.undo(), 2);
        Edge.due("YEARS", x.years(1, 1), 3);
        Edge.due("a TIE undone", x.undo(), 1);
        Edge.due("no TIE", x.years(1, 1), 0);
        Edge.due("PUT OFF undone", x.undo(), 0);
        Edge.due("DAY of the wedding", x.bride(0, 0), 1);
        Edge.due("there is none", x.undo(), -1);
    }

    private static void keepingActs() {
        Edge.term("ACTS");
        for (int many : new int[] {39, 40, 41, 79, 80, 81}) {
            GivenAway x = Check.of("beast 1 1 1;");
            for (int i = 1; i <= many; i++) {
                x.days(1);
            }
            int kept = Math.min(40, many);
            Edge.due("kept of " + many, x.count(7), kept);
            for (int left = kept - 1; left >= 0; left--) {
                Edge.due("the last one first, of " + many, x.undo(), left);
                Edge.due("the DAY, of " + many, x.count(3), many - kept + left);
            }
            Edge.due("none is left of " + many, x.undo(), -1);
            Edge.due("the DAY stays, of " + many, x.count(3), many - kept);
        }
        GivenAway again = Check.of("beast 1 1 1;");
        for (int i = 0; i < 45; i++) {
            again.days(1);
        }
        again.undo();
        again.undo();
        again.days(2);
        Edge.due("one behind two undone", again.count(7), 39);
        again.days(3);
        again.days(4);
        Edge.due("40 again", again.count(7), 40);
        again.undo();
        again.undo();
        again.undo();
        Edge.due("the DAY", again.count(3), 43);
    }

    private static void picturing() {
        Edge.promise(38);
        GivenAway x = new GivenAway();
        Edge.due("there is none", x.restore(), false);
        x.image();
        x.days(5);
        Edge.due("of nobody", x.restore(), true);
        Edge.due("the DAY", x.count(3), 0);
        x.days(1);
        x.image();
        x.days(1);
        x.image();
        x.days(1);
        x.restore();
        Edge.due("in place of another one", x.count(3), 2);
        Edge.due("its ACTS", x.count(7), 2);
        Edge.due("undone", x.undo(), 1);
        x.restore();
        Edge.due("the same again", x.count(3), 2);
        GivenAway twin = Twins.one();
        GivenAway untouched = Twins.one();
        twin.image();
        Edge.due("an image isn't refused", twin.count(11), untouched.count(11));
        Edge.due("no ACT", twin.count(7), untouched.count(7));
    }

    private static void restoring() {
        Edge.promise(39);
        GivenAway none = Check.of("beast 1 1 1;");
        none.days(2);
        Edge.due("there is none", none.restore(), false);
        Edge.due("all stays", none.count(3), 2);
        Edge.due("ACTS stay", none.count(7), 1);
        none.image();
        Check.dale(none, "x");
        Edge.due("behind a FAULT it's still there", none.restore(), true);
        Check.dale(none, "");
        Edge.due("behind a new DALE it isn't", none.restore(), false);
        Edge.term("AN IMAGE");
        GivenAway x = Twins.one();
        x.image();
        String pictured = Twins.story(Twins.one()).split(" undo ")[0];
        x.days(20);
        x.train(0, 1);
        x.onions(0, 1);
        x.tie(2, 2, 9);
        x.putOff(2, 999);
        x.days(0);
        x.see(0, 0, 0, 1, true);
        x.see(0, -1, 0, 1, true);
        Edge.due("restore()", x.restore(), true);
        int[] status = {x.count(10), x.count(11), x.count(12)};
        Edge.due("all that DAYS and ACTS change, ACTS, what is SEEN", Twins.story(x).split(" undo ")[0].equals(pictured), true);
        for (int s = 0; s < 3; s++) {
            Edge.due("STATUS " + s, status[s], 1);
        }
        GivenAway seen = Check.of("beast 1 0 0;beast 9 0 0;bride 0;tie 0 0 1;tie 1 0 1;");
        seen.see(0, 0, 0, 1, true);
        seen.image();
        seen.forget();
        seen.see(0, 0, 0, 1, false);
        Check.dale(seen, "x");
        seen.restore();
        Edge.due("what is SEEN, not another", seen.hidden(2), 0);
        Edge.due("how much is SEEN", seen.count(8), 1);
        Edge.due("TEXTS with a FAULT", seen.count(10), 0);
        Check.feed(seen, "bride 3;");
        seen.restore();
        Edge.due("the tape isn't kept", seen.count(9), 20);
    }

    private static void restoringActs() {
        Edge.term("AN IMAGE");
        for (int many : new int[] {0, 1, 39, 40, 41, 45, 80}) {
            GivenAway x = Check.of("beast 1 1 1;");
            for (int i = 0; i < many; i++) {
                x.days(1);
            }
            x.image();
            for (int i = 0; i < 17; i++) {
                x.undo();
            }
            for (int i = 0; i < 20; i++) {
                x.days(2);
            }
            Edge.due("restore()", x.restore(), true);
            int kept = Math.min(40, many);
            Edge.due("ACTS that are kept of " + many, x.count(7), kept);
            Edge.due("the DAY of " + many, x.count(3), many);
            for (int left = kept - 1; left >= 0; left--) {
                Edge.due("undone of " + many, x.undo(), left);
                Edge.due("the DAY, undone, of " + many, x.count(3), many - kept + left);
            }
            Edge.due("none is left of " + many, x.undo(), -1);
            Edge.due("as often as one likes", x.restore(), true);
            Edge.due("ACTS again", x.count(7), kept);
        }
    }

    private static void manyCalls() {
        Edge.term("512 calls");
        GivenAway x = new GivenAway();
        for (int calls = 0; calls < 510; calls += 2) {
            x.days(20);
            x.undo();
        }
        Edge.due("the 511th", x.days(3), 3);
        Edge.due("the 512th", x.count(3), 3);
    }
}
