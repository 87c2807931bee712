/** Boundary cases of promises 32 to 37, and of the terms SEEN, HIDDEN, WEIGH NEXT, A GAME, YEARS by a seed. */
final class EdgeSeen {
    private static final String NINE = "beast 1 1 0;".repeat(9);
    private static final int[] FAR = {Integer.MIN_VALUE, Integer.MAX_VALUE};

    private EdgeSeen() {
    }

    static void all() {
        see();
        seeEight();
        hidden();
        mostHidden();
        soWithoutAlone();
        whatIsSeen();
        daysAhead();
        next();
        leadersUnlike();
        unlikeOfSix();
        notBeyondSixtyDays();
        forget();
        game();
        noGame();
        resting();
        nineAtMost();
        drawn();
        moreGrief();
        putOffBySeed();
        nothingOfNone();
        draws();
        lastOfDays();
    }

    private static void see() {
        Edge.promise(32);
        Edge.refused("see(1, -1, 0, 2, true)", 2, x -> x.see(1, -1, 0, 2, true));
        Edge.refused("see(1, 21, 0, 2, true)", 2, x -> x.see(1, 21, 0, 2, true));
        Edge.refused("see(1, 0, 2, 2, true): both are one", 2, x -> x.see(1, 0, 2, 2, true));
        Edge.refused("see(1, 21, 2, 2, false)", 2, x -> x.see(1, 21, 2, 2, false));
        Edge.noSuch("see(-1, 0, 0, 1, true)", x -> x.see(-1, 0, 0, 1, true));
        Edge.noSuch("see(3, 0, 0, 1, true)", x -> x.see(3, 0, 0, 1, true));
        Edge.noSuch("see(0, 0, -1, 1, true)", x -> x.see(0, 0, -1, 1, true));
        Edge.noSuch("see(0, 0, 3, 1, true)", x -> x.see(0, 0, 3, 1, true));
        Edge.noSuch("see(0, 0, 0, -1, true)", x -> x.see(0, 0, 0, -1, true));
        Edge.noSuch("see(0, 0, 0, 3, true)", x -> x.see(0, 0, 0, 3, true));
        Edge.noSuch("see(3, 21, 0, 0, true), ahead", x -> x.see(3, 21, 0, 0, true));
        Edge.noSuch("see(0, 21, 3, 3, true), ahead", x -> x.see(0, 21, 3, 3, true));
        for (int far : FAR) {
            Edge.refused("see(1, " + far + ", 0, 2, true)", 2, x -> x.see(1, far, 0, 2, true));
            Edge.noSuch("see(" + far + ", 0, 0, 1, true)", x -> x.see(far, 0, 0, 1, true));
            Edge.noSuch("see(0, 0, " + far + ", 1, true)", x -> x.see(0, 0, far, 1, true));
            Edge.noSuch("see(0, 0, 0, " + far + ", true)", x -> x.see(0, 0, 0, far, true));
        }
        GivenAway x = Twins.one();
        Edge.due("in 0 DAYS", x.see(1, 0, 0, 2, true), 3);
        Edge.due("in 20 DAYS", x.see(1, 20, 0, 2, false), 4);
        Edge.due("for one GONE", x.see(0, 5, 0, 2, false), 5);
        Edge.due("without a TIE", x.see(2, 5, 0, 2, false), 6);
        Edge.due("the same again", x.see(2, 5, 0, 2, false), 7);
        Edge.due("no ACT", x.count(7), 3);
        Edge.due("none refused more", x.count(12), 1);
        Edge.due("no ACT is undone by it", x.undo(), 2);
        Edge.due("what is SEEN isn't undone", x.count(8), 7);
    }

    private static void seeEight() {
        Edge.promise(32);
        GivenAway x = Check.of("beast 9 0 0;beast 5 0 0;bride 9;tie 0 0 1;tie 1 0 1;");
        for (int i = 1; i <= 8; i++) {
            Edge.due("see " + i, x.see(0, 0, 0, 1, true), i);
            Edge.due("how much is SEEN", x.count(8), i);
        }
        Edge.due("there are 8", x.see(0, 0, 0, 1, false), -1);
        Edge.due("STATUS", x.count(12), 1);
        Edge.due("8 stay", x.count(8), 8);
        Edge.due("the ninth isn't SEEN", x.hidden(2), 1);
        Edge.noSuch("ahead of 8: no such BRIDE", x, g -> g.see(1, 0, 0, 1, true));
        Edge.noSuch("ahead of 8: no such PERSON", x, g -> g.see(0, 0, 2, 1, true));
        Edge.noSuch("ahead of 8: no such other", x, g -> g.see(0, 0, 0, 2, true));
        Edge.due("STATUS stays", x.count(12), 1);
        x.forget();
        Edge.due("one again", x.see(0, 0, 0, 1, false), 1);
        for (int i = 2; i <= 7; i++) {
            x.see(0, 0, 0, 1, false);
        }
        Edge.due("the eighth counts too", x.see(0, 0, 0, 1, true), 8);
        Edge.due("by none", x.hidden(0), 0);
    }

    private static void hidden() {
        Edge.promise(33);
        // Any other onions of 0 and 2, up to 4 of 1, who weighs 49 less those against 44.
        Edge.asked("hidden(0)", 9 + 4 + 9, x -> x.hidden(0));
        Edge.asked("hidden(1)", 1, x -> x.hidden(1));
        Edge.asked("hidden(2)", 1, x -> x.hidden(2));
        Edge.noSuch("hidden(-1)", x -> x.hidden(-1));
        Edge.noSuch("hidden(3)", x -> x.hidden(3));
        for (int far : FAR) {
            Edge.noSuch("hidden(" + far + ")", x -> x.hidden(far));
        }
        GivenAway x = Check.of("beast 9 0 0;beast 5 0 0;bride 9;tie 0 0 1;tie 1 0 1;");
        x.see(0, 0, 0, 1, true);
        x.see(0, 0, 0, 1, false);
        Edge.due("none: how many", x.hidden(0), 0);
        Edge.due("none: the first", x.hidden(1), -1);
        Edge.due("nor without", x.hidden(2), 0);
    }

    /** Nine of PEOPLE for a BRIDE, by whether one has nine ONIONS. */
    private static GivenAway byNineOnions() {
        StringBuilder text = new StringBuilder(NINE + "bride 9;weighs onions=9;");
        for (int p = 0; p < 9; p++) {
            text.append("tie ").append(p).append(" 0 1;");
        }
        return Check.of(text.toString());
    }

    private static void mostHidden() {
        Edge.term("HIDDEN");
        GivenAway x = byNineOnions();
        Edge.due("all of nine PEOPLE, but as they are", x.hidden(0), 81);
        Edge.due("the first", x.hidden(1), 1);
        x.see(0, 0, 8, 7, true);
        Edge.due("by one alone", x.hidden(0), 1);
        Edge.due("the last of all", x.hidden(1), 89);
        Edge.due("not without", x.hidden(2), 0);
        x.onions(8, 9);
        Edge.due("without", x.hidden(2), 1);
        Edge.due("another number than one has", x.hidden(0), 8 * 9 - 1);
        x.forget();
        x.onions(0, 1);
        Edge.due("0 of the first", x.hidden(1), 0);
        x.see(0, 0, 0, 8, true);
        x.see(0, 0, 8, 0, false);
        Edge.due("two would have to change", x.hidden(0), 0);
        Edge.due("nobody", Check.of("bride 1;").hidden(0), 0);
        Edge.due("nobody", Check.of("bride 1;").hidden(1), -1);
        Edge.due("nothing SEEN is so without anybody", Check.of("bride 1;").hidden(2), 1);
        Edge.due("one", Check.of("beast 1 1 1;").hidden(0), 9);
        Edge.due("one, the first", Check.of("beast 1 1 1;").hidden(1), 0);
        Edge.due("one, the first", Check.of("beast 1 1 0;").hidden(1), 1);
        GivenAway same = Check.of("beast 50 0 4;beast 50 0 4;bride 9;tie 0 0 1;tie 1 0 1;");
        same.see(0, 0, 0, 1, true);
        Edge.due("0 to 3 of the first, 5 to 9 of the other", same.hidden(0), 4 + 5);
        Edge.due("the first", same.hidden(1), 0);
        Edge.due("ONIONS stay", same.person(0, 3), 4);
    }

    private static void soWithoutAlone() {
        Edge.term("HIDDEN");
        // A father weighs 1 by no onions alone, a friend by any: whoever had others would not be as is seen.
        StringBuilder text = new StringBuilder("father 0 0 0;friend 0 0 0;".repeat(4) + "father 0 0 0;bride 5;");
        for (int p = 0; p < 9; p++) {
            text.append("tie ").append(p).append(" 0 1;");
        }
        GivenAway x = Check.of(text + "weighs (onions=0)=(kind=0);");
        for (int p = 0; p < 9; p += 2) {
            x.see(0, 0, p, p == 8 ? 1 : p + 1, true);
        }
        Edge.due("so without", x.hidden(2), 1);
        Edge.due("by no other ONIONS of nine PEOPLE", x.hidden(0), 0);
        Edge.due("no first", x.hidden(1), -1);
        Edge.term("WEIGH NEXT");
        Edge.due("none without any", x.next(0), -1);
        Edge.due("none without any", x.next(1), 0);
    }

    private static void whatIsSeen() {
        Edge.term("SEEN");
        GivenAway x = Check.of("beast 5 0 0;beast 5 0 0;beast 0 0 9;beast 1 1 1;beast 1 1 1;bride 9;tie 0 0 1;tie 1 0 1;tie 2 0 1;");
        boolean[][] more = {
            {false, false, true, true, true}, {false, false, true, true, true}, {false, false, false, true, true},
            {false, false, false, false, false}, {false, false, false, false, false}};
        for (int p = 0; p < 5; p++) {
            for (int q = 0; q < 5; q++) {
                if (p != q) {
                    x.forget();
                    x.see(0, 0, p, q, true);
                    Edge.due(p + " weighs more than " + q, x.hidden(2), more[p][q] ? 1 : 0);
                    x.forget();
                    x.see(0, 0, p, q, false);
                    Edge.due(p + " doesn't weigh more than " + q, x.hidden(2), more[p][q] ? 0 : 1);
                }
            }
        }
    }

    private static int isMore(GivenAway x, int days, int one, int other) {
        x.forget();
        x.see(0, days, one, other, true);
        return x.hidden(2);
    }

    private static void daysAhead() {
        Edge.term("SEEN");
        GivenAway x = Check.of("beast 20 0 0;beast 15 0 0;bride 0;tie 0 0 1;tie 1 0 1;");
        Edge.due("ahead of what this DAY does", isMore(x, 0, 0, 1), 1);
        Edge.due("behind what this DAY does", isMore(x, 1, 0, 1), 0);
        GivenAway far = Check.of("father 0 1 0;beast 18 0 0;bride 60;tie 0 0 1;tie 1 0 1;");
        Edge.due("in 18 DAYS as much", isMore(far, 18, 0, 1), 0);
        Edge.due("in 19 DAYS more", isMore(far, 19, 0, 1), 1);
        Edge.due("in 20 DAYS more", isMore(far, 20, 0, 1), 1);
        far.train(0, 0);
        Edge.due("in 20 DAYS", isMore(far, 20, 0, 1), 0);
        far.undo();
        far.putOff(0, 19);
        Edge.due("in 20 DAYS, behind her wedding", isMore(far, 20, 0, 1), 0);
        far.undo();
        far.putOff(0, 20);
        Edge.due("in 20 DAYS, on her wedding", isMore(far, 20, 0, 1), 1);
        far.see(0, 18, 0, 1, false);
        far.see(0, 0, 1, 0, true);
        Edge.due("of many DAYS", far.hidden(2), 1);
        far.see(0, 17, 0, 1, true);
        Edge.due("one of many DAYS isn't so", far.hidden(2), 0);
        GivenAway last = Check.of("beast 1 0 0;beast 1 0 0;bride 0;tie 0 0 2;tie 1 0 1;weighs years*(1001<day);");
        for (int i = 0; i < 49; i++) {
            last.days(20);
        }
        last.days(19);
        Edge.due("in 2 DAYS from DAY 999", isMore(last, 2, 0, 1), 0);
        Edge.due("in 3 DAYS from DAY 999", isMore(last, 3, 0, 1), 1);
    }

    private static void next() {
        Edge.promise(34);
        Edge.noSuch("next(-1)", x -> x.next(-1));
        Edge.noSuch("next(2)", x -> x.next(2));
        for (int far : FAR) {
            Edge.noSuch("next(" + far + ")", x -> x.next(far));
        }
        // By each number of onions who may lead is as without, so all are alike and the first is the least.
        Edge.asked("next(0)", 0, x -> x.next(0));
        Edge.asked("next(1)", 1, x -> x.next(1));
        GivenAway none = Check.of("beast 9 0 0;beast 5 0 0;bride 9;tie 0 0 1;tie 1 0 1;");
        none.see(0, 0, 0, 1, true);
        none.see(0, 0, 0, 1, false);
        Edge.due("by none: the BRIDE", none.next(0), -1);
        Edge.due("by none: how many", none.next(1), 0);
        Edge.due("no BRIDE", Check.of("beast 9 0 0;").next(0), -1);
        Edge.due("no BRIDE", Check.of("beast 9 0 0;").next(1), 0);
        Edge.due("nobody", Check.of("bride 1;").next(0), -1);
        Edge.due("nobody", Check.of("bride 1;").next(1), 0);
    }

    private static void leadersUnlike() {
        Edge.term("WEIGH NEXT");
        // Whoever has nine onions leads bride 0 on this day; without any of those it is the dog.
        StringBuilder text = new StringBuilder(NINE + "bride 0;bride 60;weighs onions=9;");
        for (int p = 0; p < 9; p++) {
            text.append("tie ").append(p).append(" 0 1;");
        }
        GivenAway ten = Check.of(text.toString());
        Edge.due("nine and none is one", ten.next(1), 10);
        Edge.due("the BRIDE", ten.next(0), 0);
        ten.see(0, 0, 8, 7, true);
        Edge.due("by the last guess alone", ten.next(1), 1);
        Edge.due("of like ones the least", ten.next(0), 0);
        ten.forget();
        ten.putOff(0, 60);
        Edge.due("not in 60 DAYS", ten.next(1), 1);
        ten.undo();
        ten.days(1);
        Edge.due("of those GONE one did", ten.next(1), 1);
        GivenAway later = Check.of("beast 90 0 0;beast 40 0 0;bride 0;bride 0;bride 0;tie 0 0 1;tie 0 1 1;tie 1 1 1;");
        Edge.due("46 less 18 at most against 41", later.next(1), 2);
        Edge.due("the one of most", later.next(0), 1);
        GivenAway first = Check.of("father 9 0 2;beast 8 0 0;bride 0;tie 0 0 1;tie 1 0 1;weighs grief-2*onions*(kind=0);");
        first.see(0, 0, 0, 1, true);
        Edge.due("by the first guess alone", first.hidden(0), 1);
        Edge.due("the first guess", first.hidden(1), 0);
        Edge.due("one", first.next(1), 1);
        Edge.due("the BRIDE", first.next(0), 0);
        GivenAway like = Check.of("beast 9 0 0;beast 9 0 0;bride 0;bride 1;tie 0 0 1;tie 1 0 1;tie 0 1 1;tie 1 1 1;");
        Edge.due("two alike", like.next(1), 2);
        Edge.due("the least", like.next(0), 0);
    }

    private static void unlikeOfSix() {
        Edge.term("WEIGH NEXT");
        GivenAway x = Check.of("beast 90 0 0;beast 90 0 0;" + "bride 1;".repeat(5) + "bride 0;tie 0 5 1;tie 1 5 1;tie 0 1 1;");
        Edge.due("the last of six", x.next(0), 5);
        Edge.due("either or", x.next(1), 2);
        GivenAway none = Check.of("beast 9 0 0;" + "bride 1;".repeat(6));
        Edge.due("six led by the dog: the least", none.next(0), 0);
        Edge.due("none is one", none.next(1), 1);
    }

    private static void notBeyondSixtyDays() {
        Edge.term("WEIGH NEXT");
        // By onions grief grows, so that 0 may come to weigh more than 1 for bride 1.
        GivenAway x = Check.of("beast 0 0 0;beast 20 0 0;bride 1;bride 40;tie 0 1 1;tie 1 1 1;mourns onions*(1-day/60);");
        x.see(0, 20, 0, 1, false);
        Edge.due("on DAY 40", x.next(1), 2);
        Edge.due("the BRIDE", x.next(0), 1);
        x.putOff(1, 59);
        Edge.due("on the last of 60 DAYS", x.next(1), 2);
        x.putOff(1, 60);
        Edge.due("not in 60 DAYS, however far is SEEN", x.next(1), 1);
        Edge.due("all are alike: the least", x.next(0), 0);
        x.days(1);
        Edge.due("on the last of 60 DAYS from now on", x.next(1), 2);
        GivenAway six = Check.of("beast 0 0 0;beast 20 0 0;" + "bride 1;".repeat(5) + "bride 59;tie 0 0 1;tie 0 1 1;tie 0 5 1;"
                + "tie 1 5 1;weighs grief+years;mourns onions*(1-day/60);");
        six.see(2, 20, 0, 1, false);
        Edge.due("the last of six on the last of 60 DAYS", six.next(0), 5);
        Edge.due("either or", six.next(1), 2);
        six.putOff(5, 60);
        Edge.due("the last of six not in 60 DAYS", six.next(1), 1);
    }

    private static void forget() {
        Edge.promise(35);
        GivenAway x = Check.of("beast 9 0 0;beast 5 0 0;bride 9;tie 0 0 1;tie 1 0 1;");
        x.forget();
        Edge.due("nothing is SEEN", x.count(8), 0);
        for (int i = 0; i < 8; i++) {
            x.see(0, 0, 1, 0, true);
        }
        x.see(0, 0, 1, 0, true);
        x.image();
        Edge.due("not so", x.hidden(2), 0);
        x.forget();
        Edge.due("all eight are forgotten", x.count(8), 0);
        Edge.due("so, without any", x.hidden(2), 1);
        Edge.due("all guesses", x.hidden(0), 18);
        Edge.due("STATUS stays", x.count(12), 1);
        Edge.due("no ACT", x.count(7), 0);
        Edge.due("nothing to be undone", x.undo(), -1);
        Edge.due("the image keeps them", x.restore(), true);
        Edge.due("eight", x.count(8), 8);
        Edge.due("not so", x.hidden(2), 0);
        x.forget();
        Edge.due("one anew", x.see(0, 0, 0, 1, true), 1);
        Edge.due("so", x.hidden(2), 1);
    }

    private static void game() {
        Edge.promise(36);
        Edge.asked("game(0, 2, 1, 0)", 1, x -> x.game(0, 2, 1, 0));
        Edge.asked("game(0, 2, 1, 1)", 0, x -> x.game(0, 2, 1, 1));
        Edge.asked("game(2, 0, 1, 1)", 0, x -> x.game(2, 0, 1, 1));
        Edge.noSuch("game(-1, 2, 1, 0)", x -> x.game(-1, 2, 1, 0));
        Edge.noSuch("game(3, 2, 1, 0)", x -> x.game(3, 2, 1, 0));
        Edge.noSuch("game(0, -1, 1, 0)", x -> x.game(0, -1, 1, 0));
        Edge.noSuch("game(0, 3, 1, 0)", x -> x.game(0, 3, 1, 0));
        Edge.noSuch("game(0, 2, -1, 0)", x -> x.game(0, 2, -1, 0));
        Edge.noSuch("game(0, 2, 3, 0)", x -> x.game(0, 2, 3, 0));
        Edge.noSuch("game(0, 2, 1, -1)", x -> x.game(0, 2, 1, -1));
        Edge.noSuch("game(0, 2, 1, 2)", x -> x.game(0, 2, 1, 2));
        for (int far : FAR) {
            Edge.noSuch("game(" + far + ", 2, 1, 0)", x -> x.game(far, 2, 1, 0));
            Edge.noSuch("game(0, " + far + ", 1, 0)", x -> x.game(0, far, 1, 0));
            Edge.noSuch("game(0, 2, " + far + ", 0)", x -> x.game(0, 2, far, 0));
            Edge.noSuch("game(0, 2, 1, " + far + ")", x -> x.game(0, 2, 1, far));
        }
    }

    private static void noGame() {
        Edge.promise(36);
        Edge.illegal("game(2, 2, 1, 0): both are one", x -> x.game(2, 2, 1, 0));
        Edge.illegal("game(0, 1, 1, 0): the other has no TIE", x -> x.game(0, 1, 1, 0));
        Edge.illegal("game(1, 0, 1, 0): the first has no TIE", x -> x.game(1, 0, 1, 0));
        Edge.illegal("game(0, 2, 2, 1): neither has", x -> x.game(0, 2, 2, 1));
        Edge.illegal("game(0, 1, 0, 0): GONE", x -> x.game(0, 1, 0, 0));
        Edge.noSuch("game(2, 2, 1, 2), ahead of both are one", x -> x.game(2, 2, 1, 2));
        Edge.noSuch("game(0, 1, 1, 2), ahead of no TIE", x -> x.game(0, 1, 1, 2));
        Edge.noSuch("game(0, 1, 0, -1), ahead of GONE", x -> x.game(0, 1, 0, -1));
        Edge.noSuch("game(3, 3, 1, 0), ahead of both are one", x -> x.game(3, 3, 1, 0));
    }

    private static void rests(String what, String text, int many, int first) {
        GivenAway x = Check.of(text);
        Edge.due(what + ": how many", x.game(0, 1, 0, 0), many);
        Edge.due(what + ": the first", x.game(0, 1, 0, 1), first);
    }

    private static void resting() {
        Edge.term("A GAME");
        String ties = "tie 0 0 1;tie 1 0 1;";
        rests("one leads anyway", "friend 90 0 0;friend 10 0 0;bride 1;" + ties, 1, 0);
        rests("the dog anyway", "friend 90 0 0;friend 10 0 0;bride 1;" + ties + "weighs 0;", 1, 0);
        rests("not in 60 DAYS", "friend 10 0 0;friend 10 0 0;bride 60;" + ties + "weighs grief;", 1, 0);
        rests("on the last of 60 DAYS", "friend 10 0 0;friend 12 0 0;bride 59;" + ties + "weighs grief*(day=59);", 1, 10);
        // By weights on day 1: 10, or 13 by training, against 9, or 12: who does the same as the other pays or loses.
        rests("none rests", "friend 10 0 0;friend 9 0 0;bride 1;" + ties + "weighs grief;", 0, -1);
        // 10, or 13 by training, against 13, or 16: the other leads in any case.
        rests("too far behind", "friend 10 0 0;friend 14 0 0;bride 1;" + ties + "weighs grief;", 1, 0);
        // 13 against 13 is the first one's, so that he would train if the other took onions: and the other then too.
        rests("just behind", "friend 10 0 0;friend 13 0 0;bride 1;" + ties + "weighs grief;", 0, -1);
        rests("the other trains", "beast 11 0 0;friend 9 0 0;bride 1;" + ties + "weighs grief;", 1, 1);
        rests("12 against 12 is the first one's", "beast 12 0 0;friend 9 0 0;bride 1;" + ties + "weighs grief;", 1, 0);
        rests("the first one trains", "friend 9 0 0;beast 12 0 0;bride 1;" + ties + "weighs grief;", 1, 10);
        rests("13 is above what he may reach", "friend 9 0 0;beast 13 0 0;bride 1;" + ties + "weighs grief;", 1, 0);
        GivenAway stays = Check.of("friend 10 0 0;friend 9 0 0;bride 1;" + ties);
        stays.game(0, 1, 0, 0);
        Edge.due("TRAINS stay", stays.person(0, 2), 0);
        Edge.due("ONIONS stay", stays.person(0, 3), 0);
    }

    private static void nineAtMost() {
        Edge.term("A GAME");
        String ties = "tie 0 0 1;tie 1 0 1;";
        // TRAINS: the first one's 10 on day 1 whatever he does; the other's 9, or 12 by training.
        rests("9 TRAINS stay 9", "friend 1 9 0;friend 9 0 0;bride 1;" + ties + "weighs grief;", 1, 1);
        rests("8 become 9", "friend 2 8 0;friend 9 0 0;bride 1;" + ties + "weighs grief;", 1, 1);
        rests("7 become 9, as much as the other's", "friend 3 7 0;friend 9 0 0;bride 1;" + ties + "weighs grief;", 0, -1);
        rests("6 become 9", "friend 4 6 0;friend 9 0 0;bride 1;" + ties + "weighs grief;", 0, -1);
        rests("the other's 9 stay 9", "friend 9 0 0;friend 1 9 0;bride 1;" + ties + "weighs grief;", 1, 10);
        // ONIONS on this day: the first one weighs 11 or 12, the other 11 or 14.
        rests("8 ONIONS become 9", "father 0 0 8;friend 0 0 5;bride 0;" + ties + "weighs 20-onions-kind;", 1, 1);
        rests("9 ONIONS stay 9", "father 0 0 9;friend 0 0 5;bride 0;" + ties + "weighs 20-onions-kind;", 1, 1);
        rests("the other's 8 become 9", "friend 0 0 5;father 0 0 8;bride 0;" + ties + "weighs 20-onions-kind+(kind=0);", 1, 10);
    }

    private static void drawn() {
        Edge.promise(37);
        Edge.asked("drawn(5, 0, 0): GONE so far", 1, x -> x.drawn(5, 0, 0));
        Edge.asked("drawn(5, 0, 1)", 0, x -> x.drawn(5, 0, 1));
        Edge.asked("drawn(5, 0, 2)", 135, x -> x.drawn(5, 0, 2));
        Edge.asked("drawn(5, 60, 0)", 3, x -> x.drawn(5, 60, 0));
        Edge.illegal("drawn(5, -1, 0)", x -> x.drawn(5, -1, 0));
        Edge.illegal("drawn(5, 61, 0)", x -> x.drawn(5, 61, 0));
        Edge.noSuch("drawn(5, 1, -1)", x -> x.drawn(5, 1, -1));
        Edge.noSuch("drawn(5, 1, 3)", x -> x.drawn(5, 1, 3));
        Edge.noSuch("drawn(5, 61, 3), ahead", x -> x.drawn(5, 61, 3));
        Edge.noSuch("drawn(5, -1, -1), ahead", x -> x.drawn(5, -1, -1));
        for (int far : FAR) {
            Edge.illegal("drawn(5, " + far + ", 0)", x -> x.drawn(5, far, 0));
            Edge.noSuch("drawn(5, 1, " + far + ")", x -> x.drawn(5, 1, far));
        }
    }

    private static int after(int seed) {
        return seed * 1103515245 + 12345;
    }

    private static int drawOf(int seed, int n) {
        return (seed >>> 16 & 0x7fff) % n;
    }

    /** A seed by which the first draw of 6 is that side, and the next of n is that one. */
    private static int seedFor(int side, int n, int which) {
        for (int seed = 0; seed < 100000; seed++) {
            int first = after(seed);
            if (drawOf(first, 6) == side && drawOf(after(first), n) == which) {
                return seed;
            }
        }
        throw new IllegalStateException("no such seed");
    }

    private static void moreGrief() {
        Edge.term("YEARS by a seed");
        int[] griefs = {0, 83, 84, 85, 99};
        int[] want = {15, 98, 99, 99, 99};
        for (int i = 0; i < griefs.length; i++) {
            for (int p = 0; p < 2; p++) {
                GivenAway x = Check.of(p == 0 ? "beast " + griefs[i] + " 0 0;beast 50 0 0;"
                        : "beast 50 0 0;beast " + griefs[i] + " 0 0;");
                int seed = seedFor(0, 2, p);
                Edge.due(griefs[i] + " of " + p + " is 15 more, 99 at most", x.drawn(seed, 1, 2), 50 + want[i]);
                Edge.due("on no DAY nothing is drawn", x.drawn(seed, 0, 2), 50 + griefs[i]);
            }
        }
        for (int side = 1; side < 6; side++) {
            GivenAway x = Check.of("beast 40 0 0;beast 50 0 0;");
            Edge.due("by a draw of " + side + " none", x.drawn(seedFor(side, 2, 0), 1, 2), 90);
        }
        GivenAway led = Check.of("beast 40 0 0;beast 50 0 0;bride 0;tie 0 0 1;tie 1 0 1;");
        Edge.due("ahead of the DAY: 55 leads", led.drawn(seedFor(0, 2, 0), 1, 2), 27 + 50);
        Edge.due("ahead of the DAY: 65 leads", led.drawn(seedFor(0, 2, 1), 1, 2), 40 + 32);
    }

    private static void putOffBySeed() {
        Edge.term("YEARS by a seed");
        GivenAway x = Check.of("bride 0;bride 1;bride 60;");
        Edge.due("the one of this DAY is PUT OFF", x.drawn(seedFor(1, 3, 0), 1, 0), 0);
        Edge.due("another one is", x.drawn(seedFor(1, 3, 1), 1, 0), 1);
        Edge.due("the dog's", x.drawn(seedFor(1, 3, 1), 1, 1), 1);
        Edge.due("by a draw of 2 none is", x.drawn(seedFor(2, 3, 0), 1, 0), 1);
        x.days(1);
        Edge.due("one GONE stays GONE", x.drawn(seedFor(1, 3, 0), 1, 0), 2);
        Edge.due("the dog's in these DAYS", x.drawn(seedFor(1, 3, 0), 1, 1), 1);
        Edge.due("the one of this DAY is PUT OFF", x.drawn(seedFor(1, 3, 1), 1, 0), 1);
        Edge.due("her DAY stays", x.bride(1, 0), 1);
    }

    /** GONE, by a plain count, of one BRIDE without PEOPLE. */
    private static int plainlyGone(int seed, int n, int wedding) {
        int now = seed;
        int day = wedding;
        for (int d = 0; d < n; d++) {
            now = after(now);
            if (drawOf(now, 6) == 1) {
                now = after(now);
                day += day >= d ? 2 : 0;
            }
            if (day == d) {
                return 1;
            }
        }
        return 0;
    }

    private static void nothingOfNone() {
        Edge.term("YEARS by a seed");
        int[] seeds = {0, 1, -1, Integer.MIN_VALUE, Integer.MAX_VALUE, 12345, -987654321};
        for (int seed : seeds) {
            for (int n : new int[] {0, 1, 2, 7, 30, 59, 60}) {
                int wedding = Math.min(n, 20);
                GivenAway brides = Check.of("bride " + wedding + ";");
                Edge.due("no PEOPLE: GONE by " + seed + " in " + n, brides.drawn(seed, n, 0), plainlyGone(seed, n, wedding));
                Edge.due("no PEOPLE: the dog's", brides.drawn(seed, n, 1), plainlyGone(seed, n, wedding));
                Edge.due("no PEOPLE: GRIEF", brides.drawn(seed, n, 2), 0);
                GivenAway people = Check.of("beast 0 0 0;");
                Edge.due("no BRIDES: GRIEF by " + seed + " in " + n, people.drawn(seed, n, 2), plainGrief(seed, n));
                Edge.due("no BRIDES: GONE", people.drawn(seed, n, 0), 0);
            }
        }
    }

    private static int plainGrief(int seed, int n) {
        int now = seed;
        int grief = 0;
        for (int d = 0; d < n; d++) {
            now = after(now);
            if (drawOf(now, 6) == 0) {
                now = after(now);
                grief = Math.min(99, grief + 15);
            }
        }
        return grief;
    }

    private static void draws() {
        Edge.term("YEARS by a seed");
        for (int p = 0; p < 9; p++) {
            GivenAway x = Check.of("beast 10 0 0;".repeat(p) + "beast 95 0 0;" + "beast 10 0 0;".repeat(8 - p));
            Edge.due("each of nine PEOPLE is drawn, " + p, x.drawn(seedFor(0, 9, p), 1, 2), 80 + 99);
        }
        for (int b = 0; b < 6; b++) {
            GivenAway x = Check.of("bride 9;".repeat(b) + "bride 0;" + "bride 9;".repeat(5 - b));
            Edge.due("each of six BRIDES is drawn, " + b, x.drawn(seedFor(1, 6, b), 1, 0), 0);
            Edge.due("another one is drawn", x.drawn(seedFor(1, 6, (b + 1) % 6), 1, 0), 1);
        }
        boolean signed = false;
        boolean bit16 = false;
        for (int seed = -200; seed < 200; seed++) {
            int first = after(seed);
            boolean zero = drawOf(first, 6) == 0;
            signed |= zero != ((first >>> 16) % 6 == 0);
            bit16 |= zero != ((first >>> 17 & 0x7fff) % 6 == 0);
            GivenAway x = Check.of("beast 0 0 0;");
            Edge.due("bits 16 to 30 by " + seed, x.drawn(seed, 1, 2), zero ? 15 : 0);
        }
        Edge.due("bit 31 would have told", signed, true);
        Edge.due("without bit 16 it would have told", bit16, true);
    }

    /** A seed by which no bride is drawn in these days, of one bride. */
    private static int quietSeed(int days) {
        for (int seed = 0; seed < 10000000; seed++) {
            int now = seed;
            int quiet = 0;
            while (quiet < days && drawOf(now = after(now), 6) != 1) {
                quiet++;
            }
            if (quiet == days) {
                return seed;
            }
        }
        throw new IllegalStateException("no such seed");
    }

    private static void lastOfDays() {
        Edge.term("YEARS by a seed");
        GivenAway x = Check.of("bride 59;");
        int seed = quietSeed(60);
        Edge.due("on the last of 60 DAYS", x.drawn(seed, 60, 0), 1);
        Edge.due("in 59 DAYS not yet", x.drawn(seed, 59, 0), 0);
        Edge.due("on DAY 60 not in 60 DAYS", Check.of("bride 60;").drawn(seed, 60, 0), 0);
        GivenAway last = Check.of("bride 60;");
        last.putOff(0, 999);
        for (int i = 0; i < 49; i++) {
            last.days(20);
        }
        last.days(19);
        Edge.due("on DAY 999", last.drawn(seed, 1, 0), 1);
        Edge.due("PUT OFF by 2 beyond DAY 999, not on it", last.drawn(seedFor(1, 1, 0), 1, 0), 0);
        Edge.due("the wedding stays", last.bride(0, 0), 999);
    }
}
