/** Boundary cases of promises 1 to 4, and of the terms that tell of a text. */
final class EdgeTexts {
    private static final String[] KINDS = {"father", "friend", "suitor", "beast"};
    private static final String NINE = "beast 1 1 1;".repeat(9);
    private static final String SIX = "bride 1;".repeat(6);
    private static final String COUPLE = "father 1 1 1;bride 1;";
    private static final String SIX_NOTS = "not ".repeat(6);

    private EdgeTexts() {
    }

    static void all() {
        newObject();
        feeding();
        feedingTooMuch();
        highestByteFirst();
        readingSoManyBytes();
        readingAnew();
        readingWithFault();
        readingInARow();
        readingBehindQuestions();
        placeOfFault();
        people();
        numbersOfPeople();
        brides();
        ties();
        rules();
        lengthOfText();
        everyByte();
        words();
        lettersOfWords();
        numbers();
        lines();
        endsTooSoon();
        expressions();
        depth();
        nots();
        values();
        unknown();
        firstAndLeast();
    }

    private static void newObject() {
        Edge.promise(1);
        GivenAway x = new GivenAway();
        for (int what = 0; what <= 12; what++) {
            Edge.due("count(" + what + ")", x.count(what), 0);
        }
        Edge.due("fault()", x.fault(), -1);
        Edge.due("undo()", x.undo(), -1);
        Edge.due("restore()", x.restore(), false);
        Edge.due("dog()", x.dog(), 0);
        Edge.due("choice(-1)", x.choice(-1), 0);
        Edge.due("unloved()", x.unloved(), 0);
        Edge.due("busiest(60)", x.busiest(60), -1);
        Edge.due("crowd(0)", x.crowd(0), -1);
        Edge.due("crowd(1)", x.crowd(1), 0);
        Edge.due("hidden(0)", x.hidden(0), 0);
        Edge.due("hidden(1)", x.hidden(1), -1);
        Edge.due("hidden(2)", x.hidden(2), 1);
        Edge.due("next(0)", x.next(0), -1);
        Edge.due("next(1)", x.next(1), 0);
        for (int what = 0; what < 3; what++) {
            Edge.due("drawn(7, 60, " + what + ")", x.drawn(7, 60, what), 0);
        }
        nobodyToAsk(x);
        Edge.due("a DAY without anybody", x.days(1), 1);
        Edge.due("undone", x.undo(), 0);
    }

    private static void nobodyToAsk(GivenAway x) {
        Edge.noSuch("person(0, 0)", x, g -> g.person(0, 0));
        Edge.noSuch("bride(0, 0)", x, g -> g.bride(0, 0));
        Edge.noSuch("years(0, 0)", x, g -> g.years(0, 0));
        Edge.noSuch("weight(0, 0)", x, g -> g.weight(0, 0));
        Edge.noSuch("train(0, 0)", x, g -> g.train(0, 0));
        Edge.noSuch("onions(0, 1)", x, g -> g.onions(0, 1));
        Edge.noSuch("putOff(0, 1)", x, g -> g.putOff(0, 1));
        Edge.noSuch("tie(0, 0, 1)", x, g -> g.tie(0, 0, 1));
        Edge.noSuch("leader(0)", x, g -> g.leader(0));
        Edge.noSuch("then(0, 0)", x, g -> g.then(0, 0));
        Edge.noSuch("led(0, 0)", x, g -> g.led(0, 0));
        Edge.noSuch("rank(0, 0)", x, g -> g.rank(0, 0));
        Edge.noSuch("toTrain(0, 0)", x, g -> g.toTrain(0, 0));
        Edge.noSuch("instead(0)", x, g -> g.instead(0));
        Edge.noSuch("bestDay(0, 0)", x, g -> g.bestDay(0, 0));
        Edge.noSuch("choice(0)", x, g -> g.choice(0));
        Edge.noSuch("tug(0)", x, g -> g.tug(0));
        Edge.noSuch("decisive(0, 0)", x, g -> g.decisive(0, 0));
        Edge.noSuch("steps(0, 0)", x, g -> g.steps(0, 0));
        Edge.noSuch("common(0, 0)", x, g -> g.common(0, 0));
        Edge.noSuch("see(0, 0, 0, 1, true)", x, g -> g.see(0, 0, 0, 1, true));
        Edge.noSuch("game(0, 1, 0, 0)", x, g -> g.game(0, 1, 0, 0));
        for (int what = 10; what <= 12; what++) {
            Edge.due("count(" + what + ") behind all that threw", x.count(what), 0);
        }
    }

    private static int feedBlanks(GivenAway x) {
        return x.feed(0x20202020, 0x20202020, 0x20202020, 0x20202020, 0x20202020);
    }

    private static void feeding() {
        Edge.promise(2);
        GivenAway x = new GivenAway();
        for (int i = 1; i <= 35; i++) {
            Edge.due("feed " + i, feedBlanks(x), 20 * i);
            Edge.due("the tape behind feed " + i, x.count(9), 20 * i);
        }
        for (int i = 36; i <= 37; i++) {
            Edge.due("feed " + i + " would be more than 700", x.feed(-1, -1, -1, -1, -1), -1);
            Edge.due("none come by feed " + i, x.count(9), 700);
        }
        for (int what = 10; what <= 12; what++) {
            Edge.due("count(" + what + "): no STATUS of that", x.count(what), 0);
        }
        Edge.due("all 700 are read", x.dale(700), 0);
        Edge.due("the tape is empty", x.count(9), 0);
        Edge.due("it has room again", feedBlanks(x), 20);
    }

    private static void feedingTooMuch() {
        Edge.promise(2);
        GivenAway x = new GivenAway();
        String full = "weighs 1" + "+1".repeat(345) + " ;";
        Edge.due("a text of 700", Check.feed(x, full), 700);
        Edge.due("feed to a full tape", x.feed(0, 0, 0, 0, 0), -1);
        Edge.due("what was there stays there", x.dale(700), 0);
    }

    private static void highestByteFirst() {
        Edge.promise(2);
        GivenAway x = new GivenAway();
        x.feed(0x62726964, 0x65203520, 0x3b626561, 0x73742031, 0x20322033);
        x.feed(0x3b202020, 0x20202020, 0x20202020, 0x20202020, 0x20202020);
        Edge.due("'bride 5 ;beast 1 2 3;'", x.dale(40), 0);
        Edge.due("DAY", x.bride(0, 0), 5);
        Edge.due("GRIEF", x.person(0, 1), 1);
        Edge.due("ONIONS", x.person(0, 3), 3);
        int[] strange = {0x80202020, 0xff202020, 0x7f202020, 0x00202020};
        for (int number : strange) {
            x.feed(number, 0x20202020, 0x20202020, 0x20202020, 0x20202020);
            Edge.due("byte " + (number >>> 24) + " is no TOKEN", x.dale(20), 1);
            Edge.due("byte " + (number >>> 24) + " is the first", x.fault(), 0);
        }
        x.feed(0x20202020, 0x20202020, 0x20202020, 0x20202020, 0x202020ff);
        Edge.due("byte 255 at the end", x.dale(20), 1);
        Edge.due("byte 255 is the last", x.fault(), 19);
    }

    private static void readingSoManyBytes() {
        Edge.promise(3);
        GivenAway x = new GivenAway();
        Edge.due("nothing of an empty tape", x.dale(0), 0);
        Edge.illegal("1 of an empty tape", x, g -> g.dale(1));
        Check.feed(x, "bride 12;");
        Edge.due("all bytes of the tape", x.dale(20), 0);
        Edge.due("DAY", x.bride(0, 0), 12);
        Check.feed(x, "bride 12;bride 13;x");
        Edge.due("some bytes of the tape", x.dale(18), 0);
        Edge.due("BRIDES", x.count(1), 2);
        Edge.due("the tape is empty then", x.count(9), 0);
        Check.feed(x, "bride 12;");
        Edge.due("nothing of a tape is a text too", x.dale(0), 0);
        Edge.due("BRIDES", x.count(1), 0);
        Edge.due("the tape is empty then", x.count(9), 0);
        Edge.illegal("dale(-1)", g -> g.dale(-1));
        Edge.illegal("dale(21) of 20", g -> g.dale(21));
        Edge.illegal("dale(2147483647)", g -> g.dale(Integer.MAX_VALUE));
        Edge.illegal("dale(-2147483648)", g -> g.dale(Integer.MIN_VALUE));
        GivenAway full = new GivenAway();
        Check.feed(full, " ".repeat(700));
        Edge.illegal("701 of 700", full, g -> g.dale(701));
        Edge.due("700 are still there", full.count(9), 700);
        Edge.due("700 of 700", full.dale(700), 0);
    }

    private static void readingAnew() {
        Edge.promise(3);
        GivenAway x = Twins.one();
        int[] status = {x.count(10), x.count(11), x.count(12)};
        Edge.due("dale(8)", x.dale(8), 0);
        Edge.due("PEOPLE are gone", x.count(0), 0);
        Edge.due("BRIDES", x.count(1), 1);
        Edge.due("TIES are gone", x.count(2), 0);
        Edge.due("the DAY is 0", x.count(3), 0);
        Edge.due("AT HOME", x.count(4), 1);
        Edge.due("the dog's are gone", x.count(5), 0);
        Edge.due("ACTS are gone", x.count(7), 0);
        Edge.due("ACTS can't be undone", x.undo(), -1);
        Edge.due("what is SEEN is gone", x.count(8), 0);
        Edge.due("the image is gone", x.restore(), false);
        for (int s = 0; s < 3; s++) {
            Edge.due("STATUS " + s + " isn't gone", x.count(10 + s), status[s]);
        }
        Check.dale(x, "father 10 1 0;bride 1;tie 0 0 5;");
        Edge.due("WEIGHS is gone", x.weight(0, 0), 15);
        Edge.due("MOURNS is gone", x.then(0, 1), 11);
        Edge.due("she is AT HOME", x.bride(0, 1), 1);
        Edge.due("nobody led her", x.bride(0, 2), -1);
        Edge.due("nobody has led", x.person(0, 4), 0);
    }

    /** The tape is empty then, which its untouched twin's isn't, so it's fed again. */
    private static int readAndFeedAgain(GivenAway x, int n) {
        int fault = x.dale(n);
        Edge.due("the tape is empty behind a fault", x.count(9), 0);
        Check.feed(x, "bride 5;");
        return fault;
    }

    private static void readingWithFault() {
        Edge.promise(3);
        GivenAway x = Twins.one();
        GivenAway untouched = Twins.one();
        Edge.due("'bride' ends too soon", readAndFeedAgain(x, 5), 1);
        Edge.due("STATUS 0", x.count(10), untouched.count(10) + 1);
        Edge.due("STATUS 1", x.count(11), untouched.count(11));
        Edge.due("STATUS 2", x.count(12), untouched.count(12));
        Edge.due("all stays", Twins.story(x).equals(Twins.story(untouched)), true);
        GivenAway y = Check.of("friend 9 0 0;bride 1;tie 0 0 5;weighs 77;mourns 3;");
        Edge.due("a fault behind rules, people, brides, ties", Check.dale(y,
                "weighs 5;mourns 6;beast 8 8 8;beast 7 7 7;bride 9;bride 8;tie 0 0 9;tie 1 1 1;;"), 1);
        Edge.due("WEIGHS stays", y.weight(0, 0), 77);
        Edge.due("MOURNS stays", y.then(0, 1), 12);
        Edge.due("KIND stays", y.person(0, 0), 1);
        Edge.due("PEOPLE stay", y.count(0), 1);
        Edge.due("BRIDES stay", y.count(1), 1);
        Edge.due("TIES stay", y.count(2), 1);
        Edge.due("YEARS stay", y.years(0, 0), 5);
        for (int again = 2; again <= 4; again++) {
            Edge.due("a fault again", Check.dale(y, "x"), 1);
            Edge.due("each is counted", y.count(10), again);
        }
    }

    private static void readingInARow() {
        Edge.promise(3);
        String couple = "father 10 1 0;bride 1;tie 0 0 5;";
        GivenAway x = new GivenAway();
        for (int i = 1; i <= 5; i++) {
            Edge.due("rules anew", Check.dale(x, couple + "weighs " + i + "+20;mourns " + i + ";"), 0);
            Edge.due("WEIGHS of this text", x.weight(0, 0), i + 20);
            Edge.due("MOURNS of this text", x.then(0, 1), 10 + i);
            if (i % 2 == 0) {
                Edge.due("a FAULT behind rules", Check.dale(x, "weighs 7;mourns 8;;"), 1);
                Edge.due("WEIGHS stays", x.weight(0, 0), i + 20);
                Edge.due("MOURNS stays", x.then(0, 1), 10 + i);
            }
        }
        for (int i = 1; i <= 3; i++) {
            Edge.due("a rule with 'not'", Check.dale(x, couple + "weighs not 0;mourns not 0;"), 0);
            Edge.due("by 'not'", x.weight(0, 0), 1);
        }
        for (int i = 1; i <= 3; i++) {
            Edge.due("a shorter rule", Check.dale(x, couple + "weighs 5;mourns 5;"), 0);
            Edge.due("nothing is left of the longer WEIGHS", x.weight(0, 0), 5);
            Edge.due("nothing is left of the longer MOURNS", x.then(0, 1), 15);
        }
        for (int i = 1; i <= 3; i++) {
            Edge.due("without rules", Check.dale(x, couple), 0);
            Edge.due("without WEIGHS", x.weight(0, 0), 15);
            Edge.due("without MOURNS", x.then(0, 1), 11);
        }
        GivenAway full = new GivenAway();
        for (int i = 1; i <= 3; i++) {
            Edge.due("24 TIES anew", Check.dale(full, ties(24)), 0);
            Edge.due("TIES", full.count(2), 24);
            Edge.due("a FAULT behind 23 TIES", Check.dale(full, ties(23) + ";"), 1);
            Edge.due("PEOPLE stay", full.count(0), 9);
        }
        Edge.due("fewer PEOPLE and BRIDES", Check.dale(full, COUPLE), 0);
        Edge.due("one", full.count(0), 1);
        Edge.due("one", full.count(1), 1);
        Edge.due("no TIE of another text", full.count(2), 0);
        Edge.noSuch("person(1, 0)", full, g -> g.person(1, 0));
        Edge.noSuch("bride(1, 0)", full, g -> g.bride(1, 0));
    }

    private static void readingBehindQuestions() {
        Edge.promise(3);
        GivenAway x = Twins.one();
        x.then(0, 60);
        Edge.due("dale(8) behind a question", x.dale(8), 0);
        Edge.due("the DAY is 0", x.count(3), 0);
        Edge.due("the dog's are none", x.count(5), 0);
        Edge.due("AT HOME", x.bride(0, 1), 1);
        x.drawn(1, 60, 0);
        Edge.due("dale(0) behind a question", x.dale(0), 0);
        Edge.due("the DAY is 0", x.count(3), 0);
        Edge.due("nobody is AT HOME", x.count(4), 0);
        Edge.due("the dog's are none", x.count(5), 0);
    }

    private static void placeOfFault() {
        Edge.promise(4);
        GivenAway x = new GivenAway();
        Edge.due("without any dale()", x.fault(), -1);
        Check.dale(x, "x");
        Edge.due("the first byte", x.fault(), 0);
        Edge.illegal("dale(1) of none", x, g -> g.dale(1));
        Edge.due("as it was behind one that throws", x.fault(), 0);
        Check.dale(x, "bride 1;;");
        Edge.due("of the latest of two", x.fault(), 8);
        x.image();
        Check.dale(x, "bride 1;bride 2; ;");
        x.restore();
        Edge.due("the latest, whatever is restored", x.fault(), 17);
        x.days(1);
        x.undo();
        Edge.due("whatever is done and undone", x.fault(), 17);
        x.dale(0);
        Edge.due("the latest has none", x.fault(), -1);
        Check.dale(x, "weighs 1" + "+1".repeat(345) + "+1");
        Edge.due("the text's length, 700", x.fault(), 700);
        Check.dale(x, " ".repeat(699) + ";");
        Edge.due("the last byte, 699", x.fault(), 699);
        Check.dale(x, "bride 1;");
        Edge.due("the latest has none", x.fault(), -1);
    }

    private static void people() {
        Edge.term("PEOPLE");
        Edge.due("nobody", Edge.fine("").count(0), 0);
        Edge.due("one", Edge.fine("beast 1 1 1;").count(0), 1);
        Edge.due("nine", Edge.fine(NINE).count(0), 9);
        for (int kind = 0; kind < KINDS.length; kind++) {
            GivenAway x = Edge.fine(KINDS[kind] + " 1 2 3;");
            Edge.due("KIND of a " + KINDS[kind], x.person(0, 0), kind);
            Edge.faulty(NINE + "^" + KINDS[kind] + " 1 1 1;", 2);
            Edge.faulty(NINE + SIX + " ^" + KINDS[kind], 2);
        }
        Edge.faulty(NINE + "^father x", 2);
        Edge.faulty(NINE + "^x", 1);
        Edge.faulty(NINE + "^fathers 1 1 1;", 1);
        Edge.faulty("beast 1 1 1;".repeat(8) + "beast 1 1 1^", 1);
    }

    private static void numbersOfPeople() {
        Edge.term("PEOPLE");
        GivenAway least = Edge.fine("father 0 0 0;");
        GivenAway most = Edge.fine("father 99 9 9;");
        GivenAway zeros = Edge.fine("father 0099 0009 0009;");
        int[] wantMost = {0, 99, 9, 9};
        for (int what = 1; what <= 3; what++) {
            Edge.due("the least of " + what, least.person(0, what), 0);
            Edge.due("the most of " + what, most.person(0, what), wantMost[what]);
            Edge.due("zeros ahead of " + what, zeros.person(0, what), wantMost[what]);
        }
        Edge.faulty("father ^100 0 0;", 2);
        Edge.faulty("father ^0100 0 0;", 2);
        Edge.faulty("father ^9999 0 0;", 2);
        Edge.faulty("father ^00099 0 0;", 2);
        Edge.faulty("father ^-1 0 0;", 1);
        Edge.faulty("father 0 ^10 0;", 2);
        Edge.faulty("father 0 ^9999 0;", 2);
        Edge.faulty("father 0 ^00009 0;", 2);
        Edge.faulty("father 0 ^-1 0;", 1);
        Edge.faulty("father 0 0 ^10;", 2);
        Edge.faulty("father 0 0 ^9999;", 2);
        Edge.faulty("father 0 0 ^00009;", 2);
        Edge.faulty("father 0 0 ^-1;", 1);
    }

    private static void brides() {
        Edge.term("BRIDES");
        Edge.due("none", Edge.fine("").count(1), 0);
        Edge.due("one", Edge.fine("bride 1;").count(1), 1);
        Edge.due("six", Edge.fine(SIX).count(1), 6);
        Edge.faulty(SIX + "^bride 1;", 2);
        Edge.faulty(SIX + NINE + "^bride", 2);
        Edge.faulty(SIX + "^brid 1;", 1);
        Edge.due("the least DAY", Edge.fine("bride 0;").bride(0, 0), 0);
        Edge.due("the last DAY", Edge.fine("bride 60;").bride(0, 0), 60);
        Edge.faulty("bride ^61;", 2);
        Edge.faulty("bride ^9999;", 2);
        Edge.faulty("bride ^00060;", 2);
        Edge.faulty("bride ^-1;", 1);
    }

    private static String ties(int many) {
        StringBuilder text = new StringBuilder(NINE + SIX);
        for (int i = 0; i < many; i++) {
            text.append("tie ").append(i / 6).append(' ').append(i % 6).append(" 1;");
        }
        return text.toString();
    }

    private static void ties() {
        Edge.term("TIES");
        for (int many : new int[] {0, 1, 23, 24}) {
            Edge.due(many + " TIES", Edge.fine(ties(many)).count(2), many);
        }
        Edge.faulty(ties(24) + "^tie 4 0 1;", 2);
        Edge.faulty(ties(24) + "^tie 0 0 1;", 2);
        Edge.faulty(ties(24) + "^tie", 2);
        Edge.faulty(ties(23) + "tie 0 ^0 1;", 4);
        Edge.due("the fewest YEARS", Edge.fine(COUPLE + "tie 0 0 1;").years(0, 0), 1);
        Edge.due("the most YEARS", Edge.fine(COUPLE + "tie 0 0 40;").years(0, 0), 40);
        Edge.faulty(COUPLE + "tie 0 0 ^0;", 2);
        Edge.faulty(COUPLE + "tie 0 0 ^41;", 2);
        Edge.faulty(COUPLE + "tie 0 0 ^9999;", 2);
        Edge.faulty(COUPLE + "tie 0 0 ^00001;", 2);
        Edge.faulty(COUPLE + "tie 0 0 ^-1;", 1);
        GivenAway last = Edge.fine(NINE + SIX + "tie 8 5 7;tie 0 5 8;tie 8 0 9;");
        Edge.due("the last of PEOPLE and BRIDES", last.years(8, 5), 7);
        Edge.due("the first of PEOPLE", last.years(0, 5), 8);
        Edge.due("the first BRIDE", last.years(8, 0), 9);
    }

    private static void rules() {
        Edge.term("FAULTS");
        Edge.due("no rule", Edge.fine("father 7 0 0;bride 9;tie 0 0 5;").weight(0, 0), 12);
        Edge.due("one rule", Edge.fine("weighs 3;father 7 0 0;bride 9;tie 0 0 5;").weight(0, 0), 3);
        GivenAway both = Edge.fine("mourns 4;weighs 3;father 7 0 0;bride 9;tie 0 0 5;");
        Edge.due("both rules: WEIGHS", both.weight(0, 0), 3);
        Edge.due("both rules: MOURNS", both.then(0, 1), 11);
        Edge.faulty("weighs 1;^weighs 1;", 5);
        Edge.faulty("mourns 1;^mourns 1;", 5);
        Edge.faulty("weighs 1;mourns 1;^weighs", 5);
        Edge.faulty("mourns 1;weighs 1;bride 1;^mourns x", 5);
    }

    private static void lengthOfText() {
        Edge.term("A TEXT");
        Edge.fine("");
        Edge.fine(" ");
        Edge.fine("\n");
        Edge.fine(" \n".repeat(350));
        String most = "weighs 1" + "+1".repeat(345) + " ;";
        Edge.due("a text of 700", most.length(), 700);
        GivenAway x = Edge.fine(most);
        Check.feed(x, "father 1 1 1;bride 0;tie 0 0 1;" + "weighs 0" + "+1".repeat(330) + ";");
        Edge.due("a text of 700", x.dale(700), 0);
        Edge.due("all of its EXPR counts", x.weight(0, 0), 330);
        Edge.faulty(most.substring(0, 699) + "^", 1);
        Edge.faulty(most.substring(0, 699) + "^:", 1);
    }

    private static boolean isBlank(int c) {
        return c == 32 || c == 10;
    }

    private static boolean isLetter(int c) {
        return "abcdefghijklmnopqrstuvwxyz".indexOf(c) >= 0;
    }

    private static boolean isDigit(int c) {
        return "0123456789".indexOf(c) >= 0;
    }

    private static void everyByte() {
        Edge.term("TOKENS");
        for (int c = 0; c < 256; c++) {
            if (c == '^') {
                continue;
            }
            String sign = String.valueOf((char) c);
            if (isBlank(c)) {
                Edge.fine("bride 1;" + sign);
                Edge.fine("bride" + sign + "1" + sign + ";");
                Edge.faulty("weighs 1" + sign + "^1;", 1);
                Edge.faulty("weighs " + sign + "^;", 1);
                continue;
            }
            Edge.faulty("bride 1;^" + sign, 1);
            byteWhereOperatorMayStand(c, sign);
            byteWherePartMustStand(c, sign);
        }
        // '^' marks the places of the others, so it is told by itself.
        GivenAway x = new GivenAway();
        Edge.due("'^' is no TOKEN", Check.dale(x, "bride 1;^"), 1);
        Edge.due("'^' is no TOKEN", x.fault(), 8);
    }

    private static void byteWhereOperatorMayStand(int c, String sign) {
        if ("+-*/<=".indexOf(c) >= 0 || isDigit(c)) {
            Edge.fine("weighs 1" + sign + "1;");
        } else if (c == ';') {
            Edge.faulty("weighs 1;^1;", 1);
        } else {
            Edge.faulty("weighs 1^" + sign + "1;", 1);
        }
    }

    private static void byteWherePartMustStand(int c, String sign) {
        if (isDigit(c)) {
            Edge.fine("weighs " + sign + ";");
        } else if (isLetter(c)) {
            Edge.faulty("weighs ^" + sign + ";", 3);
        } else if (c == '(') {
            Edge.faulty("weighs (^;", 1);
        } else {
            Edge.faulty("weighs ^" + sign + ";", 1);
        }
    }

    private static void words() {
        Edge.term("TOKENS");
        Edge.fine("father0 0 0;bride0;tie0 0 1;weighs0;mourns0;");
        Edge.faulty("^fatherr 0 0 0;", 1);
        Edge.faulty("^fathe 0 0 0;", 1);
        Edge.faulty("^fatherfather 0 0 0;", 1);
        Edge.faulty("^brides 0;", 1);
        Edge.faulty("^ties 0 0 1;", 1);
        Edge.faulty("^weigh 0;", 1);
        Edge.faulty("^mournss 0;", 1);
        Edge.faulty("^Bride 0;", 1);
        Edge.faulty("^bRide 0;", 1);
        Edge.faulty("bride^X 0;", 1);
        Edge.faulty("^" + "a".repeat(600), 1);
        Edge.faulty("weighs ^grie;", 3);
        Edge.faulty("weighs ^griefs;", 3);
        Edge.faulty("weighs ^griefgrief;", 3);
        Edge.faulty("weighs grief ^grief;", 1);
        Edge.faulty("weighs 1 ^orr 1;", 1);
        Edge.faulty("weighs 1 ^andor 1;", 1);
        Edge.faulty("weighs ^nott 1;", 3);
        Edge.fine("weighs not(1)or(2)and not 3;");
        Edge.fine("weighs 1or 2and 3;");
        Edge.faulty("weighs 1 or ^or3;", 3);
        Edge.faulty("weighs ^notgrief;", 3);
    }

    private static void lettersOfWords() {
        Edge.term("TOKENS");
        for (String word : new String[] {"father", "friend", "suitor", "beast", "bride", "tie", "weighs", "mourns"}) {
            for (String other : spoilt(word)) {
                Edge.faulty(COUPLE + "^" + other + " 1 1 1;", 1);
            }
        }
        for (String word : new String[] {"grief", "onions", "kind", "led", "day", "years", "left", "rivals", "not"}) {
            for (String other : spoilt(word)) {
                Edge.faulty("weighs ^" + other + " 1;", 3);
            }
        }
        for (String word : new String[] {"or", "and"}) {
            for (String other : spoilt(word)) {
                Edge.faulty("weighs 1 ^" + other + " 1;", 1);
            }
        }
    }

    /** A word with another letter in each of its places, one less at either end, one more at either end. */
    private static String[] spoilt(String word) {
        String[] all = new String[word.length() + 4];
        for (int i = 0; i < word.length(); i++) {
            all[i] = word.substring(0, i) + "q" + word.substring(i + 1);
        }
        all[word.length()] = word.substring(1);
        all[word.length() + 1] = word.substring(0, word.length() - 1);
        all[word.length() + 2] = "q" + word;
        all[word.length() + 3] = word + "q";
        return all;
    }

    private static void numbers() {
        Edge.term("TOKENS");
        Edge.fine("weighs 0;");
        Edge.fine("weighs 9999;");
        Edge.fine("weighs 0000;");
        Edge.faulty("weighs ^00000;", 2);
        Edge.faulty("weighs ^10000;", 2);
        Edge.faulty("weighs 1+^99999;", 2);
        Edge.faulty("weighs ^" + "9".repeat(690) + ";", 2);
        Edge.faulty("weighs ^" + "0".repeat(690), 2);
        Edge.faulty("bride ^" + "0".repeat(600) + ";", 2);
        Edge.faulty("bride 6^x0;", 1);
        Edge.faulty("bride 6 ^0;", 1);
        Edge.faulty("bride 0^.5;", 1);
        Edge.faulty("^12345;", 1);
        Edge.faulty("weighs 1 ^12345;", 1);
        Edge.faulty("bride 1 ^12345;", 1);
        Edge.due("the greatest", Edge.fine(COUPLE + "tie 0 0 1;weighs 9999-9000;").weight(0, 0), 999);
    }

    private static void lines() {
        Edge.term("LINE");
        Edge.faulty("^;", 1);
        Edge.faulty("bride 1;^;", 1);
        Edge.faulty("^1;", 1);
        Edge.faulty("^(bride 1);", 1);
        Edge.faulty("^grief;", 1);
        Edge.faulty("^not;", 1);
        Edge.faulty("father^;", 1);
        Edge.faulty("father 1^;", 1);
        Edge.faulty("father 1 1^;", 1);
        Edge.faulty("father 1 1 1 ^1;", 1);
        Edge.faulty("father 1 1 1 ^bride 1;", 1);
        Edge.faulty("father ^father 1 1 1;", 1);
        Edge.faulty("father 1 ^grief 1;", 1);
        Edge.faulty("father ^(1) 1 1;", 1);
        Edge.faulty("father 1^+1 1 1;", 1);
        Edge.faulty("bride^;", 1);
        Edge.faulty("bride 1 ^1;", 1);
        Edge.faulty("bride ^day;", 1);
        Edge.faulty(COUPLE + "tie^;", 1);
        Edge.faulty(COUPLE + "tie ^x 0 1;", 1);
        Edge.faulty(COUPLE + "tie 0^;", 1);
        Edge.faulty(COUPLE + "tie 0 ^x 1;", 1);
        Edge.faulty(COUPLE + "tie 0 0^;", 1);
        Edge.faulty(COUPLE + "tie 0 0 ^x;", 1);
        Edge.faulty(COUPLE + "tie 0 0 1 ^1;", 1);
        Edge.faulty("weighs^;", 1);
        Edge.faulty("mourns^;", 1);
        Edge.faulty("weighs 1 ^1;", 1);
        Edge.faulty("weighs 1 ^bride 1;", 1);
    }

    private static void endsTooSoon() {
        Edge.term("FAULTS");
        String text = "father 1 2 3;bride 4;tie 0 0 5;weighs (not grief<1 or 2+3)*4;mourns led;";
        for (int n = 0; n <= text.length(); n++) {
            boolean whole = n == 0 || text.charAt(n - 1) == ';';
            GivenAway x = new GivenAway();
            Check.feed(x, text);
            int fault = x.dale(n);
            Edge.due("whether it's whole, the first " + n, fault == 0, whole);
            boolean cutWord = n > 0 && isLetter(text.charAt(n - 1)) && fault != 0 && x.fault() < n;
            if (!whole && !cutWord) {
                Edge.due("what ends too soon, the first " + n, fault, 1);
                Edge.due("its length, the first " + n, x.fault(), n);
            }
        }
        Edge.faulty("father^", 1);
        Edge.faulty("father 1 1 1   ^", 1);
        Edge.faulty("bride\n\n^", 1);
        Edge.faulty("weighs^", 1);
        Edge.faulty("weighs not^", 1);
        Edge.faulty("weighs (^", 1);
        Edge.faulty("weighs (1^", 1);
        Edge.faulty("weighs 1+^", 1);
        Edge.faulty("weighs 1<^", 1);
        Edge.faulty("weighs 1 and^", 1);
        Edge.faulty("weighs 1 or ^", 1);
        Edge.faulty("weighs 1^", 1);
        Edge.faulty("weighs 1234^", 1);
    }

    private static int worth(String expression) {
        return Edge.fine("suitor 50 2 4;friend 1 1 1;bride 9;tie 0 0 7;tie 1 0 3;weighs " + expression + ";").weight(0, 0);
    }

    private static void expressions() {
        Edge.term("EXPR");
        Edge.due("one 'or'", worth("0 or 0"), 0);
        Edge.due("many", worth("0 or 0 or 0 or 5"), 1);
        Edge.due("many 'and'", worth("1 and 2 and 3 and 0"), 0);
        Edge.due("all hold", worth("1 and 2 and 3"), 1);
        Edge.due("an alone 5 stays 5", worth("5"), 5);
        Edge.due("a test that holds", worth("4<5"), 1);
        Edge.due("not less than itself", worth("5<5"), 0);
        Edge.due("not less", worth("6<5"), 0);
        Edge.due("alike", worth("5=5"), 1);
        Edge.due("not alike", worth("5=4"), 0);
        Edge.faulty("weighs 1<2^<3;", 1);
        Edge.faulty("weighs 1=2^=3;", 1);
        Edge.faulty("weighs 1<2^=3;", 1);
        Edge.faulty("weighs 1<^=2;", 1);
        Edge.faulty("weighs ^-1;", 1);
        Edge.faulty("weighs 1+^-1;", 1);
        Edge.faulty("weighs 1*^/1;", 1);
        Edge.faulty("weighs (^);", 1);
        Edge.faulty("weighs 1^);", 1);
        Edge.faulty("weighs 1^(2);", 1);
        Edge.faulty("weighs (1)^(2);", 1);
        Edge.faulty("weighs (1^;", 1);
        Edge.faulty("weighs ((1)^;", 1);
        Edge.due("sums from the left", worth("9-3-2"), 4);
        Edge.due("products from the left", worth("100/5/2*3"), 30);
        Edge.due("tests from the left in parentheses", worth("(3<2)<1"), 1);
        Edge.due("cut down to 0 from above", worth("7/2"), 3);
        Edge.due("cut down to 0 from below", worth("(0-7)/2+10"), 7);
        Edge.due("cut down to 0 below -1", worth("5+(0-1)/2"), 5);
        Edge.due("by 0", worth("9/0+4"), 4);
        Edge.due("0 by 0", worth("0/0+4"), 4);
        Edge.due("by what becomes 0", worth("9/(grief-50)+4"), 4);
        wrapping();
        whatHolds();
    }

    private static void wrapping() {
        // 2147483647 = 1024 * 1024 * 2048 - 1
        String most = "1024*1024*2048-1";
        Edge.due("the greatest int is above 0", worth("0<" + most), 1);
        Edge.due("one more wraps to the least", worth("(" + most + ")+1<0"), 1);
        Edge.due("one less than the least wraps", worth("0<1024*1024*2048-1"), 1);
        Edge.due("2 by 31 is its own opposite", worth("0-1024*1024*2048=1024*1024*2048"), 1);
        Edge.due("the least by -1 wraps", worth("1024*1024*2048/(0-1)=1024*1024*2048"), 1);
        Edge.due("a product wraps to 0", worth("1024*1024*4096+3"), 3);
        Edge.due("the greatest is kept to 999", worth(most), 999);
        Edge.due("the least is kept to 0", worth("1024*1024*2048"), 0);
    }

    private static void whatHolds() {
        Edge.due("0 doesn't hold", worth("not 0"), 1);
        Edge.due("1 holds", worth("not 1"), 0);
        Edge.due("-1 holds", worth("not (0-1)"), 0);
        Edge.due("'not' of what holds twice is 1", worth("not not 7"), 1);
        Edge.due("7 and 8 is 1", worth("7 and 8"), 1);
        Edge.due("0 and 8 is 0", worth("0 and 8"), 0);
        Edge.due("7 and 0 is 0", worth("7 and 0"), 0);
        Edge.due("7 or 0 is 1", worth("7 or 0"), 1);
        Edge.due("0 or 7 is 1", worth("0 or 7"), 1);
        Edge.due("7 or 8 is 1", worth("7 or 8"), 1);
        Edge.due("'and' binds more than 'or'", worth("1 or 1 and 0"), 1);
        Edge.due("'not' binds less than a test", worth("not 1=2"), 1);
        Edge.due("a test binds less than a sum", worth("1+2=3"), 1);
        Edge.due("a sum binds less than a product", worth("1+2*3"), 7);
    }

    private static String within(int parentheses, String inner) {
        return "weighs " + "(".repeat(parentheses) + inner;
    }

    private static void depth() {
        Edge.term("FAULTS");
        for (int many = 0; many <= 5; many++) {
            Edge.fine(within(many, "1" + ")".repeat(many) + ";"));
            Edge.fine(within(many, "not grief" + ")".repeat(many) + ";"));
        }
        Edge.faulty(within(6, "^1" + ")".repeat(6) + ";"), 2);
        Edge.faulty(within(6, "^12345"), 2);
        Edge.faulty(within(6, "^grief"), 2);
        Edge.faulty(within(6, "^x"), 2);
        Edge.faulty(within(6, "^not 1"), 2);
        Edge.faulty(within(6, "^or"), 2);
        Edge.faulty(within(6, "^father"), 2);
        Edge.faulty(within(6, "^(1"), 2);
        Edge.faulty(within(6, "^)"), 1);
        Edge.faulty(within(6, "^;"), 1);
        Edge.faulty(within(6, "^+1"), 1);
        Edge.faulty(within(6, "^!"), 1);
        Edge.faulty(within(6, " ^"), 1);
        Edge.fine("weighs " + "(1)+".repeat(60) + "(1);");
        Edge.faulty("mourns 1+2*(3-(4/(5<(6 and (7 or (^8", 2);
        Edge.fine("mourns 1+2*(3-(4/(5<(6 and (7 or 8)))));");
        Edge.faulty("weighs not (not (not (not (not (not (^1", 2);
        Edge.due("each depth holds all its operands back", worth("1 or 1 and 1<1+1*(1 or 1 and 1<1+1*(1 or 1 and 1<1+1*("
                + "1 or 1 and 1<1+1*(1 or 1 and 1<1+1*(1 or 1 and 1<1+1*1)))))"), 1);
        Edge.due("and the innermost counts", worth("0 or 1 and 1<1+1*(0 or 1 and 1<1+1*(0 or 1 and 1<1+1*("
                + "0 or 1 and 1<1+1*(0 or 1 and 1<1+1*(0 or 1 and 1<1+1*0)))))"), 0);
    }

    private static void nots() {
        Edge.term("FAULTS");
        for (int many = 0; many <= 6; many++) {
            Edge.due(many + " 'not'", worth("not ".repeat(many) + "7"), many == 0 ? 7 : many % 2 == 0 ? 1 : 0);
        }
        Edge.faulty("weighs " + SIX_NOTS + "^not 1;", 2);
        Edge.faulty("weighs " + SIX_NOTS + "^not", 2);
        Edge.faulty("weighs 1 and " + SIX_NOTS + "^not 1;", 2);
        Edge.faulty("weighs 1 or " + SIX_NOTS + "^not 1;", 2);
        Edge.faulty("weighs (" + SIX_NOTS + "^not 1);", 2);
        Edge.faulty("weighs " + SIX_NOTS + "^nott;", 3);
        Edge.faulty("weighs " + SIX_NOTS + "^;", 1);
        Edge.fine("weighs " + SIX_NOTS + "1 and " + SIX_NOTS + "1 or " + SIX_NOTS + "1;");
        Edge.fine("weighs " + SIX_NOTS + "(" + SIX_NOTS + "1);");
    }

    private static void values() {
        Edge.term("VALUES");
        String[] ofOne = {"grief", "onions", "kind", "led", "day"};
        String[] forBride = {"years", "left", "rivals"};
        for (String value : ofOne) {
            Edge.fine("weighs " + value + ";mourns " + value + ";");
        }
        for (String value : forBride) {
            Edge.fine("weighs " + value + ";");
            Edge.faulty("mourns ^" + value + ";", 3);
            Edge.faulty("weighs " + value + ";mourns 1+(^" + value + ");", 3);
        }
        Edge.faulty("weighs ^trains;", 3);
        Edge.faulty("weighs ^weighs;", 3);
        Edge.faulty("mourns ^bride;", 3);
        lefts();
        rivals();
        leds();
    }

    private static void lefts() {
        GivenAway x = Edge.fine("beast 1 0 0;bride 2;tie 0 0 1;weighs 100+left;");
        Edge.due("2 DAYS left", x.weight(0, 0), 102);
        x.days(1);
        Edge.due("1 DAY left", x.weight(0, 0), 101);
        x.days(1);
        Edge.due("0 on it", x.weight(0, 0), 100);
        x.days(1);
        Edge.due("0 behind it", x.weight(0, 0), 100);
        x.days(1);
        Edge.due("0 far behind it", x.weight(0, 0), 100);
        GivenAway far = Edge.fine("beast 1 0 0;bride 60;tie 0 0 1;weighs left;");
        Edge.due("60 left", far.weight(0, 0), 60);
        far.putOff(0, 999);
        Edge.due("999 left", far.weight(0, 0), 999);
    }

    private static void rivals() {
        StringBuilder text = new StringBuilder(NINE + "bride 1;bride 1;weighs 100+rivals;tie 8 1 1;");
        for (int p = 0; p < 9; p++) {
            GivenAway x = Edge.fine(text.append("tie ").append(p).append(" 0 1;").toString());
            Edge.due(p + " others", x.weight(0, 0), 100 + p);
            Edge.due("none beside another BRIDE's", x.weight(8, 1), 100);
        }
    }

    private static void leds() {
        GivenAway x = Edge.fine("beast 99 0 0;" + "bride 0;bride 1;bride 2;bride 3;bride 4;bride 5;"
                + "tie 0 0 1;tie 0 1 1;tie 0 2 1;tie 0 3 1;tie 0 4 1;tie 0 5 1;weighs 100+led;mourns led;");
        int grief = 99;
        for (int many = 0; many <= 6; many++) {
            Edge.due("led " + many + ", WEIGHS", x.weight(0, 5), 100 + many);
            Edge.due("led " + many + ", GRIEF", x.person(0, 1), grief);
            x.days(1);
            grief = many < 6 ? grief / 2 + many + 1 : grief + 6;
        }
    }

    private static void unknown() {
        Edge.term("FAULTS");
        Edge.faulty("tie ^0 0 1;", 3);
        Edge.faulty("bride 1;tie ^0 0 1;", 3);
        Edge.faulty("father 1 1 1;tie 0 ^0 1;", 3);
        Edge.faulty("tie ^0 0 1;" + COUPLE, 3);
        Edge.faulty(COUPLE + "tie ^1 0 1;father 1 1 1;", 3);
        Edge.faulty(COUPLE + "tie 0 ^1 1;bride 1;", 3);
        Edge.faulty(NINE + SIX + "tie ^9 0 1;", 3);
        Edge.faulty(NINE + SIX + "tie 0 ^6 1;", 3);
        Edge.faulty(NINE + SIX + "tie ^9999 0 1;", 3);
        Edge.faulty(NINE + SIX + "tie 0 ^9999 1;", 3);
        Edge.faulty(NINE + SIX + "tie ^10000 0 1;", 2);
        Edge.faulty(NINE + SIX + "tie 0 ^00000 1;", 2);
        Edge.fine(COUPLE + "tie 0000 0000 0001;");
        Edge.faulty(COUPLE + "tie 0 0 1;tie 0 ^0 1;", 4);
        Edge.faulty(COUPLE + "tie 0 0 1;tie 0 ^0 2;", 4);
        Edge.faulty(COUPLE + "tie 0 0 1;tie 0 ^0 99;", 4);
        Edge.faulty(COUPLE + "tie 0 0 1;tie 0 ^1 1;", 3);
        Edge.fine(COUPLE + "father 1 1 1;bride 1;tie 0 0 1;tie 1 0 1;tie 0 1 1;tie 1 1 1;");
        Edge.faulty("weighs 1<^not 1;", 3);
        Edge.faulty("weighs 1+^not 1;", 3);
        Edge.faulty("weighs 1*^and;", 3);
        Edge.faulty("weighs not ^or;", 3);
        Edge.faulty("weighs (^and);", 3);
    }

    private static void firstAndLeast() {
        Edge.term("FAULTS");
        Edge.faulty("father ^100 10 10;", 2);
        Edge.faulty("father 1 ^x 100;tie 9 9 9;", 1);
        Edge.faulty("bride ^61 x", 2);
        Edge.faulty("weighs 1;^weighs x;;", 5);
        Edge.faulty(COUPLE + "tie 0 ^5 99;", 3);
        Edge.faulty(COUPLE + "tie ^5 5 99;", 3);
        Edge.faulty(COUPLE + "tie ^10000 5 99;", 2);
        Edge.faulty("weighs ^x + 12345;", 3);
        Edge.faulty("weighs ^12345 + x;", 2);
        Edge.faulty("mourns ^years 12345;", 3);
        Edge.faulty(ties(24) + "^tie 0 0 41;", 2);
    }
}
