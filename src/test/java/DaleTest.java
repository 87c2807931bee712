/** Promises 1 to 15 and 38, 39: what is fed and told, what days and acts change, what is undone and kept. */
public final class DaleTest {
    private static final String FOUR = "father 40 3 0;friend 30 1 2;suitor 60 0 5;beast 20 9 0;"
            + "bride 2;bride 2;bride 5;tie 0 0 20;tie 1 0 10;tie 2 0 1;tie 0 1 15;tie 3 1 12;tie 1 2 5;";

    private DaleTest() {
    }

    private static void newObject() {
        GivenAway x = new GivenAway();
        for (int what = 0; what <= 12; what++) {
            Check.due("new count " + what, x.count(what), 0);
        }
        Check.due("new fault", x.fault(), -1);
        Check.due("new undo", x.undo(), -1);
        Check.due("new restore", x.restore(), false);
        Check.noSuch("new person", () -> x.person(0, 0));
        Check.noSuch("new bride", () -> x.bride(0, 0));
        Check.due("new days", x.days(20), 20);
        Check.due("new undo", x.undo(), 0);
        Check.due("new day", x.count(3), 0);
    }

    private static void feed() {
        GivenAway x = new GivenAway();
        for (int i = 1; i <= 35; i++) {
            Check.due("feed " + i, x.feed(0x20202020, 0x0a0a0a0a, 0, -1, 5), 20 * i);
        }
        Check.due("feed of a full tape", x.feed(1, 1, 1, 1, 1), -1);
        Check.due("a full tape", x.count(9), 700);
        Check.due("8 blanks, then none", x.dale(9), 1);
        Check.due("its place", x.fault(), 8);
        Check.due("the tape is empty", x.count(9), 0);
        Check.due("feed again", x.feed(0x62726964, 0x65203720, 0x3b202020, 0x20202020, 0x20202020), 20);
        Check.due("highest byte first", x.dale(20), 0);
        Check.due("bride 7", x.bride(0, 0), 7);
        x.feed(0x80808080, 0, 0, 0, 0);
        Check.due("a byte above 127", x.dale(1), 1);
    }

    private static void dale() {
        GivenAway x = Check.of(FOUR);
        x.days(1);
        x.see(0, 0, 0, 1, true);
        x.image();
        Check.feed(x, "bride 9;");
        Check.illegal("dale(-1)", () -> x.dale(-1));
        Check.illegal("dale(21)", () -> x.dale(21));
        Check.due("the tape stays", x.count(9), 20);
        Check.due("brides stay", x.count(1), 3);
        Check.due("fault stays", x.fault(), -1);
        Check.due("a fault", x.dale(5), 1);
        Check.due("its place", x.fault(), 5);
        Check.due("acts stay", x.count(7), 1);
        Check.due("seen stays", x.count(8), 1);
        Check.due("the day stays", x.count(3), 1);
        Check.feed(x, "bride 9;");
        Check.illegal("dale(21)", () -> x.dale(21));
        Check.due("fault stays when dale throws", x.fault(), 5);
        Check.due("the image stays", x.restore(), true);
        Check.due("status as the image", x.count(10), 0);
        Check.due("the tape is no part of the image", x.count(9), 20);
        Check.due("fault is no part of the image", x.fault(), 5);
        Check.due("first 8 bytes", x.dale(8), 0);
        Check.due("fault is gone", x.fault(), -1);
        Check.due("the image is gone", x.restore(), false);
        Check.due("acts are gone", x.undo(), -1);
        Check.due("seen is gone", x.count(8), 0);
        Check.due("people are gone", x.count(0), 0);
        Check.due("the day", x.count(3), 0);
        Check.due("bride", x.bride(0, 0), 9);
        x.days(21);
        Check.due("a fault", Check.dale(x, "bride"), 1);
        Check.due("no text", x.dale(0), 0);
        Check.due("nobody", x.count(1), 0);
        Check.due("refused acts are still counted", x.count(11), 1);
        Check.due("refused texts are still counted", x.count(10), 1);
    }

    private static void rulesAreAnew() {
        GivenAway x = Check.of("friend 9 0 0;bride 1;tie 0 0 5;weighs 77;mourns 3;");
        Check.due("by rule", x.weight(0, 0), 77);
        Check.due("a fault", Check.dale(x, "weighs 5;mourns 6;friend 9 9 9;x"), 1);
        Check.due("the rule stays", x.weight(0, 0), 77);
        Check.due("mourns stays", x.then(0, 1), 12);
        Check.due("kinds stay", x.person(0, 0), 1);
        Check.due("anew", Check.dale(x, "friend 9 0 0;bride 1;tie 0 0 5;"), 0);
        Check.due("without a rule", x.weight(0, 0), 14);
        Check.due("without mourns", x.then(0, 1), 9);
    }

    private static void count() {
        GivenAway x = Check.of(FOUR);
        int[] want = {4, 3, 6, 0, 7, 0, 150, 0, 0, 0, 0, 0, 0};
        for (int what = 0; what < want.length; what++) {
            Check.due("count " + what, x.count(what), want[what]);
        }
        Check.noSuch("count(13)", () -> x.count(13));
        Check.noSuch("count(-1)", () -> x.count(-1));
        x.days(3);
        x.tie(3, 2, 1);
        x.see(0, 0, 0, 1, true);
        x.days(0);
        x.see(0, 21, 0, 1, true);
        x.see(0, -1, 0, 1, true);
        Check.feed(x, "x");
        int[] then = {4, 3, 7, 3, 4, 0, 14 + 33 + 60 + 20, 2, 1, 20, 0, 1, 2};
        for (int what = 0; what < then.length; what++) {
            Check.due("count then " + what, x.count(what), then[what]);
        }
    }

    private static void person() {
        GivenAway x = Check.of(FOUR);
        int[][] want = {{0, 40, 3, 0, 0, 3}, {1, 30, 1, 2, 0, 5}, {2, 60, 0, 5, 0, 1}, {3, 20, 9, 0, 0, 2}};
        for (int p = 0; p < 4; p++) {
            for (int what = 0; what < 6; what++) {
                Check.due("person " + p + " " + what, x.person(p, what), want[p][what]);
            }
        }
        Check.noSuch("person(4, 0)", () -> x.person(4, 0));
        Check.noSuch("person(-1, 0)", () -> x.person(-1, 0));
        Check.noSuch("person(0, 6)", () -> x.person(0, 6));
        Check.noSuch("person(0, -1)", () -> x.person(0, -1));
        x.days(3);
        Check.due("led two", x.person(0, 4), 3);
        Check.due("grief halved twice", x.person(0, 1), 14);
        Check.due("onions dry up", x.person(1, 3), 0);
        Check.due("onions dry up", x.person(2, 3), 2);
        Check.due("a beast doesn't mourn", x.person(3, 1), 20);
    }

    private static void bride() {
        GivenAway x = Check.of(FOUR);
        int[][] want = {{2, 1, -1, 7, 0, 2}, {2, 1, -1, 9, 0, 1}, {5, 1, -1, 2, 1, 0}};
        for (int b = 0; b < 3; b++) {
            for (int what = 0; what < 6; what++) {
                Check.due("bride " + b + " " + what, x.bride(b, what), want[b][what]);
            }
        }
        Check.noSuch("bride(3, 0)", () -> x.bride(3, 0));
        Check.noSuch("bride(-1, 0)", () -> x.bride(-1, 0));
        Check.noSuch("bride(0, 6)", () -> x.bride(0, 6));
        Check.noSuch("bride(0, -1)", () -> x.bride(0, -1));
        x.days(3);
        Check.due("gone", x.bride(0, 1), 0);
        Check.due("who led", x.bride(0, 2), 0);
        Check.due("who weighs most for one gone", x.bride(0, 4), 2);
        GivenAway lone = Check.of("father 1 1 1;bride 3;");
        Check.due("nobody", lone.bride(0, 4), -1);
        Check.due("rivals of nobody", lone.bride(0, 5), 0);
        GivenAway like = Check.of("beast 1 0 0;beast 1 0 0;beast 1 0 0;bride 3;tie 2 0 5;tie 1 0 5;");
        Check.due("of like ones the least", like.bride(0, 4), 1);
    }

    private static void yearsAndWeight() {
        GivenAway x = Check.of(FOUR);
        Check.due("years", x.years(0, 0), 20);
        Check.due("no tie", x.years(0, 2), 0);
        Check.due("weight", x.weight(1, 0), 36);
        Check.due("no weight", x.weight(0, 2), -1);
        Check.noSuch("years(4, 0)", () -> x.years(4, 0));
        Check.noSuch("years(0, 3)", () -> x.years(0, 3));
        Check.noSuch("weight(-1, 0)", () -> x.weight(-1, 0));
        Check.noSuch("weight(0, -1)", () -> x.weight(0, -1));
        Check.due("not below 0", Check.of("beast 5 9 9;bride 1;tie 0 0 3;").weight(0, 0), 0);
    }

    private static int worth(String expression) {
        String text = "suitor 50 2 4;friend 1 1 1;bride 9;bride 0;tie 0 0 7;tie 1 0 3;tie 0 1 1;weighs " + expression + ";";
        return Check.of(text).weight(0, 0);
    }

    private static void expressions() {
        Check.due("grief", worth("grief"), 50);
        Check.due("onions", worth("onions"), 4);
        Check.due("kind", worth("kind"), 2);
        Check.due("led", worth("led"), 0);
        Check.due("day", worth("day"), 0);
        Check.due("years", worth("years"), 7);
        Check.due("left", worth("left"), 9);
        Check.due("rivals", worth("rivals"), 1);
        Check.due("from the left", worth("100-10-1"), 89);
        Check.due("products bind", worth("2+3*4"), 14);
        Check.due("from the left", worth("100/7*2"), 28);
        Check.due("cut to 0", worth("10+(0-7)/2"), 7);
        Check.due("by 0", worth("5+7/0"), 5);
        Check.due("999 at most", worth("1000"), 999);
        Check.due("0 at least", worth("0-1"), 0);
        Check.due("less", worth("1<2"), 1);
        Check.due("not less", worth("2<2"), 0);
        Check.due("equal", worth("1+1=2"), 1);
        Check.due("a test binds less than a sum", worth("3<1+3"), 1);
        Check.due("not of a test", worth("not 1=2"), 1);
        Check.due("not not", worth("not not 7"), 1);
        Check.due("and", worth("7 and 8"), 1);
        Check.due("and 0", worth("7 and 0"), 0);
        Check.due("or", worth("0 or 5"), 1);
        Check.due("and binds", worth("1 or 0 and 0"), 1);
        Check.due("parentheses", worth("(1 or 0) and 0"), 0);
        Check.due("not binds more than and", worth("not 0 and 0"), 0);
        Check.due("negative holds", worth("0-1 and 1"), 1);
        Check.due("wraps", worth("9999*9999*9999<0"), 1);
        Check.due("wraps to 0", worth("4096*4096*256+5"), 5);
        Check.due("the least by -1", worth("1024*1024*2048/(0-1)=1024*1024*2048"), 1);
        GivenAway x = Check.of("friend 60 0 0;bride 0;bride 3;tie 0 0 1;tie 0 1 1;weighs 100*led+10*left+day;");
        Check.due("led, left, day", x.weight(0, 1), 30);
        x.days(1);
        Check.due("not led by nothing", x.bride(0, 2), -1);
        x.days(1);
        Check.due("day 2", x.weight(0, 1), 12);
        x.days(2);
        Check.due("led by 3", x.bride(1, 2), 0);
        Check.due("behind it", x.weight(0, 1), 104);
    }

    private static void days() {
        GivenAway x = Check.of(FOUR);
        Check.due("days(0)", x.days(0), -1);
        Check.due("days(21)", x.days(21), -1);
        Check.due("days(-1)", x.days(-1), -1);
        Check.due("status", x.count(11), 3);
        Check.due("nothing kept", x.count(7), 0);
        Check.due("days(2)", x.days(2), 2);
        Check.due("still home", x.count(4), 7);
        Check.due("days(1)", x.days(1), 3);
        Check.due("two gone", x.count(4), 4);
        Check.due("led both", x.bride(1, 2), 0);
        for (int i = 0; i < 49; i++) {
            x.days(20);
        }
        Check.due("day", x.count(3), 983);
        Check.due("above 999", x.days(17), -1);
        Check.due("999", x.days(16), 999);
        Check.due("above 999", x.days(1), -1);
        Check.due("grief is 99 at most", x.person(0, 1), 99);
        Check.due("acts kept", x.count(7), 40);
    }

    private static void mourning() {
        GivenAway x = Check.of("father 10 5 3;beast 10 5 3;bride 0;bride 0;tie 0 0 9;tie 0 1 9;"
                + "mourns 100*led+onions-2+day*7+kind/3;");
        x.days(1);
        Check.due("led twice and mourns 20 at most", x.person(0, 1), 10 / 4 + 20);
        Check.due("onions ahead of drying", x.person(1, 1), 12);
        Check.due("onions", x.person(1, 3), 2);
        x.days(1);
        Check.due("day 1", x.person(1, 1), 12 + 2 - 2 + 7 + 1);
        GivenAway none = Check.of("father 10 5 0;mourns 0-5;");
        none.days(1);
        Check.due("not below 0", none.person(0, 1), 10);
    }

    private static void halving() {
        GivenAway x = Check.of("father 51 0 0;friend 30 0 0;bride 0;bride 0;bride 0;"
                + "tie 0 0 1;tie 1 0 1;tie 0 1 1;tie 1 1 1;");
        x.days(1);
        Check.due("first", x.bride(0, 2), 0);
        Check.due("then the other", x.bride(1, 2), 1);
        Check.due("cut down", x.person(0, 1), 25);
        Check.due("half", x.person(1, 1), 15);
        Check.due("the dog", x.bride(2, 2), -1);
        Check.due("its count", x.count(5), 1);
        Check.due("all gone", x.count(4), 0);
    }

    private static void train() {
        GivenAway x = Check.of(FOUR);
        Check.due("train", x.train(0, 9), 3);
        Check.due("train", x.train(0, 0), 9);
        Check.due("the same is an act", x.train(0, 0), 0);
        Check.due("not 0 to 9", x.train(0, 10), -1);
        Check.due("not 0 to 9", x.train(0, -1), -1);
        Check.due("status", x.count(11), 2);
        Check.due("acts", x.count(7), 3);
        Check.noSuch("train(4, 10)", () -> x.train(4, 10));
        Check.due("status stays", x.count(11), 2);
    }

    private static void onions() {
        GivenAway x = Check.of(FOUR);
        Check.due("onions", x.onions(0, 9), 9);
        Check.due("9 at most", x.onions(0, 1), 9);
        Check.due("more", x.onions(1, 3), 5);
        Check.due("not 1 to 9", x.onions(1, 0), -1);
        Check.due("not 1 to 9", x.onions(1, 10), -1);
        Check.due("not 1 to 9", x.onions(1, -2147483648), -1);
        Check.due("status", x.count(11), 3);
        Check.due("acts", x.count(7), 3);
        Check.noSuch("onions(4, 1)", () -> x.onions(4, 1));
    }

    private static void putOff() {
        GivenAway x = Check.of(FOUR);
        Check.due("putOff", x.putOff(0, 999), 2);
        Check.due("earlier", x.putOff(0, 1), 999);
        Check.due("above 999", x.putOff(0, 1000), -1);
        Check.due("ahead of this day", x.putOff(0, -1), -1);
        x.days(1);
        Check.due("ahead of this day", x.putOff(0, 0), -1);
        Check.due("this day", x.putOff(2, 1), 5);
        x.days(1);
        Check.due("gone", x.putOff(2, 50), -1);
        Check.due("status", x.count(11), 4);
        Check.noSuch("putOff(3, 1)", () -> x.putOff(3, 1));
        Check.noSuch("putOff(-1, 1)", () -> x.putOff(-1, 1));
    }

    private static void tie() {
        GivenAway x = Check.of(FOUR);
        Check.due("made", x.tie(3, 0, 40), 0);
        Check.due("other years", x.tie(3, 0, 1), 40);
        Check.due("not 1 to 40", x.tie(3, 0, 41), -1);
        Check.due("not 1 to 40", x.tie(3, 0, 0), -1);
        Check.due("ties", x.count(2), 7);
        Check.due("status", x.count(11), 2);
        Check.noSuch("tie(4, 0, 1)", () -> x.tie(4, 0, 1));
        Check.noSuch("tie(0, 3, 1)", () -> x.tie(0, 3, 1));
        GivenAway all = Check.of("beast 1 1 1;".repeat(9) + "bride 1;".repeat(6));
        for (int i = 0; i < 54; i++) {
            Check.due("tie " + i, all.tie(i / 6, i % 6, 1), 0);
        }
        Check.due("all ties", all.count(2), 54);
        Check.due("acts", all.count(7), 40);
    }

    private static void undo() {
        GivenAway x = Check.of(FOUR);
        x.train(0, 8);
        x.onions(1, 7);
        x.putOff(1, 4);
        x.tie(3, 2, 6);
        x.tie(3, 2, 7);
        x.days(6);
        Check.due("undo days", x.undo(), 5);
        Check.due("day", x.count(3), 0);
        Check.due("home", x.count(4), 7);
        Check.due("grief", x.count(6), 150);
        Check.due("led", x.person(0, 4), 0);
        Check.due("who led", x.bride(0, 2), -1);
        Check.due("onions", x.person(1, 3), 9);
        Check.due("undo tie", x.undo(), 4);
        Check.due("years", x.years(3, 2), 6);
        Check.due("undo tie", x.undo(), 3);
        Check.due("years", x.years(3, 2), 0);
        Check.due("undo putOff", x.undo(), 2);
        Check.due("wedding", x.bride(1, 0), 2);
        Check.due("undo onions", x.undo(), 1);
        Check.due("onions", x.person(1, 3), 2);
        Check.due("undo train", x.undo(), 0);
        Check.due("trains", x.person(0, 2), 3);
        Check.due("none", x.undo(), -1);
        Check.due("no status", x.count(11), 0);
        for (int i = 0; i < 43; i++) {
            x.train(0, i % 10);
        }
        Check.due("40 are kept", x.count(7), 40);
        for (int i = 39; i >= 0; i--) {
            Check.due("undo", x.undo(), i);
            Check.due("trains", x.person(0, 2), (i + 2) % 10);
        }
        Check.due("none", x.undo(), -1);
    }

    private static void image() {
        GivenAway x = Check.of(FOUR);
        x.train(0, 5);
        x.see(0, 0, 0, 1, true);
        x.days(0);
        x.image();
        x.days(7);
        x.tie(2, 2, 9);
        x.undo();
        x.undo();
        x.undo();
        x.train(1, 7);
        x.train(1, 8);
        x.forget();
        x.see(1, 1, 2, 3, false);
        x.see(1, 1, 2, 3, false);
        x.see(1, 1, 2, 2, false);
        x.days(0);
        Check.dale(x, "x");
        for (int again = 0; again < 2; again++) {
            Check.due("restore", x.restore(), true);
            Check.due("trains", x.person(0, 2), 5);
            Check.due("trains", x.person(1, 2), 1);
            Check.due("seen", x.count(8), 1);
            Check.due("acts", x.count(7), 1);
            Check.due("texts refused", x.count(10), 0);
            Check.due("acts refused", x.count(11), 1);
            Check.due("seen refused", x.count(12), 0);
            Check.due("undo", x.undo(), 0);
            Check.due("trains", x.person(0, 2), 3);
        }
        x.days(3);
        x.image();
        x.days(3);
        x.restore();
        Check.due("in place of another", x.count(3), 3);
        Check.due("led", x.person(0, 4), 3);
    }

    private static void imageOfManyActs() {
        GivenAway x = Check.of(FOUR);
        for (int i = 0; i < 45; i++) {
            x.train(0, i % 10);
        }
        x.image();
        for (int i = 0; i < 17; i++) {
            x.train(0, 9);
        }
        x.restore();
        Check.due("acts", x.count(7), 40);
        Check.due("trains", x.person(0, 2), 4);
        for (int i = 39; i >= 0; i--) {
            Check.due("undo", x.undo(), i);
            Check.due("trains", x.person(0, 2), (i + 4) % 10);
        }
        Check.due("none", x.undo(), -1);
        Check.due("again", x.restore(), true);
        Check.due("acts", x.count(7), 40);
    }

    public static void main(String[] args) {
        newObject();
        feed();
        dale();
        rulesAreAnew();
        count();
        person();
        bride();
        yearsAndWeight();
        expressions();
        days();
        mourning();
        halving();
        train();
        onions();
        putOff();
        tie();
        undo();
        image();
        imageOfManyActs();
        Check.end("DaleTest");
    }
}
