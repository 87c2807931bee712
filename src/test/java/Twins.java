/**
 * Objects with the same past: what one of them tells, undone step by step, restored and told anew, shows whether a
 * call has changed anything. All that is asked of one stays below 512 calls.
 */
final class Twins {
    static final int PEOPLE = 3;
    static final int BRIDES = 3;
    private static final String TEXT = "father 40 3 1;friend 30 1 2;suitor 60 0 5;bride 2;bride 9;bride 30;"
            + "tie 0 0 20;tie 1 0 10;tie 2 1 3;tie 0 1 1;weighs grief+years-onions+left/9;mourns 2+kind;";

    private Twins() {
    }

    /** On DAY 3, bride 0 gone; 3 acts, 2 seen, an image of one less, a fault at 5, "bride 5;" on the tape. */
    static GivenAway one() {
        GivenAway x = new GivenAway();
        Check.dale(x, TEXT);
        Check.dale(x, "bride");
        x.days(3);
        x.train(2, 4);
        x.see(1, 2, 2, 0, true);
        x.days(0);
        x.image();
        x.tie(1, 2, 4);
        x.see(0, 0, 1, 0, true);
        x.see(0, 21, 1, 0, true);
        Check.feed(x, "bride 5;");
        return x;
    }

    static String story(GivenAway x) {
        StringBuilder told = new StringBuilder();
        tell(x, told);
        for (int left = 0; left >= 0; ) {
            left = x.undo();
            told.append(" undo ").append(left);
            tellBriefly(x, told);
        }
        told.append(" restore ").append(x.restore());
        told.append(' ').append(x.count(10)).append(' ').append(x.count(11)).append(' ').append(x.count(12));
        tell(x, told);
        told.append(" undo ").append(x.undo());
        tellBriefly(x, told);
        told.append(" dale ").append(x.dale(8)).append(' ').append(x.count(1)).append(' ').append(x.bride(0, 0));
        return told.toString();
    }

    private static void tell(GivenAway x, StringBuilder told) {
        tellBriefly(x, told);
        told.append(" f").append(x.fault()).append(" s");
        for (int what = 0; what < 3; what++) {
            told.append(' ').append(x.hidden(what));
        }
        for (int p = 0; p < PEOPLE; p++) {
            for (int b = 0; b < BRIDES; b++) {
                told.append(' ').append(x.weight(p, b)).append('/').append(x.years(p, b));
            }
        }
    }

    private static void tellBriefly(GivenAway x, StringBuilder told) {
        told.append(" c");
        for (int what = 0; what < 10; what++) {
            told.append(' ').append(x.count(what));
        }
        for (int p = 0; p < PEOPLE; p++) {
            told.append(" p");
            for (int what = 0; what < 6; what++) {
                told.append(' ').append(x.person(p, what));
            }
        }
        for (int b = 0; b < BRIDES; b++) {
            told.append(" b");
            for (int what = 0; what < 6; what++) {
                told.append(' ').append(x.bride(b, what));
            }
        }
    }
}
