import java.lang.management.ManagementFactory;

/** All calls of a run live in one room: a call makes nothing, and an object is small. */
public final class RoomTest {
    private static final String FULL = "father 40 3 0;friend 30 1 2;suitor 60 0 5;beast 20 9 0;father 41 3 0;"
            + "friend 31 1 2;suitor 61 0 5;beast 21 9 0;friend 9 9 9;bride 2;bride 2;bride 5;bride 30;bride 59;bride 60;"
            + "tie 0 0 20;tie 1 0 10;tie 2 0 1;tie 0 1 15;tie 3 1 12;tie 1 2 5;tie 8 3 5;tie 7 4 5;tie 6 5 5;"
            + "weighs (grief+years*2-onions*3)/(1+rivals)+(left<5 and not led=1)*7;mourns (kind<2)*3+day/9-led;";

    private RoomTest() {
    }

    private static long made() {
        return ((com.sun.management.ThreadMXBean) ManagementFactory.getThreadMXBean()).getThreadAllocatedBytes(
                Thread.currentThread().getId());
    }

    private static void askAll(GivenAway x, int[] words) {
        for (int i = 0; i + 5 <= words.length; i += 5) {
            x.feed(words[i], words[i + 1], words[i + 2], words[i + 3], words[i + 4]);
        }
        x.dale(4 * words.length);
        x.see(0, 20, 0, 1, true);
        x.tie(4, 4, 4);
        x.train(1, 1);
        x.onions(1, 1);
        x.putOff(1, 9);
        x.days(1);
        x.image();
        x.restore();
        x.undo();
        for (int b = 0; b < 6; b++) {
            x.leader(b);
            x.bestDay(b, 0);
            x.choice(b);
            x.tug(b);
            x.decisive(1, b);
            x.toTrain(1, b);
            x.rank(1, b);
            x.weight(1, b);
            x.bride(b, 4);
        }
        x.then(0, 60);
        x.led(0, 60);
        x.dog();
        x.instead(0);
        x.steps(0, 8);
        x.busiest(60);
        x.crowd(0);
        x.hidden(0);
        x.hidden(1);
        x.next(0);
        x.game(0, 1, 0, 0);
        x.drawn(7, 60, 0);
        x.forget();
        x.count(6);
    }

    public static void main(String[] args) {
        int[] words = new int[FULL.length() / 20 * 5 + 5];
        for (int i = 0; i < 4 * words.length; i++) {
            words[i / 4] = words[i / 4] << 8 | (i < FULL.length() ? FULL.charAt(i) : 32);
        }
        GivenAway warm = new GivenAway();
        askAll(warm, words);
        Check.due("the text has been read", warm.count(0), 9);
        GivenAway[] many = new GivenAway[20];
        for (int i = 0; i < many.length; i++) {
            many[i] = new GivenAway();
        }
        made();
        long ahead = made();
        for (int i = 0; i < many.length; i++) {
            askAll(many[i], words);
        }
        long byCalls = made() - ahead;
        Check.due("bytes made by calls: " + byCalls, byCalls < 2000, true);
        ahead = made();
        GivenAway another = new GivenAway();
        long byOne = made() - ahead;
        Check.due("bytes made by an object: " + byOne, byOne < 80000, true);
        Check.due("the other is new", another.count(0), 0);
        Check.end("RoomTest");
    }
}
