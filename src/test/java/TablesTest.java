/** Promises 14 to 19: how many are late, the history, losses, the drift, what waits and plays. */
public final class TablesTest {
    private static final Check CHECK = new Check();

    public static void main(String[] args) {
        lateAndLoss();
        history();
        driftOfFew();
        driftAtTheMiddle();
        driftByAll();
        waitingAndPlaying();
        playingAcrossSpurts();
        CHECK.end();
    }

    private static SpurtClock fiftyFrames() {
        SpurtClock x = new SpurtClock();
        for (int n = 0; n < 50; n++) {
            x.arrive(n, 0, 0, 21 * n);
        }
        return x;
    }

    private static void lateAndLoss() {
        SpurtClock x = fiftyFrames();
        CHECK.due("late(17): 18 .. 49 are in the history", x.late(17), 32);
        CHECK.due("late(18)", x.late(18), 31);
        CHECK.due("late(48)", x.late(48), 1);
        CHECK.due("late(49)", x.late(49), 0);
        CHECK.due("late(0)", x.late(0), 32);
        CHECK.due("loss(0)", x.loss(0), 49);
        CHECK.due("loss(-1)", x.loss(-1), 50);
        CHECK.due("loss(48)", x.loss(48), 1);
        CHECK.due("loss(49)", x.loss(49), 0);
        for (int v : new int[] {-10001, 40001, Integer.MIN_VALUE, Integer.MAX_VALUE}) {
            CHECK.due("late(" + v + ")", x.late(v), -2);
            CHECK.due("loss(" + v + ")", x.loss(v), -2);
        }
        CHECK.due("late(-10000)", x.late(-10000), 32);
        CHECK.due("loss(-10000)", x.loss(-10000), 50);
        CHECK.due("late(40000)", x.late(40000), 0);
        CHECK.due("loss(40000)", x.loss(40000), 0);
        CHECK.due("late of none", new SpurtClock().late(-10000), 0);
        CHECK.due("loss of none", new SpurtClock().loss(-10000), 0);
    }

    private static void history() {
        SpurtClock x = fiftyFrames();
        for (int k = 0; k < 32; k++) {
            CHECK.due("history(" + k + ")", x.history(k), 10049 - k);
        }
        CHECK.due("history(32)", x.history(32), -2);
        CHECK.due("history(-1)", x.history(-1), -2);
        SpurtClock y = new SpurtClock();
        CHECK.due("history of none", y.history(0), -9);
        y.arrive(299, 299, 0, 0);
        y.arrive(0, 0, 0, 30000);
        CHECK.due("the latest", y.history(0), 40000);
        CHECK.due("the one ahead", y.history(1), 4020);
        CHECK.due("not so many", y.history(2), -9);
        CHECK.due("not so many", y.history(31), -9);
        CHECK.due("outside, of few", y.history(32), -2);
    }

    private static void dueDrift(String what, SpurtClock x, long upper, long lower) {
        CHECK.due(what + " upper", x.drift(0), upper);
        CHECK.due(what + " lower", x.drift(1), lower);
    }

    private static SpurtClock withDelays(int[]... points) {
        SpurtClock x = new SpurtClock();
        boolean[] came = new boolean[points.length];
        for (int round = 0; round < points.length; round++) {
            int next = -1;
            for (int i = 0; i < points.length; i++) {
                if (!came[i] && (next < 0 || timeOf(points[i]) < timeOf(points[next]))) {
                    next = i;
                }
            }
            came[next] = true;
            CHECK.due("arrive", x.arrive(points[next][0], 0, 0, timeOf(points[next])), 0);
        }
        return x;
    }

    private static int timeOf(int[] point) {
        return 20 * point[0] + point[1];
    }

    private static void driftOfFew() {
        SpurtClock x = new SpurtClock();
        dueDrift("none", x, 0, 1);
        CHECK.due("drift(-1)", x.drift(-1), Long.MIN_VALUE);
        CHECK.due("drift(2)", x.drift(2), Long.MIN_VALUE);
        dueDrift("one", withDelays(new int[] {7, 90}), 0, 1);
        dueDrift("two, level", withDelays(new int[] {7, 90}, new int[] {9, 90}), 0, 1);
        dueDrift("two, rising", withDelays(new int[] {7, 90}, new int[] {13, 94}), 2, 3);
        dueDrift("two, falling", withDelays(new int[] {7, 94}, new int[] {13, 90}), -2, 3);
        dueDrift("steepest", withDelays(new int[] {0, 0}, new int[] {1, 29980}), 29980, 1);
        dueDrift("steepest down", withDelays(new int[] {298, -5960}, new int[] {297, 24060}), -30020, 1);
    }

    private static void driftAtTheMiddle() {
        dueDrift("a corner at the middle: the side to the left", withDelays(
                new int[] {0, 40}, new int[] {10, 10}, new int[] {20, 20}), -3, 1);
        dueDrift("a corner just left of the middle", withDelays(
                new int[] {0, 40}, new int[] {10, 10}, new int[] {21, 21}), 1, 1);
        dueDrift("a corner just right of the middle", withDelays(
                new int[] {1, 40}, new int[] {11, 10}, new int[] {20, 20}), -3, 1);
        dueDrift("a point above the line", withDelays(
                new int[] {0, 40}, new int[] {10, 60}, new int[] {20, 50}), 1, 2);
        dueDrift("points on the line", withDelays(
                new int[] {0, 40}, new int[] {10, 45}, new int[] {20, 50}, new int[] {4, 42}), 1, 2);
        dueDrift("both sides rise", withDelays(
                new int[] {0, 0}, new int[] {10, 10}, new int[] {20, 60}), 1, 1);
        dueDrift("a bow of many corners, the third side", withDelays(
                new int[] {4, 90}, new int[] {6, 60}, new int[] {10, 30}, new int[] {18, 14}, new int[] {26, 30},
                new int[] {8, 50}, new int[] {14, 40}, new int[] {22, 25}), -2, 1);
        dueDrift("corners that a later point takes away", withDelays(
                new int[] {10, 60}, new int[] {12, 50}, new int[] {14, 48}, new int[] {16, 47}, new int[] {40, 0}), -25, 14);
        dueDrift("both sides fall", withDelays(
                new int[] {0, 60}, new int[] {10, 10}, new int[] {20, 0}), -5, 1);
    }

    private static void driftByAll() {
        SpurtClock x = new SpurtClock();
        x.arrive(0, 0, 0, 7);
        for (int n = 60; n < 120; n++) {
            x.arrive(n, 60, 0, 20 * n + 67);
        }
        dueDrift("by all that came, not the history alone", x, 60, 119);
        x.arrive(299, 150, 0, 5980 + 306);
        dueDrift("the middle moves to the side from 119 to 299", x, 239, 180);
    }

    private static void waitingAndPlaying() {
        SpurtClock x = new SpurtClock();
        x.arrive(1, 1, 0, 50);
        x.arrive(0, 0, 0, 61);
        x.arrive(3, 1, 0, 70);
        x.arrive(2, 1, 0, 100);
        x.arrive(4, 1, 0, 141);
        long[][] due = {{0, 0, -9}, {49, 0, -9}, {50, 1, -9}, {69, 1, -9}, {70, 2, -9}, {79, 2, -9}, {80, 1, 1},
            {99, 1, 1}, {100, 1, 2}, {119, 1, 2}, {120, 0, 3}, {139, 0, 3}, {140, 0, -9}, {141, 0, -9}, {100000, 0, -9}};
        for (long[] d : due) {
            CHECK.due("waiting(" + d[0] + ")", x.waiting((int) d[0]), d[1]);
            CHECK.due("playing(" + d[0] + ")", x.playing((int) d[0]), d[2]);
        }
        for (int t : new int[] {-1, 100001, Integer.MIN_VALUE, Integer.MAX_VALUE}) {
            CHECK.due("waiting(" + t + ")", x.waiting(t), -2);
            CHECK.due("playing(" + t + ")", x.playing(t), -2);
        }
        SpurtClock y = new SpurtClock();
        CHECK.due("nothing plays ahead of the first", y.playing(0), -9);
        y.arrive(0, 0, 0, 61);
        CHECK.due("a late one is not played at 0", y.playing(0), -9);
        CHECK.due("a late one is not played at 10", y.playing(10), -9);
        CHECK.due("a late one does not wait", y.waiting(61), 0);
    }

    private static void playingAcrossSpurts() {
        SpurtClock x = new SpurtClock();
        Check.take(x, "fixed", 100);
        x.arrive(0, 0, 0, 0);
        x.arrive(1, 0, 0, 0);
        Check.take(x, "fixed", -500);
        x.arrive(5, 5, 3, 0);
        CHECK.due("moved up to its turn", x.ofSpurt(1, 2), 10040);
        CHECK.due("the last of the first", x.playing(120), 1);
        CHECK.due("the last of the first", x.playing(139), 1);
        CHECK.due("the first of the next at once", x.playing(140), 5);
        CHECK.due("the end of it", x.playing(159), 5);
        CHECK.due("and none", x.playing(160), -9);
        CHECK.due("all three wait", x.waiting(0), 3);
        CHECK.due("two wait", x.waiting(100), 2);
    }
}
