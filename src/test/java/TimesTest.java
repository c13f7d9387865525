/** Promises 9 to 13: what became of frames and spurts, the order, the wishes, the spike. */
public final class TimesTest {
    private static final Check CHECK = new Check();

    public static void main(String[] args) {
        frames();
        spurts();
        turns();
        order();
        wishRefusals();
        share();
        spikes();
        spikeAsAnArrivalSetsATime();
        along();
        alongAWholeDrift();
        shareOfMany();
        mean();
        CHECK.end();
    }

    private static void frames() {
        SpurtClock x = new SpurtClock();
        x.arrive(12, 10, 3, 300);
        x.arrive(10, 10, 3, 260);
        x.arrive(10, 10, 3, 300);
        x.arrive(11, 10, 3, 301);
        x.arrive(290, 290, 0, 400);
        long[][] due = {{12, 300, 10060, 0, 300, 0}, {10, 300, 10100, 0, -9, 1}, {11, 301, 10081, 0, -9, 2},
            {290, 400, 4600, 1, 5860, 3}};
        for (long[] d : due) {
            for (int what = 0; what < 5; what++) {
                CHECK.due("ofFrame(" + d[0] + ", " + what + ")", x.ofFrame((int) d[0], what), d[what + 1]);
            }
            CHECK.due("ofFrame what -1", x.ofFrame((int) d[0], -1), -2);
            CHECK.due("ofFrame what 5", x.ofFrame((int) d[0], 5), -2);
        }
        for (int n : new int[] {-1, 0, 13, 299, 300, Integer.MIN_VALUE, Integer.MAX_VALUE}) {
            CHECK.due("ofFrame(" + n + ", 0)", x.ofFrame(n, 0), -1);
            CHECK.due("UNKNOWN goes ahead of OUTSIDE " + n, x.ofFrame(n, 9), -1);
        }
    }

    private static void spurts() {
        SpurtClock x = new SpurtClock();
        x.arrive(14, 10, 3, 340);
        x.arrive(10, 10, 3, 340);
        x.arrive(12, 10, 3, 340);
        Check.take(x, "mean", 0);
        x.arrive(20, 20, 2, 440);
        long[][] due = {{10, 3, 10060, 3, 1, 2, 2, 14, 0}, {20, 2, 10085, 1, 1, 0, 0, 20, 4}};
        for (int k = 0; k < due.length; k++) {
            for (int what = 0; what < 9; what++) {
                CHECK.due("ofSpurt(" + k + ", " + what + ")", x.ofSpurt(k, what), due[k][what]);
            }
            CHECK.due("ofSpurt what -1", x.ofSpurt(k, -1), -2);
            CHECK.due("ofSpurt what 9", x.ofSpurt(k, 9), -2);
        }
        for (int k : new int[] {-1, 2, 300, Integer.MIN_VALUE, Integer.MAX_VALUE}) {
            CHECK.due("ofSpurt(" + k + ", 0)", x.ofSpurt(k, 0), -1);
            CHECK.due("UNKNOWN goes ahead of OUTSIDE " + k, x.ofSpurt(k, 9), -1);
        }
    }

    /** Times are moved in pauses alone: not ahead of the one ahead, not behind the one behind. */
    private static void turns() {
        SpurtClock x = new SpurtClock();
        Check.take(x, "fixed", 500);
        x.arrive(10, 10, 0, 200);
        Check.take(x, "fixed", 100);
        x.arrive(50, 50, 7, 200);
        CHECK.due("not less than the one ahead less its own pause", x.ofSpurt(1, 2), 10360);
        x.arrive(100, 100, 49, 200);
        CHECK.due("the pause is long enough", x.ofSpurt(2, 2), 10100);
        Check.take(x, "fixed", 2000);
        x.arrive(42, 40, 4, 200);
        CHECK.due("not more than the one behind and its pause", x.ofSpurt(3, 2), 10500);
        x.arrive(70, 70, 9, 200);
        CHECK.due("the one behind has pause 49, and 70 is in it", x.many(1), 4);
        x.margin(50);
        x.arrive(200, 200, 0, 200);
        CHECK.due("none behind", x.ofSpurt(4, 2), 12050);
        Check.take(x, "fixed", -500);
        x.arrive(150, 150, 1, 200);
        CHECK.due("the margin counts, then the one ahead", x.ofSpurt(5, 2), 10080);
        x.arrive(0, 0, 0, 200);
        CHECK.due("none ahead", x.ofSpurt(6, 2), 9550);
        CHECK.due("TIMES stay", x.ofSpurt(0, 2), 10500);
    }

    private static void order() {
        SpurtClock x = new SpurtClock();
        CHECK.due("inOrder of none", x.inOrder(0), -1);
        int[] heads = {50, 10, 90, 70, 20, 0, 99};
        for (int k = 0; k < heads.length; k++) {
            CHECK.due("arrive with head " + heads[k], x.arrive(heads[k], heads[k], 0, 0), k);
        }
        int[] due = {5, 1, 4, 0, 3, 2, 6};
        for (int k = 0; k < due.length; k++) {
            CHECK.due("inOrder(" + k + ")", x.inOrder(k), due[k]);
        }
        CHECK.due("inOrder -1", x.inOrder(-1), -1);
        CHECK.due("inOrder 7", x.inOrder(7), -1);
        CHECK.due("inOrder greatest", x.inOrder(Integer.MAX_VALUE), -1);
    }

    private static void wishRefusals() {
        SpurtClock x = new SpurtClock();
        CHECK.due("wish of an empty history", x.wish(0), -3);
        CHECK.due("OUTSIDE goes ahead of STATE", x.wish(-1), -2);
        CHECK.due("OUTSIDE goes ahead of STATE", x.wish(300), -2);
        x.arrive(0, 0, 0, 0);
        CHECK.due("wish 0", x.wish(0), 10060);
        CHECK.due("wish 299", x.wish(299), 10060);
        CHECK.due("wish 300", x.wish(300), -2);
        CHECK.due("wish -1", x.wish(-1), -2);
        CHECK.due("wish changes nothing", x.many(0), 1);
    }

    private static void share() {
        SpurtClock x = new SpurtClock();
        int[] delays = {10, 30, 20, 40};
        int t = 0;
        for (int n = 0; n < delays.length; n++) {
            t = 20 * n + delays[n];
            x.arrive(n, 0, 0, Math.max(t, n == 2 ? 60 : t));
        }
        CHECK.due("four came", x.many(0), 4);
        int[][] due = {{0, 40}, {63, 40}, {64, 30}, {127, 30}, {128, 20}, {191, 20}, {192, 10}, {256, 10}};
        for (int[] d : due) {
            Check.take(x, "share", d[0]);
            CHECK.due("share " + d[0], x.wish(7), 10000 + d[1]);
        }
        Check.take(x, "share", 255);
        CHECK.due("three of four are not more than 255 of 256", x.wish(7), 10010);
        Check.take(x, "share", 64);
        x.arrive(30, 30, 5, 1000);
        CHECK.due("this one is counted as a time is set", x.ofSpurt(1, 2), 10040);
        SpurtClock y = new SpurtClock();
        Check.take(y, "share", 0);
        y.arrive(0, 0, 0, 900);
        for (int n = 1; n <= 31; n++) {
            y.arrive(n + 50, 50, 0, 20 * (n + 50) + 1);
        }
        CHECK.due("the last 32", y.wish(0), 10900);
        y.arrive(299, 299, 200, 5981);
        CHECK.due("this one is among the 32", y.ofSpurt(2, 2), 10001);
    }

    private static void spikes() {
        SpurtClock x = new SpurtClock();
        x.jump(51);
        x.arrive(0, 0, 0, 100);
        x.arrive(1, 0, 0, 170);
        CHECK.due("50 is less than the jump", x.spike(0), 0);
        CHECK.due("no base", x.spike(1), -9);
        x.arrive(2, 0, 0, 241);
        CHECK.due("51 is the jump", x.spike(0), 1);
        CHECK.due("the base", x.spike(1), 10150);
        CHECK.due("spikes", x.many(7), 1);
        x.arrive(3, 0, 0, 400);
        CHECK.due("a jump while it is on", x.spike(1), 10150);
        CHECK.due("begins none", x.many(7), 1);
        x.arrive(13, 0, 0, 436);
        CHECK.due("176 is more than 150 and 25", x.spike(0), 1);
        x.arrive(14, 0, 0, 455);
        CHECK.due("175 ends it", x.spike(0), 0);
        CHECK.due("no base then", x.spike(1), -9);
        x.arrive(12, 0, 0, 466);
        CHECK.due("226 is 51 more again", x.spike(1), 10175);
        CHECK.due("spikes again", x.many(7), 2);
        x.jump(1000);
        x.arrive(15, 0, 0, 570);
        CHECK.due("half of the jump as it is now", x.spike(0), 0);
        CHECK.due("what -1", x.spike(-1), -2);
        CHECK.due("what 2", x.spike(2), -2);
        SpurtClock y = new SpurtClock();
        y.arrive(100, 100, 0, 1000);
        y.arrive(101, 100, 0, 1100);
        CHECK.due("below 0 too", y.spike(1), 9000);
    }

    private static void spikeAsAnArrivalSetsATime() {
        SpurtClock x = new SpurtClock();
        Check.take(x, "spike", 256);
        x.arrive(0, 0, 0, 30);
        CHECK.due("off: as share", x.wish(0), 10030);
        x.arrive(5, 5, 0, 250);
        CHECK.due("begun by this very one", x.ofSpurt(1, 2), 10150);
        x.arrive(6, 5, 0, 260);
        x.arrive(7, 5, 0, 270);
        CHECK.due("greatest of the last three", x.wish(0), 10150);
        x.arrive(8, 5, 0, 280);
        CHECK.due("150 is not among the last three", x.wish(0), 10140);
        Check.take(x, "share", 256);
        CHECK.due("share does not look at it", x.wish(0), 10030);
        Check.take(x, "spike", 0);
        x.arrive(30, 30, 20, 640);
        CHECK.due("ended by this very one", x.ofSpurt(2, 2), 10150);
    }

    private static void along() {
        SpurtClock x = new SpurtClock();
        Check.take(x, "drift", 0);
        x.arrive(0, 0, 0, 100);
        CHECK.due("one frame: no drift", x.wish(299), 10100);
        x.arrive(30, 30, 5, 710);
        CHECK.due("drift 1/3", x.drift(0), 1);
        CHECK.due("drift 1/3", x.drift(1), 3);
        CHECK.due("that one counted", x.ofSpurt(1, 2), 10110);
        CHECK.due("cut up", x.wish(31), 10111);
        CHECK.due("whole", x.wish(33), 10111);
        CHECK.due("far", x.wish(299), 10200);
        CHECK.due("cut up", x.wish(34), 10112);
        CHECK.due("cut up below", x.wish(29), 10110);
        CHECK.due("cut up below", x.wish(27), 10109);
        x.arrive(40, 35, 4, 913);
        CHECK.due("13/40, at the head, which is not the first that comes", x.ofSpurt(2, 2), 10112);
        Check.take(x, "drift", 256);
        CHECK.due("share of the moved ones", x.wish(0), 10100);
        SpurtClock y = new SpurtClock();
        Check.take(y, "drift", 0);
        y.arrive(0, 0, 0, 100);
        y.arrive(10, 10, 0, 297);
        CHECK.due("falling", y.drift(0), -3);
        CHECK.due("falling", y.drift(1), 10);
        CHECK.due("cut up, falling", y.wish(12), 10097);
        CHECK.due("cut up, falling", y.wish(14), 10096);
        CHECK.due("cut up, falling, ahead", y.wish(9), 10098);
    }

    private static void shareOfMany() {
        for (int k = 0; k <= 256; k++) {
            SpurtClock x = new SpurtClock();
            for (int n = 0; n < 32; n++) {
                x.arrive(n, 0, 0, 21 * n);
            }
            Check.take(x, "share", k);
            CHECK.due("share " + k + " of 0 .. 31", x.wish(0), 10000 + Math.max(0, 31 - k / 8));
        }
    }

    private static void alongAWholeDrift() {
        SpurtClock x = new SpurtClock();
        Check.take(x, "drift", 0);
        x.arrive(0, 0, 0, 10);
        x.arrive(10, 0, 0, 230);
        CHECK.due("drift 2/1", x.drift(0), 2);
        CHECK.due("drift 2/1", x.drift(1), 1);
        CHECK.due("two a frame", x.wish(25), 10060);
    }

    private static void mean() {
        SpurtClock x = new SpurtClock();
        Check.take(x, "mean", 2);
        x.arrive(0, 0, 0, 30);
        CHECK.due("one", x.wish(0), 10030);
        x.arrive(1, 0, 0, 55);
        x.arrive(2, 0, 0, 80);
        CHECK.due("35 and two times 3", x.wish(0), 10041);
        Check.take(x, "mean", 8);
        CHECK.due("35 and eight times 3", x.wish(0), 10059);
        SpurtClock y = new SpurtClock();
        Check.take(y, "mean", 0);
        y.arrive(1, 1, 0, 0);
        y.arrive(2, 1, 0, 19);
        CHECK.due("-20 and -21: cut down", y.wish(0), 9979);
        Check.take(y, "mean", 8);
        CHECK.due("far by 0 and 1: cut down to 0", y.wish(0), 9979);
        y.arrive(30, 30, 0, 600);
        CHECK.due("-20, -21 and 0: -14 and eight times 9", y.ofSpurt(1, 2), 10058);
    }
}
