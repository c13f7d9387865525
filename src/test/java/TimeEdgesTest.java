import java.io.IOException;

/** Part 2 and promises 9 to 13: each sentence of the document that names an edge, with a test of its own. */
public final class TimeEdgesTest {
    private static final Check CHECK = new Check();
    private static final int LEAST = Integer.MIN_VALUE;
    private static final int MOST = Integer.MAX_VALUE;

    public static void main(String[] args) throws IOException {
        CHECK.readDocument(args);
        wishAndMargin();
        notLessThanAhead();
        theOneAhead();
        notMoreThanBehind();
        theOneBehind();
        betweenTwo();
        noneAheadOfItsTurn();
        timesStay();
        playedOrLate();
        missing();
        fixedNumbers();
        shareNotMore();
        shareOfEqualOnes();
        lastThree();
        fewerThanThree();
        spikeNumbers();
        driftCutUp();
        driftThenShare();
        driftOfBigSteps();
        meanNumbers();
        meanCutDown();
        spikeBegins();
        spikeBeginsOnlyWhileOff();
        spikeEnds();
        spikeAsThisVeryOneSetsATime();
        ofFrameEdges();
        ofSpurtEdges();
        inOrderEdges();
        wishRefused();
        wishCountsNothingNew();
        spikeEdges();
        CHECK.end();
    }

    private static int timeOf(SpurtClock x, int n, int head, int pause) {
        int k = x.arrive(n, head, pause, 0);
        CHECK.holds("frame " + n + " is let in (" + k + ")", k >= 0);
        return x.ofSpurt(k, 2) - 10000;
    }

    private static void wishAndMargin() {
        CHECK.sentence("TIME of a SPURT: as its first FRAME comes, WISH of the MANNER and the MARGIN;");
        int[][] dues = {{-500, 0, -500}, {-500, 200, -300}, {2000, 0, 2000}, {2000, 200, 2200}, {0, 1, 1}};
        for (int[] d : dues) {
            SpurtClock x = Check.with("fixed", d[0]);
            x.margin(d[1]);
            CHECK.due("fixed " + d[0] + " and margin " + d[1], timeOf(x, 9, 9, 0), d[2]);
        }
        SpurtClock y = Check.with("share", 256);
        y.arrive(9, 5, 0, 200);
        CHECK.due("the first that comes is not the head", y.ofSpurt(0, 2), 10020);
        y.arrive(5, 5, 0, 200);
        CHECK.due("the head sets none then", y.ofSpurt(0, 2), 10020);
    }

    private static SpurtClock aheadWith(int time) {
        SpurtClock x = Check.with("fixed", time);
        CHECK.due("the one ahead", timeOf(x, 0, 0, 0), time);
        return x;
    }

    private static void notLessThanAhead() {
        CHECK.sentence("but not less than TIME of the SPURT ahead");
        int[][] dues = {{19, 120}, {20, 100}, {21, 100}, {0, 500}, {1, 480}};
        for (int[] d : dues) {
            SpurtClock x = aheadWith(500);
            Check.take(x, "fixed", 100);
            CHECK.due("pause " + d[0], timeOf(x, 30, 30, d[0]), d[1]);
        }
        SpurtClock y = aheadWith(500);
        Check.take(y, "fixed", 99);
        CHECK.due("one less than 500 less 400", timeOf(y, 30, 30, 20), 100);
        SpurtClock z = aheadWith(500);
        z.margin(50);
        Check.take(z, "fixed", 70);
        CHECK.due("the margin counts ahead of that", timeOf(z, 30, 30, 20), 120);
        SpurtClock w = Check.with("fixed", 500);
        timeOf(w, 40, 40, 30);
        Check.take(w, "fixed", 100);
        CHECK.due("its own pause counts, not that of the one ahead", timeOf(w, 60, 60, 0), 500);
        SpurtClock v = aheadWith(-400);
        Check.take(v, "fixed", -500);
        CHECK.due("below 0 too", timeOf(v, 9, 9, 4), -480);
    }

    private static void theOneAhead() {
        CHECK.sentence("(of those known the one with the greatest HEAD that is less than its own) less 20 times its own PAUSE;");
        SpurtClock x = aheadWith(500);
        Check.take(x, "fixed", 100);
        CHECK.due("the second", timeOf(x, 20, 20, 19), 120);
        Check.take(x, "fixed", 0);
        CHECK.due("behind the second, not the first", timeOf(x, 50, 50, 0), 120);
        Check.take(x, "fixed", 2000);
        CHECK.due("the fourth", timeOf(x, 200, 200, 0), 2000);
        Check.take(x, "fixed", -500);
        CHECK.due("between, by the third", timeOf(x, 100, 100, 0), 120);
        SpurtClock y = Check.with("fixed", 2000);
        timeOf(y, 200, 200, 50);
        Check.take(y, "fixed", -500);
        CHECK.due("none is ahead", timeOf(y, 30, 30, 0), -500);
    }

    private static void notMoreThanBehind() {
        CHECK.sentence("and then not more than TIME of the SPURT behind");
        int[][] dues = {{259, 259}, {260, 260}, {261, 260}, {2000, 260}, {-500, -500}};
        for (int[] d : dues) {
            SpurtClock x = Check.with("fixed", 60);
            timeOf(x, 50, 50, 10);
            Check.take(x, "fixed", d[0]);
            CHECK.due("fixed " + d[0], timeOf(x, 5, 5, 5), d[1]);
        }
        SpurtClock y = Check.with("fixed", 60);
        timeOf(y, 50, 50, 10);
        y.margin(200);
        CHECK.due("60 and a margin of 200", timeOf(y, 5, 5, 5), 260);
        SpurtClock z = Check.with("fixed", 60);
        timeOf(z, 50, 50, 10);
        z.margin(200);
        Check.take(z, "fixed", 61);
        CHECK.due("61 and a margin of 200", timeOf(z, 5, 5, 5), 260);
        SpurtClock w = Check.with("fixed", 60);
        timeOf(w, 50, 50, 0);
        Check.take(w, "fixed", 61);
        CHECK.due("no pause: its own does not count", timeOf(w, 40, 40, 30), 60);
    }

    private static void theOneBehind() {
        CHECK.sentence("(the one with the least HEAD that is greater) and 20 times the PAUSE of that.");
        SpurtClock x = Check.with("fixed", 60);
        timeOf(x, 50, 50, 0);
        Check.take(x, "fixed", 500);
        CHECK.due("behind it, more", timeOf(x, 100, 100, 9), 500);
        CHECK.due("ahead of both, by the nearer", timeOf(x, 10, 10, 0), 60);
        CHECK.due("between", timeOf(x, 70, 70, 0), 500);
        Check.take(x, "fixed", 2000);
        CHECK.due("between, by the farthest, which is the nearer now", timeOf(x, 80, 80, 0), 680);
        CHECK.due("none is behind", timeOf(x, 299, 299, 0), 2000);
    }

    private static void betweenTwo() {
        CHECK.sentence("; and then not more than TIME of the SPURT behind (the one with the least HEAD that is greater)");
        int[][] dues = {{0, -500, 500}, {0, 2000, 500}, {5, -500, 400}, {5, 399, 400}, {5, 401, 401}, {5, 499, 499},
            {5, 501, 500}, {5, 2000, 500}};
        for (int[] d : dues) {
            SpurtClock x = aheadWith(500);
            Check.take(x, "fixed", -500);
            CHECK.due("the one behind", timeOf(x, 100, 100, 10), 300);
            Check.take(x, "fixed", d[1]);
            CHECK.due("between with pause " + d[0] + " and fixed " + d[1], timeOf(x, 50, 50, d[0]), d[2]);
        }
    }

    private static void noneAheadOfItsTurn() {
        CHECK.sentence("times moved in pauses alone, so that none is played ahead of its turn;");
        int[] times = {2000, -500, 700, 0, 1999, 60, -499, 1000};
        for (int stride : new int[] {1, 3, 7, 11, 13, 17, 19}) {
            SpurtClock x = new SpurtClock();
            for (int i = 0; i < 20; i++) {
                int place = (i * stride + 5) % 20;
                Check.take(x, "fixed", times[(i + stride) % times.length]);
                x.arrive(12 * place + 8, 12 * place + 6, place % 6, 0);
                x.arrive(12 * place + 6, 12 * place + 6, place % 6, 0);
            }
            CHECK.due("all came", x.many(0), 40);
            int ahead = -20;
            for (int n = 0; n < 240; n++) {
                int played = x.ofFrame(n, 3);
                if (played >= 0) {
                    CHECK.holds("stride " + stride + ", frame " + n + " at " + played + ", ahead " + ahead, played >= ahead + 20);
                    ahead = played;
                }
            }
        }
    }

    private static void timesStay() {
        CHECK.sentence("It stays so.");
        SpurtClock x = Check.with("share", 0);
        x.arrive(10, 10, 0, 230);
        CHECK.due("as the first comes", x.ofSpurt(0, 2), 10030);
        x.arrive(11, 10, 0, 900);
        CHECK.due("as another comes", x.ofSpurt(0, 2), 10030);
        x.margin(200);
        Check.take(x, "fixed", 2000);
        x.arrive(12, 10, 0, 900);
        CHECK.due("as the manner is another", x.ofSpurt(0, 2), 10030);
        x.arrive(30, 30, 0, 900);
        x.arrive(2, 2, 0, 900);
        CHECK.due("as others come around it", x.ofSpurt(0, 2), 10030);
        CHECK.due("its manner too", x.ofSpurt(0, 8), 1);
        CHECK.due("and when it is played", x.ofFrame(10, 3), 230);
    }

    private static void playedOrLate() {
        CHECK.sentence("FRAME n of it is PLAYED at 20 n and TIME, if it comes then or ahead of that; else it is LATE.");
        int[][] dues = {{0, 160}, {159, 160}, {160, 160}, {161, -9}, {30000, -9}};
        for (int[] d : dues) {
            SpurtClock x = new SpurtClock();
            x.arrive(5, 5, 0, d[0]);
            CHECK.due("comes at " + d[0] + ", due at 160", x.ofFrame(5, 3), d[1]);
            CHECK.due("played", x.ofSpurt(0, 4), d[1] == -9 ? 0 : 1);
            CHECK.due("late", x.ofSpurt(0, 5), d[1] == -9 ? 1 : 0);
        }
        int[][] early = {{24, 0, -9}, {25, 0, 0}, {25, 1, -9}, {26, 20, 20}, {0, 0, -9}};
        for (int[] e : early) {
            SpurtClock x = Check.with("fixed", -500);
            x.arrive(e[0], e[0], 0, e[1]);
            CHECK.due("frame " + e[0] + " comes at " + e[1] + " with time -500", x.ofFrame(e[0], 3), e[2]);
        }
        SpurtClock y = new SpurtClock();
        y.arrive(5, 5, 0, 161);
        y.arrive(6, 5, 0, 180);
        CHECK.due("a late one ahead does no harm", y.ofFrame(6, 3), 180);
    }

    private static void missing() {
        CHECK.sentence("FRAMES from the HEAD of a SPURT to the greatest of it that came are MISSING, if they did not come.");
        SpurtClock x = new SpurtClock();
        x.arrive(10, 10, 4, 0);
        CHECK.due("its head alone", x.ofSpurt(0, 6), 0);
        SpurtClock y = new SpurtClock();
        y.arrive(12, 10, 4, 300);
        CHECK.due("the head and one more", y.ofSpurt(0, 6), 2);
        y.arrive(10, 10, 4, 1000);
        CHECK.due("a late one is not missing", y.ofSpurt(0, 6), 1);
        y.arrive(15, 10, 4, 1000);
        CHECK.due("11, 13 and 14", y.ofSpurt(0, 6), 3);
        CHECK.due("the greatest", y.ofSpurt(0, 7), 15);
        y.arrive(13, 10, 4, 1000);
        CHECK.due("11 and 14", y.ofSpurt(0, 6), 2);
        CHECK.due("the greatest stays", y.ofSpurt(0, 7), 15);
        SpurtClock z = new SpurtClock();
        z.arrive(299, 0, 0, 0);
        CHECK.due("all but the last", z.ofSpurt(0, 6), 299);
    }

    private static void fixedNumbers() {
        CHECK.sentence("fixed: k (-500 .. 2000);");
        for (int k : new int[] {-500, -1, 0, 1, 2000}) {
            SpurtClock x = Check.with("fixed", k);
            x.arrive(3, 3, 0, 30000);
            CHECK.due("wish with " + k, x.wish(0), 10000 + k);
            CHECK.due("TIME with " + k, x.ofSpurt(0, 2), 10000 + k);
        }
    }

    private static void dueWish(String what, SpurtClock x, String word, int k, int due) {
        Check.take(x, word, k);
        CHECK.due(what + ", " + word + " " + k, x.wish(0), 10000 + due);
    }

    private static void shareNotMore() {
        CHECK.sentence("share: the least DELAY v in the HISTORY, such that 256 times how many in it are greater than v "
                + "is not more than k (0 .. 256) times how many it has;");
        SpurtClock one = CHECK.withDelays(70);
        dueWish("one", one, "share", 0, 70);
        dueWish("one", one, "share", 256, 70);
        SpurtClock two = CHECK.withDelays(10, 20);
        dueWish("two", two, "share", 0, 20);
        dueWish("two", two, "share", 127, 20);
        dueWish("two: just not more", two, "share", 128, 10);
        dueWish("two", two, "share", 256, 10);
        SpurtClock three = CHECK.withDelays(20, 30, 10);
        dueWish("three", three, "share", 85, 30);
        dueWish("three", three, "share", 86, 20);
        dueWish("three", three, "share", 170, 20);
        dueWish("three", three, "share", 171, 10);
        SpurtClock below = CHECK.withDelays(0, -20, -40);
        dueWish("not above 0", below, "share", 0, 0);
        dueWish("below 0", below, "share", 86, -20);
        dueWish("below 0", below, "share", 256, -40);
        SpurtClock many = new SpurtClock();
        CHECK.come(many, 0, 0, 0, 500);
        for (int n = 1; n <= 32; n++) {
            CHECK.come(many, n + 30, 0, 0, n);
        }
        dueWish("the 500 is not in the history", many, "share", 0, 32);
        dueWish("32", many, "share", 7, 32);
        dueWish("32: one of 32 is not more than 8 of 256", many, "share", 8, 31);
        dueWish("32", many, "share", 247, 2);
        dueWish("32", many, "share", 248, 1);
    }

    private static void shareOfEqualOnes() {
        CHECK.sentence("such that 256 times how many in it are greater than v");
        SpurtClock x = CHECK.withDelays(30, 10, 30);
        dueWish("the greatest twice", x, "share", 0, 30);
        dueWish("the greatest twice", x, "share", 170, 30);
        dueWish("the greatest twice", x, "share", 171, 10);
        SpurtClock y = CHECK.withDelays(10, 30, 10);
        dueWish("the least twice", y, "share", 85, 30);
        dueWish("the least twice", y, "share", 86, 10);
        SpurtClock z = CHECK.withDelays(40, 40, 40);
        dueWish("all the same", z, "share", 0, 40);
        dueWish("all the same", z, "share", 256, 40);
    }

    private static void lastThree() {
        CHECK.sentence("the greatest of the last three DELAYS of the HISTORY (of all, if it has fewer), while a SPIKE is on; else as share;");
        int[] delays = {0, 80, 70, 60, 50, 41, 40};
        int[] dues = {0, 80, 80, 80, 70, 60, 0};
        SpurtClock x = Check.with("spike", 256);
        for (int n = 0; n < delays.length; n++) {
            CHECK.come(x, n, 0, 0, delays[n]);
            CHECK.due("delay " + delays[n], x.wish(0), 10000 + dues[n]);
        }
        dueWish("off: as share", x, "spike", 0, 80);
        SpurtClock y = CHECK.withDelays(0, 100, 150, 200);
        dueWish("the latest is the greatest", y, "spike", 256, 200);
        SpurtClock z = CHECK.withDelays(0, 100, 150, 140);
        dueWish("the middle one is the greatest", z, "spike", 256, 150);
        SpurtClock w = CHECK.withDelays(300, 380, 1500, 1480, 1460, 1440);
        dueWish("the fourth from the end is greater", w, "spike", 0, 1480);
    }

    private static void fewerThanThree() {
        CHECK.sentence("(of all, if it has fewer)");
        SpurtClock x = Check.with("spike", 256);
        CHECK.come(x, 0, 0, 0, 9000);
        CHECK.come(x, 1, 0, 0, 9500);
        CHECK.come(x, 2, 0, 0, 9600);
        CHECK.due("three that are forgotten then", x.wish(0), 19600);
        x.anew();
        CHECK.come(x, 0, 0, 0, 0);
        CHECK.due("one", x.wish(0), 10000);
        CHECK.come(x, 1, 0, 0, 80);
        CHECK.due("two", x.wish(0), 10080);
        SpurtClock y = Check.with("spike", 0);
        CHECK.come(y, 100, 100, 0, -2000);
        CHECK.come(y, 101, 100, 0, -1000);
        CHECK.due("two below 0", y.wish(0), 9000);
    }

    private static void spikeNumbers() {
        CHECK.sentence("spike (k as with share):");
        int[][] dues = {{0, 30}, {85, 30}, {86, 20}, {170, 20}, {171, 10}, {256, 10}};
        for (int[] d : dues) {
            dueWish("off", CHECK.withDelays(20, 30, 10), "spike", d[0], d[1]);
            dueWish("on: k is no matter", CHECK.withDelays(0, 100, 90), "spike", d[0], 100);
        }
    }

    private static SpurtClock risingByAThird(int k) {
        SpurtClock x = Check.with("drift", k);
        CHECK.come(x, 0, 0, 0, 100);
        CHECK.come(x, 30, 0, 0, 110);
        return x;
    }

    private static SpurtClock fallingByAThird(int k) {
        SpurtClock x = Check.with("drift", k);
        CHECK.come(x, 0, 0, 0, 110);
        CHECK.come(x, 30, 0, 0, 100);
        return x;
    }

    private static void driftCutUp() {
        CHECK.sentence("as share, but with each DELAY of the HISTORY become that and DRIFT times (h less the number of its FRAME), "
                + "cut up to a whole number;");
        int[][] rising = {{30, 110}, {31, 111}, {32, 111}, {33, 111}, {34, 112}, {29, 110}, {28, 110}, {27, 109}, {26, 109},
            {0, 100}, {1, 101}, {299, 200}};
        for (int[] r : rising) {
            CHECK.due("rising, wish(" + r[0] + ")", risingByAThird(0).wish(r[0]), 10000 + r[1]);
        }
        int[][] falling = {{30, 100}, {31, 100}, {32, 100}, {33, 99}, {34, 99}, {29, 101}, {28, 101}, {27, 101}, {26, 102},
            {0, 110}, {1, 110}, {3, 109}, {299, 11}};
        for (int[] f : falling) {
            CHECK.due("falling, wish(" + f[0] + ")", fallingByAThird(0).wish(f[0]), 10000 + f[1]);
        }
        SpurtClock one = Check.with("drift", 0);
        CHECK.come(one, 50, 50, 0, 7);
        CHECK.due("one frame has no drift", one.wish(299), 10007);
        SpurtClock y = Check.with("drift", 0);
        CHECK.come(y, 0, 0, 0, 0);
        CHECK.come(y, 12, 9, 0, 24);
        CHECK.due("by the head, which did not come", y.ofSpurt(1, 2), 10018);
    }

    private static void driftThenShare() {
        CHECK.sentence("drift (k as with share): as share, but with each DELAY");
        int[][] dues = {{0, 145}, {85, 145}, {86, 120}, {256, 120}};
        for (int[] d : dues) {
            SpurtClock x = Check.with("drift", d[0]);
            CHECK.come(x, 0, 0, 0, 100);
            CHECK.come(x, 10, 0, 0, 130);
            CHECK.come(x, 40, 0, 0, 120);
            CHECK.due("drift 1/2 upper", x.drift(0), 1);
            CHECK.due("drift 1/2 lower", x.drift(1), 2);
            CHECK.due("drift " + d[0], x.wish(40), 10000 + d[1]);
            CHECK.due("drift " + d[0] + " at 0", x.wish(0), 10000 + d[1] - 20);
        }
    }

    private static void driftOfBigSteps() {
        CHECK.sentence("DRIFT times (h less the number of its FRAME)");
        SpurtClock x = Check.with("drift", 0);
        x.arrive(1, 1, 0, 0);
        x.arrive(0, 0, 0, 30000);
        CHECK.due("the steepest fall", x.drift(0), -30020);
        CHECK.due("far along it: below any refusal, and none", x.wish(299), 10000 + 30000 - 299 * 30020);
        CHECK.due("at its start", x.wish(0), 40000);
        SpurtClock y = Check.with("drift", 0);
        y.arrive(0, 0, 0, 0);
        y.arrive(1, 0, 0, 30000);
        CHECK.due("the steepest rise", y.drift(0), 29980);
        CHECK.due("far along it", y.wish(299), 10000 + 299 * 29980);
    }

    private static void meanNumbers() {
        CHECK.sentence("mean: M and k (0 .. 8) times D;");
        for (int k = 0; k <= 8; k++) {
            dueWish("10 and 30", CHECK.withDelays(10, 30), "mean", k, 20 + 10 * k);
        }
        SpurtClock x = Check.with("mean", 8);
        CHECK.due("mean -1", Check.take(x, "mean", -1), -2);
        CHECK.due("mean 9", Check.take(x, "mean", 9), -2);
        CHECK.come(x, 0, 0, 0, 10);
        CHECK.come(x, 1, 0, 0, 30);
        CHECK.due("8 stays", x.wish(0), 10100);
        CHECK.come(x, 20, 20, 9, 20);
        CHECK.due("this one counted: 20 and 8 times 6", x.ofSpurt(1, 2), 10068);
    }

    private static void meanCutDown() {
        CHECK.sentence("M is the sum of the HISTORY by how many it has, D the sum of how far each is from M by how many it has, "
                + "both cut down to a whole number.");
        dueWish("one: far from none", CHECK.withDelays(7), "mean", 8, 7);
        dueWish("0 and 1", CHECK.withDelays(0, 1), "mean", 0, 0);
        dueWish("0 and 1: D is 0", CHECK.withDelays(0, 1), "mean", 8, 0);
        dueWish("0 and 3: M is 1", CHECK.withDelays(0, 3), "mean", 0, 1);
        dueWish("0 and 3: D is 1", CHECK.withDelays(0, 3), "mean", 8, 9);
        dueWish("0, 0 and 2: M is 0", CHECK.withDelays(0, 0, 2), "mean", 0, 0);
        dueWish("0, 0 and 2: D is 0", CHECK.withDelays(0, 0, 2), "mean", 8, 0);
        dueWish("0 and -1: M is -1", CHECK.withDelays(0, -1), "mean", 0, -1);
        dueWish("0 and -3: M is -2", CHECK.withDelays(0, -3), "mean", 0, -2);
        dueWish("0 and -3: D is 1", CHECK.withDelays(0, -3), "mean", 1, -1);
        dueWish("0 and -4: both whole", CHECK.withDelays(0, -4), "mean", 8, 14);
        SpurtClock many = new SpurtClock();
        CHECK.come(many, 0, 0, 0, 30000);
        for (int n = 1; n <= 32; n++) {
            many.arrive(n, 0, 0, 30000);
        }
        Check.take(many, "mean", 0);
        CHECK.due("the last 32 alone: 30000 less 20 times 16.5", many.wish(0), 10000 + 30000 - 330);
        Check.take(many, "mean", 8);
        CHECK.due("far by 10, 30, .. 310 twice: 160", many.wish(0), 10000 + 29670 + 8 * 160);
    }

    private static void spikeBegins() {
        CHECK.sentence("A SPIKE: off at first. An ARRIVAL whose DELAY is that of the ARRIVAL ahead of it and JUMP, or more, "
                + "while it is off, begins one (BASE is the DELAY of that one ahead);");
        SpurtClock none = new SpurtClock();
        CHECK.due("off at first", none.spike(0), 0);
        none.arrive(0, 0, 0, 30000);
        CHECK.due("none is ahead of the first", none.spike(0), 0);
        CHECK.due("none began", none.many(7), 0);
        CHECK.due("one less", CHECK.withDelays(50, 129).spike(0), 0);
        CHECK.due("just", CHECK.withDelays(50, 130).spike(0), 1);
        CHECK.due("just: its base", CHECK.withDelays(50, 130).spike(1), 10050);
        CHECK.due("more: its base", CHECK.withDelays(50, 9000).spike(1), 10050);
        CHECK.due("slowly: the one just ahead counts", CHECK.withDelays(50, 100, 150, 200).spike(0), 0);
        CHECK.due("from low ground", CHECK.withDelays(50, 35, 115).spike(1), 10035);
        SpurtClock other = new SpurtClock();
        other.arrive(50, 50, 0, 1000);
        other.arrive(3, 3, 0, 1000);
        CHECK.due("the one ahead is of another spurt", other.spike(1), 10000);
        SpurtClock refused = CHECK.withDelays(50);
        refused.arrive(0, 0, 0, 9000);
        refused.arrive(1, 0, 0, 149);
        CHECK.due("a refused one is not ahead of it, and begins none", refused.spike(0), 0);
    }

    private static void spikeBeginsOnlyWhileOff() {
        CHECK.sentence("or more, while it is off, begins one");
        SpurtClock x = CHECK.withDelays(50, 130, 210, 290);
        CHECK.due("one began", x.many(7), 1);
        CHECK.due("its base stays", x.spike(1), 10050);
        CHECK.come(x, 20, 0, 0, 90);
        CHECK.due("it ends", x.spike(0), 0);
        CHECK.come(x, 21, 0, 0, 170);
        CHECK.due("another began", x.many(7), 2);
        CHECK.due("its base", x.spike(1), 10090);
    }

    private static void spikeEnds() {
        CHECK.sentence("the first ARRIVAL behind that one whose DELAY is not more than BASE and half of JUMP "
                + "(that half cut down) together ends it.");
        int[][] dues = {{10, 106, 1}, {10, 105, 0}, {11, 106, 1}, {11, 105, 0}, {12, 107, 1}, {12, 106, 0}, {1000, 601, 1},
            {1000, 600, 0}, {80, 141, 1}, {80, 140, 0}, {80, 100, 0}, {80, -500, 0}};
        for (int[] d : dues) {
            SpurtClock x = new SpurtClock();
            x.jump(d[0]);
            CHECK.come(x, 0, 0, 0, 100);
            CHECK.come(x, 1, 0, 0, 100 + d[0]);
            CHECK.due("on by jump " + d[0], x.spike(0), 1);
            CHECK.come(x, 100, 0, 0, d[1]);
            CHECK.due("jump " + d[0] + ", delay " + d[1], x.spike(0), d[2]);
            CHECK.due("base with jump " + d[0] + ", delay " + d[1], x.spike(1), d[2] == 1 ? 10100 : -9);
            CHECK.due("one began", x.many(7), 1);
        }
        SpurtClock y = CHECK.withDelays(100, 400);
        y.arrive(1, 0, 0, 30000);
        y.arrive(50, 0, 0, 419);
        CHECK.due("refused ones end nothing", y.spike(0), 1);
    }

    private static void spikeAsThisVeryOneSetsATime() {
        CHECK.sentence("A SPIKE that an ARRIVAL begins or ends is on, or off, as this very ARRIVAL sets a TIME.");
        SpurtClock x = Check.with("spike", 256);
        CHECK.come(x, 0, 0, 0, 30);
        CHECK.come(x, 10, 10, 0, 110);
        CHECK.due("begun: the greatest", x.ofSpurt(1, 2), 10110);
        CHECK.come(x, 100, 100, 80, 70);
        CHECK.due("ended: as share", x.spike(0), 0);
        CHECK.due("ended: as share, the least", x.ofSpurt(2, 2), 10030);
        SpurtClock y = Check.with("spike", 256);
        CHECK.come(y, 0, 0, 0, 30);
        CHECK.come(y, 10, 10, 0, 109);
        CHECK.due("not begun: as share", y.ofSpurt(1, 2), 10030);
        SpurtClock z = Check.with("spike", 256);
        CHECK.come(z, 0, 0, 0, 30);
        CHECK.come(z, 10, 10, 0, 110);
        CHECK.come(z, 100, 100, 80, 71);
        CHECK.due("not ended: the greatest of three", z.ofSpurt(2, 2), 10110);
    }

    private static void ofFrameEdges() {
        CHECK.sentence("Of a FRAME that came: 0 when, 1 DELAY and 10000, 2 its SPURT's number, 3 when it is PLAYED (NONE: it is LATE), "
                + "4 as which of all it came (from 0 on). UNKNOWN; OUTSIDE.");
        SpurtClock x = new SpurtClock();
        CHECK.due("none came", x.ofFrame(0, 0), -1);
        x.arrive(299, 299, 0, 0);
        x.arrive(0, 0, 0, 30000);
        x.arrive(5, 0, 0, 29999);
        long[] first = {0, 4020, 0, 6040, 0};
        long[] last = {30000, 40000, 1, -9, 1};
        for (int what = 0; what < 5; what++) {
            CHECK.due("of 299, " + what, x.ofFrame(299, what), first[what]);
            CHECK.due("of 0, " + what, x.ofFrame(0, what), last[what]);
        }
        for (int what : new int[] {-1, 5, LEAST, MOST}) {
            CHECK.due("what " + what, x.ofFrame(0, what), -2);
            CHECK.due("UNKNOWN is told first, " + what, x.ofFrame(1, what), -1);
        }
        for (int n : new int[] {-1, 1, 298, 300, 301, LEAST, MOST}) {
            for (int what = -1; what <= 5; what++) {
                CHECK.due("frame " + n + ", " + what, x.ofFrame(n, what), -1);
            }
        }
        CHECK.due("a refused one did not come", x.ofFrame(5, 0), -1);
    }

    private static void ofSpurtEdges() {
        CHECK.sentence("Of a SPURT: 0 HEAD, 1 PAUSE, 2 TIME and 10000, 3 how many FRAMES of it came, 4 PLAYED ones, 5 LATE, 6 MISSING, "
                + "7 the greatest that came, 8 the MANNER by which its TIME was set, as by manner(). UNKNOWN; OUTSIDE.");
        SpurtClock x = new SpurtClock();
        CHECK.due("none", x.ofSpurt(0, 0), -1);
        x.arrive(0, 0, 0, 60);
        Check.take(x, "mean", 0);
        x.arrive(299, 290, 289, 30000);
        long[] first = {0, 0, 10060, 1, 1, 0, 0, 0, 0};
        long[] last = {290, 289, 22040, 1, 0, 1, 9, 299, 4};
        for (int what = 0; what < 9; what++) {
            CHECK.due("of the first, " + what, x.ofSpurt(0, what), first[what]);
            CHECK.due("of the last, " + what, x.ofSpurt(1, what), last[what]);
        }
        for (int what : new int[] {-1, 9, LEAST, MOST}) {
            CHECK.due("what " + what, x.ofSpurt(1, what), -2);
            CHECK.due("UNKNOWN is told first, " + what, x.ofSpurt(2, what), -1);
        }
        for (int k : new int[] {-1, 2, 120, LEAST, MOST}) {
            for (int what = -1; what <= 9; what++) {
                CHECK.due("spurt " + k + ", " + what, x.ofSpurt(k, what), -1);
            }
        }
        x.arrive(150, 140, 140, 30000);
        CHECK.due("a refused one made none", x.ofSpurt(2, 0), -1);
    }

    private static void inOrderEdges() {
        CHECK.sentence("The number of the k-th SPURT (from 0) by HEADS. UNKNOWN.");
        SpurtClock x = new SpurtClock();
        CHECK.due("none", x.inOrder(0), -1);
        x.arrive(299, 299, 0, 0);
        CHECK.due("one", x.inOrder(0), 0);
        CHECK.due("no second", x.inOrder(1), -1);
        x.arrive(20, 0, 0, 0);
        x.arrive(150, 150, 0, 0);
        CHECK.due("the least head", x.inOrder(0), 1);
        CHECK.due("the head between", x.inOrder(1), 2);
        CHECK.due("the greatest head", x.inOrder(2), 0);
        for (int k : new int[] {-1, 3, LEAST, MOST}) {
            CHECK.due("inOrder(" + k + ")", x.inOrder(k), -1);
        }
        SpurtClock y = new SpurtClock();
        for (int k = 0; k < 120; k++) {
            y.arrive(299 - 2 * k, 299 - 2 * k, 1, 0);
        }
        CHECK.due("the first of 120", y.inOrder(0), 119);
        CHECK.due("the last of 120", y.inOrder(119), 0);
        CHECK.due("no more of 120", y.inOrder(120), -1);
    }

    private static void wishRefused() {
        CHECK.sentence("OUTSIDE: h (0 .. 299); STATE: the HISTORY is empty.");
        SpurtClock x = new SpurtClock();
        CHECK.due("empty, fixed", x.wish(0), -3);
        CHECK.due("empty", x.wish(299), -3);
        for (int h : new int[] {-1, 300, LEAST, MOST}) {
            CHECK.due("OUTSIDE is told first, " + h, x.wish(h), -2);
        }
        for (String word : new String[] {"share", "spike", "drift", "mean"}) {
            CHECK.due("empty, " + word, Check.with(word, 8).wish(0), -3);
        }
        x.arrive(10, 10, 0, 0);
        CHECK.due("wish(0)", x.wish(0), 10060);
        CHECK.due("wish(299)", x.wish(299), 10060);
        for (int h : new int[] {-1, 300, LEAST, MOST}) {
            CHECK.due("wish(" + h + ")", x.wish(h), -2);
        }
        x.anew();
        CHECK.due("empty again", x.wish(0), -3);
    }

    private static void wishCountsNothingNew() {
        CHECK.sentence("came now with what the HISTORY has already (this one is not counted): it and 10000.");
        SpurtClock x = Check.with("share", 0);
        x.margin(200);
        CHECK.come(x, 0, 0, 0, 30);
        CHECK.due("neither its delay nor the margin", x.wish(100), 10030);
        CHECK.due("nor the turn: nothing is moved", x.wish(1), 10030);
        CHECK.due("nothing came by it", x.many(0), 1);
        CHECK.due("no spurt came by it", x.many(1), 1);
        CHECK.due("the history is as it was", x.many(5), 1);
        CHECK.due("also for a frame that came", x.wish(0), 10030);
        SpurtClock y = new SpurtClock();
        y.arrive(100, 100, 0, 0);
        Check.take(y, "fixed", -500);
        CHECK.due("not moved behind the one ahead", y.wish(200), 9500);
        Check.take(y, "fixed", 2000);
        CHECK.due("not moved ahead of the one behind", y.wish(50), 12000);
    }

    private static void spikeEdges() {
        CHECK.sentence("The SPIKE: 0 whether it is on (1, 0), 1 BASE and 10000 (NONE: it is off). OUTSIDE.");
        SpurtClock x = new SpurtClock();
        CHECK.due("off", x.spike(0), 0);
        CHECK.due("no base", x.spike(1), -9);
        for (int what : new int[] {-1, 2, LEAST, MOST}) {
            CHECK.due("off, what " + what, x.spike(what), -2);
        }
        x.arrive(299, 299, 0, 0);
        x.arrive(0, 0, 0, 30000);
        CHECK.due("on", x.spike(0), 1);
        CHECK.due("the least base of all", x.spike(1), 4020);
        for (int what : new int[] {-1, 2, LEAST, MOST}) {
            CHECK.due("on, what " + what, x.spike(what), -2);
        }
        SpurtClock y = new SpurtClock();
        y.arrive(4, 0, 0, 29000);
        y.arrive(0, 0, 0, 29000);
        CHECK.due("a great base", y.spike(1), 38920);
    }
}
