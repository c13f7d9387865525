import java.io.IOException;

/** Part 3 and promises 14 to 19: each sentence of the document that names an edge, with a test of its own. */
public final class TableEdgesTest {
    private static final Check CHECK = new Check();
    private static final int LEAST = Integer.MIN_VALUE;
    private static final int MOST = Integer.MAX_VALUE;

    public static void main(String[] args) throws IOException {
        CHECK.readDocument(args);
        driftOfNoneOrOne();
        nowhereAbove();
        cornersTakenAway();
        theMiddle();
        risesLeast();
        leastTerms();
        allFramesCounted();
        lateEdges();
        historyEdges();
        lossEdges();
        driftLost();
        waitingEdges();
        waitingLooks();
        playingEdges();
        playingLooks();
        CHECK.end();
    }

    /** Points are a frame and its delay, in the order in which they come. */
    private static void dueDrift(String what, long upper, long lower, int... points) {
        SpurtClock x = new SpurtClock();
        for (int i = 0; i + 1 < points.length; i += 2) {
            CHECK.come(x, points[i], 0, 0, points[i + 1]);
        }
        CHECK.due(what + ", upper", x.drift(0), upper);
        CHECK.due(what + ", lower", x.drift(1), lower);
    }

    private static void driftOfNoneOrOne() {
        CHECK.sentence("DRIFT: 0 with one FRAME that came or none.");
        dueDrift("none", 0, 1);
        dueDrift("one", 0, 1, 7, 90);
        dueDrift("frame 0 alone", 0, 1, 0, 30000);
        dueDrift("frame 299 alone", 0, 1, 299, -5980);
        dueDrift("two", 2, 1, 7, 90, 8, 92);
        SpurtClock x = CHECK.withDelays(0, 50);
        CHECK.due("two", x.drift(0), 50);
        x.anew();
        CHECK.due("none again", x.drift(0), 0);
        CHECK.due("none again", x.drift(1), 1);
    }

    private static void nowhereAbove() {
        CHECK.sentence("Else, of all lines that are nowhere above any DELAY (at the number of its FRAME)");
        dueDrift("just on it", 1, 2, 0, 40, 10, 45, 20, 50);
        dueDrift("one above: no matter", 1, 2, 0, 40, 10, 46, 20, 50);
        dueDrift("one below, ahead of the middle", 3, 5, 0, 40, 5, 41, 20, 50);
        dueDrift("one below, behind the middle", 4, 15, 0, 40, 15, 44, 20, 50);
        dueDrift("two at an end are all there is", 1, 20, 0, 40, 20, 41);
        dueDrift("far above all else", 15000, 299, 0, 0, 1, 20000, 299, 15000, 298, 15020);
    }

    private static void cornersTakenAway() {
        CHECK.sentence("nowhere above any DELAY");
        dueDrift("no one below", -1, 4, 50, 100, 60, 60, 80, 20, 120, 10, 130, 15);
        dueDrift("below the last but one", -11, 6, 50, 100, 60, 60, 80, 20, 120, 10, 140, -90);
        dueDrift("below two", -13, 4, 50, 100, 60, 60, 80, 20, 120, 10, 140, -200);
        dueDrift("below three", -40, 9, 50, 100, 60, 60, 80, 20, 120, 10, 140, -300);
        dueDrift("below all from the left", 1, 20, 50, -100, 60, 60, 80, 20, 120, 10, 150, -95);
    }

    private static void theMiddle() {
        CHECK.sentence("those that are highest at the MIDDLE: half of the least and the greatest number of all FRAMES that came, together;");
        dueDrift("a corner just ahead of the middle of 21", 1, 1, 0, 40, 10, 10, 21, 21);
        dueDrift("a corner just behind the middle of 19", -3, 1, 0, 40, 10, 10, 19, 19);
        dueDrift("the middle is not that of how many", 1, 1, 0, 40, 1, 36, 2, 33, 10, 10, 21, 21);
        dueDrift("the middle is not where most are", -3, 1, 0, 40, 10, 10, 16, 20, 17, 21, 18, 22, 19, 23);
        dueDrift("a bow: middle 75", -2, 1, 50, 100, 60, 60, 80, 20, 100, 12);
        dueDrift("a bow: middle 115", -1, 4, 50, 100, 60, 60, 80, 20, 120, 10, 180, 40);
        dueDrift("a bow: middle 125", 1, 2, 50, 100, 60, 60, 80, 20, 120, 10, 200, 50);
        dueDrift("the least is not 0", -3, 1, 11, 43, 21, 13, 30, 22);
        dueDrift("the least is not 0", 1, 1, 11, 43, 20, 13, 30, 23);
    }

    private static void risesLeast() {
        CHECK.sentence("of these the one that rises least");
        dueDrift("falls, then rises", -3, 1, 0, 40, 10, 10, 20, 20);
        dueDrift("rises, then more", 1, 1, 0, 0, 10, 10, 20, 60);
        dueDrift("falls, then less", -5, 1, 0, 60, 10, 10, 20, 0);
        dueDrift("level, then rises", 0, 1, 0, 10, 10, 10, 20, 11);
        dueDrift("a corner in the midst of 298", -148, 149, 0, 200, 149, 52, 298, 5000);
        dueDrift("of 299: the other side, 4948 by 150", 2474, 75, 0, 200, 149, 52, 299, 5000);
    }

    private static void leastTerms() {
        CHECK.sentence("how much it rises a FRAME, as upper and lower number (above 0) in least terms.");
        dueDrift("level", 0, 1, 3, 50, 90, 50);
        dueDrift("level below 0", 0, 1, 100, -50, 190, -50);
        dueDrift("a whole number", 2, 1, 0, 0, 10, 20);
        dueDrift("a whole number below 0", -2, 1, 0, 20, 10, 0);
        dueDrift("6 by 4", 3, 2, 0, 0, 4, 6);
        dueDrift("-6 by 4", -3, 2, 0, 6, 4, 0);
        dueDrift("no common one", 7, 299, 0, 0, 299, 7);
        dueDrift("a common one of 13", -1, 23, 0, 13, 299, 0);
        SpurtClock x = new SpurtClock();
        x.arrive(1, 1, 0, 0);
        x.arrive(0, 0, 0, 30000);
        CHECK.due("the steepest", x.drift(0), -30020);
        CHECK.due("the steepest", x.drift(1), 1);
        SpurtClock y = new SpurtClock();
        y.arrive(299, 299, 0, 0);
        y.arrive(0, 0, 0, 30000);
        CHECK.due("35980 by 299", y.drift(0), -35980);
        CHECK.due("35980 by 299", y.drift(1), 299);
    }

    private static void allFramesCounted() {
        CHECK.sentence("(With the MANNER drift: by all FRAMES that came, that one counted.)");
        SpurtClock x = Check.with("drift", 0);
        CHECK.come(x, 0, 0, 0, 0);
        for (int n = 60; n < 100; n++) {
            CHECK.come(x, n, 60, 0, 200);
        }
        CHECK.due("the first is not in the history", x.history(31), 10200);
        CHECK.due("the first counts: 200 by 99", x.drift(0), 200);
        CHECK.due("the first counts: 200 by 99", x.drift(1), 99);
        CHECK.due("and in the wish: frame 68 moved by 31 times that", x.wish(99), 10000 + 200 + 63);
        SpurtClock y = Check.with("drift", 0);
        CHECK.come(y, 0, 0, 0, 10);
        CHECK.come(y, 10, 10, 0, 30);
        CHECK.due("that one counted: frame 0 moved by 20", y.ofSpurt(1, 2), 10030);
        CHECK.come(y, 20, 18, 0, 110);
        CHECK.due("that one counted: the side to the left, 2; 110 moved by -4", y.ofSpurt(2, 2), 10106);
    }

    private static SpurtClock forty() {
        SpurtClock x = new SpurtClock();
        for (int n = 0; n < 40; n++) {
            CHECK.come(x, n, 0, 0, n);
        }
        return x;
    }

    private static void lateEdges() {
        CHECK.sentence("How many DELAYS of the HISTORY are greater than v (-10000 .. 40000). OUTSIDE.");
        SpurtClock none = new SpurtClock();
        CHECK.due("of none", none.late(-10000), 0);
        CHECK.due("of none", none.late(-10001), -2);
        SpurtClock x = forty();
        CHECK.due("the last 32 alone", x.late(-10000), 32);
        CHECK.due("8 is the least", x.late(7), 32);
        CHECK.due("8 is not greater than 8", x.late(8), 31);
        CHECK.due("39 is the greatest", x.late(38), 1);
        CHECK.due("39 is not greater than 39", x.late(39), 0);
        CHECK.due("late(40000)", x.late(40000), 0);
        for (int v : new int[] {-10001, 40001, LEAST, MOST}) {
            CHECK.due("late(" + v + ")", x.late(v), -2);
        }
        SpurtClock y = new SpurtClock();
        y.arrive(299, 299, 0, 0);
        y.arrive(0, 0, 0, 30000);
        CHECK.due("the least of all delays", y.late(-5981), 2);
        CHECK.due("the least of all delays", y.late(-5980), 1);
        CHECK.due("the greatest of all delays", y.late(29999), 1);
        CHECK.due("the greatest of all delays", y.late(30000), 0);
    }

    private static void historyEdges() {
        CHECK.sentence("The k-th DELAY of the HISTORY (0 .. 31; 0: the latest) and 10000; NONE: there are not so many. OUTSIDE.");
        SpurtClock none = new SpurtClock();
        CHECK.due("of none", none.history(0), -9);
        CHECK.due("of none", none.history(31), -9);
        SpurtClock one = CHECK.withDelays(70);
        CHECK.due("the latest", one.history(0), 10070);
        CHECK.due("there is one", one.history(1), -9);
        SpurtClock x = forty();
        CHECK.due("the latest", x.history(0), 10039);
        CHECK.due("the last but one", x.history(1), 10038);
        CHECK.due("the 32nd", x.history(31), 10008);
        for (int k : new int[] {-1, 32, 39, LEAST, MOST}) {
            CHECK.due("history(" + k + ")", x.history(k), -2);
            CHECK.due("of none, history(" + k + ")", none.history(k), -2);
        }
    }

    private static void lossEdges() {
        CHECK.sentence("How many of all FRAMES that came would be LATE, if each SPURT had the TIME v (-10000 .. 40000). OUTSIDE.");
        SpurtClock none = new SpurtClock();
        CHECK.due("of none", none.loss(-10000), 0);
        CHECK.due("of none", none.loss(40001), -2);
        SpurtClock x = forty();
        CHECK.due("all of 40", x.loss(-10000), 40);
        CHECK.due("all of 40", x.loss(-1), 40);
        CHECK.due("one comes just then", x.loss(0), 39);
        CHECK.due("all but one come in time", x.loss(38), 1);
        CHECK.due("all come in time", x.loss(39), 0);
        CHECK.due("loss(40000)", x.loss(40000), 0);
        for (int v : new int[] {-10001, 40001, LEAST, MOST}) {
            CHECK.due("loss(" + v + ")", x.loss(v), -2);
        }
        SpurtClock y = Check.with("fixed", 2000);
        y.arrive(0, 0, 0, 100);
        CHECK.due("its own time is no matter", y.loss(99), 1);
        CHECK.due("its own time is no matter", y.loss(100), 0);
    }

    private static void driftLost() {
        CHECK.sentence("DRIFT: the upper number (which 0), the lower one (1). LOST: OUTSIDE.");
        SpurtClock x = new SpurtClock();
        SpurtClock y = CHECK.withDelays(7, 3);
        for (int which : new int[] {-1, 2, LEAST, MOST}) {
            CHECK.due("of none, " + which, x.drift(which), Long.MIN_VALUE);
            CHECK.due("of two, " + which, y.drift(which), Long.MIN_VALUE);
        }
        CHECK.due("upper", y.drift(0), -4);
        CHECK.due("lower", y.drift(1), 1);
    }

    private static void waitingEdges() {
        CHECK.sentence("they came at t or ahead of it, and are PLAYED behind t.");
        SpurtClock x = new SpurtClock();
        x.arrive(5, 5, 0, 120);
        int[][] dues = {{0, 0}, {119, 0}, {120, 1}, {121, 1}, {159, 1}, {160, 0}, {161, 0}};
        for (int[] d : dues) {
            CHECK.due("comes at 120, played at 160, looked at " + d[0], x.waiting(d[0]), d[1]);
        }
        SpurtClock just = new SpurtClock();
        just.arrive(5, 5, 0, 160);
        CHECK.due("played as it comes: ahead", just.waiting(159), 0);
        CHECK.due("played as it comes: it never waits", just.waiting(160), 0);
        SpurtClock late = new SpurtClock();
        late.arrive(5, 5, 0, 161);
        for (int t : new int[] {0, 159, 160, 161, 162}) {
            CHECK.due("a late one does not wait at " + t, late.waiting(t), 0);
        }
        SpurtClock atOnce = new SpurtClock();
        for (int n = 0; n < 120; n++) {
            atOnce.arrive(n, 0, 0, 0);
        }
        CHECK.due("120 wait", atOnce.waiting(0), 120);
        CHECK.due("just ahead of the first", atOnce.waiting(59), 120);
        CHECK.due("the first is played", atOnce.waiting(60), 119);
        CHECK.due("the last waits", atOnce.waiting(2439), 1);
        CHECK.due("the last is played", atOnce.waiting(2440), 0);
    }

    private static void waitingLooks() {
        CHECK.sentence("How many FRAMES wait at time t (0 .. 100000)");
        SpurtClock x = new SpurtClock();
        for (int round = 0; round < 2; round++) {
            for (int t : new int[] {-1, 100001, LEAST, MOST}) {
                CHECK.due("waiting(" + t + ")", x.waiting(t), -2);
            }
            CHECK.due("waiting(0)", x.waiting(0), round);
            CHECK.due("waiting(100000)", x.waiting(100000), 0);
            x.arrive(0, 0, 0, 0);
        }
    }

    private static void playingEdges() {
        CHECK.sentence("PLAYED at t, or less than 20 ahead of t; NONE.");
        SpurtClock x = new SpurtClock();
        x.arrive(5, 5, 0, 120);
        x.arrive(7, 5, 0, 120);
        x.arrive(8, 5, 0, 120);
        int[][] dues = {{0, -9}, {120, -9}, {159, -9}, {160, 5}, {161, 5}, {179, 5}, {180, -9}, {199, -9}, {200, 7}, {219, 7},
            {220, 8}, {239, 8}, {240, -9}};
        for (int[] d : dues) {
            CHECK.due("playing(" + d[0] + ")", x.playing(d[0]), d[1]);
        }
        SpurtClock late = new SpurtClock();
        late.arrive(5, 5, 0, 161);
        for (int t : new int[] {0, 10, 11, 160, 161, 179}) {
            CHECK.due("a late one is not played at " + t, late.playing(t), -9);
        }
        SpurtClock early = Check.with("fixed", -500);
        early.arrive(25, 25, 0, 0);
        CHECK.due("played at 0", early.playing(0), 25);
        CHECK.due("played up to 19", early.playing(19), 25);
        CHECK.due("not at 20", early.playing(20), -9);
        SpurtClock zero = Check.with("fixed", 0);
        zero.arrive(0, 0, 0, 0);
        CHECK.due("frame 0 is a frame, and not none", zero.playing(0), 0);
    }

    private static void playingLooks() {
        CHECK.sentence("The FRAME that is played at time t (0 .. 100000)");
        SpurtClock x = new SpurtClock();
        for (int round = 0; round < 2; round++) {
            for (int t : new int[] {-1, 100001, LEAST, MOST}) {
                CHECK.due("playing(" + t + ")", x.playing(t), -2);
            }
            CHECK.due("playing(0)", x.playing(0), -9);
            CHECK.due("playing(100000)", x.playing(100000), -9);
            x.arrive(0, 0, 0, 0);
        }
    }
}
