import java.io.IOException;

/** Part 1 and promises 1 to 8: each sentence of the document that names an edge, with a test of its own. */
public final class FrameEdgesTest {
    private static final Check CHECK = new Check();
    private static final int LEAST = Integer.MIN_VALUE;
    private static final int MOST = Integer.MAX_VALUE;

    public static void main(String[] args) throws IOException {
        CHECK.readDocument(args);
        upToTheLastCall();
        frameNumbers();
        pauses();
        spurtNumbers();
        inTheWayFromAhead();
        inTheWayFromBehind();
        delays();
        historyOfThirtyTwo();
        newObject();
        keyCodes();
        keyFull();
        wipes();
        mannerTakesTheWord();
        mannerUnknown();
        mannerOutside();
        margins();
        jumps();
        arriveOutside();
        arriveTooEarly();
        arriveTwice();
        arriveOtherPause();
        arriveInTheWay();
        arriveFull();
        anewCounts();
        anewForgets();
        anewForgetsSpurts();
        anewForgetsDelays();
        anewKeeps();
        CHECK.end();
    }

    private static void upToTheLastCall() {
        CHECK.sentence("An object is used for at most 512 calls after it has been made");
        SpurtClock x = new SpurtClock();
        for (int round = 0; round < 4; round++) {
            for (int n = 0; n < 120; n++) {
                CHECK.due("round " + round + ", frame " + n, x.arrive(2 * n, 2 * n, 0, 40 * n + round), n);
            }
            CHECK.due("round " + round + " is full", x.arrive(299, 299, 0, 30000), -4);
            if (round < 3) {
                CHECK.due("after round " + round, x.anew(), 120);
            }
        }
        for (int call = 488; call < 512; call++) {
            CHECK.due("call " + call, x.ofFrame(2 * (call - 488), 3), 40 * (call - 488) + 60);
        }
        CHECK.due("call 512", x.many(0), 120);
    }

    private static void frameNumbers() {
        CHECK.sentence("FRAMES 0 .. 299; FRAME n is sent at 20 n.");
        SpurtClock x = new SpurtClock();
        CHECK.due("frame -1", x.arrive(-1, 0, 0, 0), -2);
        CHECK.due("frame 300", x.arrive(300, 0, 0, 6000), -2);
        CHECK.due("frame 0", x.arrive(0, 0, 0, 0), 0);
        CHECK.due("frame 299", x.arrive(299, 299, 0, 5980), 1);
        CHECK.due("frame 0 is sent at 0", x.ofFrame(0, 1), 10000);
        CHECK.due("frame 299 is sent at 5980", x.ofFrame(299, 1), 10000);
        CHECK.due("there is no frame -1", x.ofFrame(-1, 0), -1);
        CHECK.due("there is no frame 300", x.ofFrame(300, 0), -1);
    }

    private static void pauses() {
        CHECK.sentence("A SPURT begins at a FRAME (its HEAD) and has a PAUSE: so many FRAMES just ahead of the HEAD are not sent.");
        for (int n = 6; n <= 9; n++) {
            SpurtClock x = new SpurtClock();
            x.arrive(10, 10, 3, 0);
            CHECK.due("frame " + n + " ahead of head 10 with pause 3", x.arrive(n, n, 0, 0), n == 6 ? 1 : -3);
        }
        SpurtClock y = new SpurtClock();
        y.arrive(10, 10, 0, 0);
        CHECK.due("a pause of none leaves frame 9", y.arrive(9, 9, 0, 0), 1);
        SpurtClock z = new SpurtClock();
        z.arrive(10, 10, 10, 0);
        CHECK.due("a pause of all ahead leaves not even frame 0", z.arrive(0, 0, 0, 0), -3);
    }

    private static void spurtNumbers() {
        CHECK.sentence("SPURTS are known by their HEADS, numbered as the first FRAME of each comes.");
        SpurtClock x = new SpurtClock();
        CHECK.due("the first, far behind", x.arrive(52, 50, 0, 0), 0);
        CHECK.due("the next, ahead of it", x.arrive(10, 10, 0, 0), 1);
        CHECK.due("the first again, by its head", x.arrive(50, 50, 0, 0), 0);
        CHECK.due("a refused one takes no number", x.arrive(51, 51, 0, 0), -3);
        CHECK.due("the third", x.arrive(30, 30, 0, 0), 2);
        CHECK.due("the second again", x.arrive(29, 10, 0, 0), 1);
    }

    private static SpurtClock tenToFourteen() {
        SpurtClock x = new SpurtClock();
        x.arrive(14, 10, 0, 0);
        x.arrive(10, 10, 0, 0);
        return x;
    }

    private static void inTheWayFromAhead() {
        CHECK.sentence("if its HEAD is less than h, and a FRAME of it that came is h less p or more");
        CHECK.due("frame 14 is h less p", tenToFourteen().arrive(20, 20, 6, 0), -3);
        CHECK.due("frame 14 is more", tenToFourteen().arrive(20, 20, 7, 0), -3);
        CHECK.due("frame 14 is far more", tenToFourteen().arrive(20, 20, 20, 0), -3);
        CHECK.due("frame 14 is one less", tenToFourteen().arrive(20, 20, 5, 0), 1);
        CHECK.due("no pause, just behind", tenToFourteen().arrive(15, 15, 0, 0), 1);
        CHECK.due("no pause, at a frame that is missing", tenToFourteen().arrive(13, 13, 0, 0), -3);
        CHECK.due("n itself does not count, its head does", tenToFourteen().arrive(40, 13, 0, 0), -3);
        CHECK.due("its own spurt is not in the way", tenToFourteen().arrive(11, 10, 0, 0), 0);
    }

    private static void inTheWayFromBehind() {
        CHECK.sentence("or if its HEAD is more than h, and n is that HEAD less its PAUSE, or more");
        int[][] dues = {{14, 1}, {15, -3}, {16, -3}, {19, -3}, {20, -3}, {25, -3}, {299, -3}};
        for (int[] d : dues) {
            SpurtClock x = new SpurtClock();
            x.arrive(22, 20, 5, 0);
            CHECK.due("frame " + d[0] + " against head 20 with pause 5", x.arrive(d[0], 3, 0, 0), d[1]);
        }
        SpurtClock y = new SpurtClock();
        y.arrive(20, 20, 0, 0);
        y.arrive(40, 40, 0, 0);
        CHECK.due("the nearest is in the way, the farther is not", y.arrive(30, 3, 0, 0), -3);
        CHECK.due("no pause: just ahead", y.arrive(19, 3, 0, 0), 2);
        CHECK.due("a known spurt is stopped too", y.arrive(40, 20, 0, 0), -3);
        CHECK.due("a known spurt goes on up to it", y.arrive(39, 20, 0, 0), 0);
    }

    private static void delays() {
        CHECK.sentence("DELAY of a FRAME that came: t less 20 n.");
        SpurtClock x = new SpurtClock();
        x.arrive(299, 299, 0, 0);
        CHECK.due("the least of all", x.ofFrame(299, 1), 4020);
        x.arrive(1, 1, 0, 19);
        CHECK.due("just below 0", x.ofFrame(1, 1), 9999);
        x.arrive(0, 0, 0, 30000);
        CHECK.due("the greatest of all", x.ofFrame(0, 1), 40000);
    }

    private static void historyOfThirtyTwo() {
        CHECK.sentence("HISTORY: the DELAYS of the last 32 ARRIVALS, this one counted.");
        SpurtClock x = new SpurtClock();
        for (int n = 0; n < 31; n++) {
            CHECK.come(x, n, 0, 0, n);
        }
        CHECK.due("31", x.many(5), 31);
        CHECK.due("the first of 31", x.history(30), 10000);
        CHECK.due("none ahead of it", x.history(31), -9);
        CHECK.come(x, 31, 0, 0, 31);
        CHECK.due("32", x.many(5), 32);
        CHECK.due("the first of 32", x.history(31), 10000);
        CHECK.come(x, 32, 0, 0, 32);
        CHECK.due("33 came", x.many(5), 32);
        CHECK.due("the first is gone", x.history(31), 10001);
        CHECK.due("the last is there", x.history(0), 10032);
        CHECK.due("a refused one is not in it", x.arrive(32, 0, 0, 30000), -3);
        CHECK.due("the last is there still", x.history(0), 10032);
        SpurtClock y = Check.with("share", 0);
        y.arrive(7, 7, 0, 190);
        CHECK.due("the very first is counted as its time is set", y.ofSpurt(0, 2), 10050);
    }

    private static void newObject() {
        CHECK.sentence("Nothing came; the MANNER is fixed with 60, MARGIN 0, JUMP 80, the TAPE is empty.");
        SpurtClock x = new SpurtClock();
        for (int what = 0; what <= 7; what++) {
            CHECK.due("many(" + what + ")", x.many(what), 0);
        }
        CHECK.due("no frame", x.ofFrame(0, 0), -1);
        CHECK.due("no spurt", x.ofSpurt(0, 0), -1);
        CHECK.due("no order", x.inOrder(0), -1);
        CHECK.due("no text", x.text(0, -1), -1);
        CHECK.due("no history", x.history(0), -9);
        CHECK.due("nothing was on the tape", x.wipe(), 0);
        CHECK.due("no word on it", x.manner(60), -1);
        CHECK.due("margin", new SpurtClock().margin(1), 0);
        CHECK.due("jump", new SpurtClock().jump(10), 80);
        SpurtClock y = new SpurtClock();
        y.arrive(0, 0, 0, 60);
        CHECK.due("60 is in time", y.ofFrame(0, 3), 60);
        CHECK.due("a jump of 79", CHECK.withDelays(0, 79).spike(0), 0);
        CHECK.due("a jump of 80", CHECK.withDelays(0, 80).spike(0), 1);
        CHECK.due("any time from 0 on", new SpurtClock().arrive(0, 0, 0, 0), 0);
    }

    private static void keyCodes() {
        CHECK.sentence("A code (0 .. 127) comes behind those of the TAPE: how many. OUTSIDE; FULL.");
        SpurtClock x = new SpurtClock();
        for (int code : new int[] {-1, 128, 255, LEAST, MOST}) {
            CHECK.due("key(" + code + ")", x.key(code), -2);
        }
        CHECK.due("none came onto the tape", x.many(6), 0);
        CHECK.due("key(0)", x.key(0), 1);
        CHECK.due("key(127)", x.key(127), 2);
        SpurtClock y = new SpurtClock();
        Check.type(y, "mea");
        CHECK.due("not yet a word", y.manner(0), -1);
        CHECK.due("behind those", y.key('n'), 4);
        CHECK.due("a word", y.manner(0), 4);
        CHECK.due("from the start again", y.key('n'), 1);
    }

    private static void keyFull() {
        CHECK.sentence("The TAPE has up to 8 codes");
        SpurtClock x = new SpurtClock();
        for (int i = 1; i <= 8; i++) {
            CHECK.due("key " + i, x.key('a'), i);
        }
        CHECK.due("the ninth", x.key('a'), -4);
        CHECK.due("0 is a code too", x.key(0), -4);
        CHECK.due("OUTSIDE is told first, below", x.key(-1), -2);
        CHECK.due("OUTSIDE is told first, above", x.key(128), -2);
        CHECK.due("8 stay", x.many(6), 8);
        CHECK.due("8 are wiped", x.wipe(), 8);
        CHECK.due("there is room again", x.key('a'), 1);
    }

    private static void wipes() {
        CHECK.sentence("The TAPE is empty: how many codes it had.");
        SpurtClock x = new SpurtClock();
        CHECK.due("of none", x.wipe(), 0);
        x.key(0);
        CHECK.due("of one", x.wipe(), 1);
        Check.type(x, "mean");
        CHECK.due("of a word", x.wipe(), 4);
        CHECK.due("the word is gone", x.manner(0), -1);
        CHECK.due("of none again", x.wipe(), 0);
    }

    private static void mannerTakesTheWord() {
        CHECK.sentence("The MANNER is that of the WORD on the TAPE (which is empty then), with a number k: "
                + "0 fixed, 1 share, 2 spike, 3 drift, 4 mean.");
        String[] words = {"fixed", "share", "spike", "drift", "mean"};
        for (int m = 0; m < words.length; m++) {
            SpurtClock x = new SpurtClock();
            Check.type(x, words[m]);
            CHECK.due(words[m], x.manner(7), m);
            CHECK.due(words[m] + " is off the tape", x.many(6), 0);
            CHECK.due(words[m] + " is not taken twice", x.manner(7), -1);
            CHECK.due(words[m] + " is the manner", x.word(0), words[m].charAt(0));
            x.arrive(0, 0, 0, 0);
            CHECK.due(words[m] + " sets the time", x.ofSpurt(0, 8), m);
        }
    }

    private static void mannerUnknown() {
        CHECK.sentence("what is on it is a WORD, if it is one of those above, as they stand.");
        String[] none = {"", "f", "fixe", "ixed", "fixeds", "fixedfix", "FIXED", "Mean", "mean ", " mean", "mean\0", "mea",
            "shar", "shares", "spik", "spikes", "drif", "drifts", "naem", "late", "sharp", "spiky", "draft", "moan"};
        for (String signs : none) {
            SpurtClock x = Check.with("spike", 3);
            Check.type(x, signs);
            CHECK.due("«" + signs + "»", x.manner(3), -1);
            CHECK.due("«" + signs + "» with a number that no word has", x.manner(5000), -1);
            CHECK.due("«" + signs + "» stays", x.wipe(), signs.length());
            CHECK.due("«" + signs + "» is not the manner", x.word(1), 'p');
        }
    }

    private static void mannerOutside() {
        CHECK.sentence("UNKNOWN: it is no WORD; OUTSIDE: k.");
        String[] words = {"fixed", "share", "spike", "drift", "mean"};
        int[][] edges = {{-500, 2000}, {0, 256}, {0, 256}, {0, 256}, {0, 8}};
        for (int m = 0; m < words.length; m++) {
            SpurtClock x = new SpurtClock();
            Check.type(x, words[m]);
            for (int k : new int[] {edges[m][0] - 1, edges[m][1] + 1, LEAST, MOST}) {
                CHECK.due(words[m] + " " + k, x.manner(k), -2);
                CHECK.due(words[m] + " stays on the tape", x.many(6), words[m].length());
                CHECK.due("fixed stays the manner", x.word(2), 'x');
            }
            CHECK.due(words[m] + " " + edges[m][0], x.manner(edges[m][0]), m);
            Check.type(x, words[m]);
            CHECK.due(words[m] + " " + edges[m][1], x.manner(edges[m][1]), m);
        }
        SpurtClock y = Check.with("fixed", -7);
        Check.type(y, "fixed");
        y.manner(2001);
        y.arrive(100, 100, 0, 0);
        CHECK.due("a refused number is not taken", y.ofSpurt(0, 2), 9993);
    }

    private static void margins() {
        CHECK.sentence("MARGIN becomes v (0 .. 200): what it was. OUTSIDE.");
        SpurtClock x = new SpurtClock();
        CHECK.due("margin(200)", x.margin(200), 0);
        for (int v : new int[] {-1, 201, LEAST, MOST}) {
            CHECK.due("margin(" + v + ")", x.margin(v), -2);
        }
        x.arrive(0, 0, 0, 0);
        CHECK.due("200 counts", x.ofSpurt(0, 2), 10260);
        CHECK.due("margin(0)", x.margin(0), 200);
        CHECK.due("margin(1)", x.margin(1), 0);
        CHECK.due("the time stays", x.ofSpurt(0, 2), 10260);
    }

    private static void jumps() {
        CHECK.sentence("JUMP becomes v (10 .. 1000): what it was. OUTSIDE.");
        SpurtClock x = new SpurtClock();
        CHECK.due("jump(10)", x.jump(10), 80);
        for (int v : new int[] {9, 0, -10, 1001, LEAST, MOST}) {
            CHECK.due("jump(" + v + ")", x.jump(v), -2);
        }
        CHECK.come(x, 0, 0, 0, 0);
        CHECK.come(x, 1, 0, 0, 9);
        CHECK.due("9 is no jump", x.spike(0), 0);
        CHECK.come(x, 2, 0, 0, 19);
        CHECK.due("10 is", x.spike(0), 1);
        CHECK.due("jump(1000)", x.jump(1000), 10);
        CHECK.due("jump(80)", x.jump(80), 1000);
        SpurtClock y = new SpurtClock();
        y.jump(1000);
        CHECK.come(y, 0, 0, 0, 0);
        CHECK.come(y, 1, 0, 0, 999);
        CHECK.due("999 is no jump", y.spike(0), 0);
        CHECK.come(y, 2, 0, 0, 1999);
        CHECK.due("1000 is", y.spike(0), 1);
    }

    private static void arriveOutside() {
        CHECK.sentence("OUTSIDE: n, head (0 .. n), pause (0 .. head), t (0 .. 30000);");
        int[][] wrong = {
            {-1, 0, 0, 0}, {300, 0, 0, 0}, {300, 300, 0, 0}, {LEAST, 0, 0, 0}, {MOST, 0, 0, 0},
            {7, -1, 0, 0}, {7, 8, 0, 0}, {7, LEAST, 0, 0}, {7, MOST, 0, 0}, {0, 1, 0, 0},
            {7, 5, -1, 0}, {7, 5, 6, 0}, {7, 5, 7, 0}, {7, 5, LEAST, 0}, {7, 5, MOST, 0}, {7, 0, 1, 0},
            {7, 5, 0, -1}, {7, 5, 0, 30001}, {7, 5, 0, LEAST}, {7, 5, 0, MOST}, {-1, -1, -1, -1}};
        for (int[] w : wrong) {
            SpurtClock x = new SpurtClock();
            CHECK.due(w[0] + ", " + w[1] + ", " + w[2] + ", " + w[3], x.arrive(w[0], w[1], w[2], w[3]), -2);
            CHECK.due("nothing came", x.many(0), 0);
        }
        int[][] right = {{0, 0, 0, 0}, {299, 0, 0, 0}, {299, 299, 0, 0}, {299, 299, 299, 0}, {7, 7, 7, 30000}, {7, 0, 0, 30000},
            {7, 5, 5, 0}, {7, 5, 0, 30000}};
        for (int[] r : right) {
            CHECK.due(r[0] + ", " + r[1] + ", " + r[2] + ", " + r[3], new SpurtClock().arrive(r[0], r[1], r[2], r[3]), 0);
        }
    }

    private static void arriveTooEarly() {
        CHECK.sentence("STATE: t is less than that of the latest ARRIVAL");
        SpurtClock x = new SpurtClock();
        x.arrive(0, 0, 0, 500);
        CHECK.due("one less", x.arrive(1, 0, 0, 499), -3);
        CHECK.due("0", x.arrive(1, 0, 0, 0), -3);
        CHECK.due("in a spurt of its own", x.arrive(9, 9, 0, 499), -3);
        CHECK.due("a refused one is not the latest", x.arrive(0, 0, 0, 900), -3);
        CHECK.due("the same", x.arrive(1, 0, 0, 500), 0);
        CHECK.due("the last of all times", x.arrive(2, 0, 0, 30000), 0);
        CHECK.due("and again", x.arrive(3, 0, 0, 30000), 0);
        CHECK.due("one less than that", x.arrive(4, 0, 0, 29999), -3);
    }

    private static void arriveTwice() {
        CHECK.sentence("FRAME n came already");
        SpurtClock x = new SpurtClock();
        x.arrive(0, 0, 0, 5);
        x.arrive(299, 299, 0, 6);
        CHECK.due("frame 0 at the same time", x.arrive(0, 0, 0, 6), -3);
        CHECK.due("frame 299 later", x.arrive(299, 299, 0, 700), -3);
        CHECK.due("frame 299 as of another spurt", x.arrive(299, 0, 0, 700), -3);
        CHECK.due("a late one came too", x.arrive(1, 0, 0, 900), 0);
        CHECK.due("the late one again", x.arrive(1, 0, 0, 900), -3);
        CHECK.due("one that was refused did not come", x.arrive(2, 0, 0, 800), -3);
        CHECK.due("so it can", x.arrive(2, 0, 0, 900), 0);
        x.anew();
        CHECK.due("nothing came already", x.arrive(0, 0, 0, 5), 0);
    }

    private static void arriveOtherPause() {
        CHECK.sentence("a SPURT with this HEAD has another PAUSE");
        SpurtClock x = new SpurtClock();
        x.arrive(10, 10, 3, 0);
        CHECK.due("one more", x.arrive(11, 10, 4, 0), -3);
        CHECK.due("one less", x.arrive(11, 10, 2, 0), -3);
        CHECK.due("none", x.arrive(11, 10, 0, 0), -3);
        CHECK.due("all", x.arrive(11, 10, 10, 0), -3);
        CHECK.due("the same", x.arrive(11, 10, 3, 0), 0);
        CHECK.due("its pause stays", x.ofSpurt(0, 1), 3);
        x.arrive(60, 60, 4, 0);
        CHECK.due("the same pause as another spurt", x.arrive(61, 60, 3, 0), -3);
    }

    private static void arriveInTheWay() {
        CHECK.sentence("another SPURT is IN THE WAY;");
        SpurtClock x = new SpurtClock();
        x.arrive(12, 10, 2, 0);
        CHECK.due("its head is less", x.arrive(14, 14, 2, 0), -3);
        CHECK.due("its head is more", x.arrive(8, 7, 0, 0), -3);
        CHECK.due("no spurt was made", x.many(1), 1);
        CHECK.due("no frame came", x.many(0), 1);
        CHECK.due("less, and not in the way", x.arrive(14, 14, 1, 0), 1);
        CHECK.due("more, and not in the way", x.arrive(7, 7, 0, 0), 2);
    }

    private static SpurtClock fullOnes() {
        SpurtClock x = new SpurtClock();
        for (int n = 0; n < 119; n++) {
            CHECK.come(x, n, 0, 0, 0);
        }
        return x;
    }

    private static void arriveFull() {
        CHECK.sentence("FULL: 120 FRAMES came.");
        SpurtClock x = fullOnes();
        CHECK.due("the 120th, of a new spurt", x.arrive(200, 200, 0, 4000), 1);
        CHECK.due("one more of a known spurt", x.arrive(119, 0, 0, 4000), -4);
        CHECK.due("one more of a new spurt", x.arrive(150, 150, 0, 4000), -4);
        CHECK.due("at the last time", x.arrive(150, 150, 0, 30000), -4);
        CHECK.due("STATE is told first: too early", x.arrive(119, 0, 0, 3999), -3);
        CHECK.due("STATE is told first: came already", x.arrive(118, 0, 0, 4000), -3);
        CHECK.due("STATE is told first: another pause", x.arrive(201, 200, 1, 4000), -3);
        CHECK.due("STATE is told first: in the way", x.arrive(150, 150, 32, 4000), -3);
        CHECK.due("OUTSIDE is told first", x.arrive(119, 0, 0, 30001), -2);
        CHECK.due("120 came", x.many(0), 120);
        CHECK.due("of two spurts", x.many(1), 2);
        CHECK.due("the latest stays", x.history(0), 10000);
        x.anew();
        CHECK.due("room again", x.arrive(150, 150, 0, 0), 0);
    }

    private static void anewCounts() {
        CHECK.sentence("Nothing came (MANNER, MARGIN, JUMP, the TAPE stay): how many FRAMES had.");
        SpurtClock x = new SpurtClock();
        CHECK.due("of none", x.anew(), 0);
        x.arrive(5, 3, 0, 500);
        x.arrive(5, 3, 0, 500);
        CHECK.due("of one, and one that was refused", x.anew(), 1);
        CHECK.due("of none again", x.anew(), 0);
        SpurtClock y = fullOnes();
        y.arrive(119, 0, 0, 4000);
        CHECK.due("of all", y.anew(), 120);
    }

    private static SpurtClock afterAnew() {
        SpurtClock x = Check.with("drift", 0);
        x.margin(20);
        x.jump(30);
        x.arrive(3, 3, 3, 100);
        x.arrive(4, 3, 3, 700);
        x.arrive(90, 80, 9, 1800);
        Check.type(x, "spike");
        x.anew();
        return x;
    }

    private static void anewForgets() {
        CHECK.sentence("Nothing came (");
        SpurtClock x = afterAnew();
        for (int what : new int[] {0, 1, 2, 3, 4, 5, 7}) {
            CHECK.due("many(" + what + ")", x.many(what), 0);
        }
        CHECK.due("no frame", x.ofFrame(3, 0), -1);
        CHECK.due("no spurt", x.ofSpurt(0, 0), -1);
        CHECK.due("no order", x.inOrder(0), -1);
        CHECK.due("no wish", x.wish(3), -3);
        CHECK.due("no spike", x.spike(0), 0);
        CHECK.due("no base", x.spike(1), -9);
        CHECK.due("none late", x.late(-10000), 0);
        CHECK.due("no history", x.history(0), -9);
        CHECK.due("no loss", x.loss(-10000), 0);
        CHECK.due("drift 0", x.drift(0), 0);
        CHECK.due("drift 1", x.drift(1), 1);
        CHECK.due("nothing waits", x.waiting(100), 0);
        CHECK.due("nothing plays", x.playing(700), -9);
        CHECK.due("no text", x.text(0, 0), -1);
        CHECK.due("earlier times, other pauses, no one in the way", x.arrive(60, 3, 0, 0), 0);
        CHECK.due("the first of all begins no spike", x.spike(0), 0);
        CHECK.due("one frame: no drift", x.drift(0), 0);
        CHECK.due("the head is missing again", x.ofSpurt(0, 6), 57);
    }

    private static void anewForgetsSpurts() {
        CHECK.sentence("Nothing came (");
        SpurtClock x = new SpurtClock();
        for (int n = 10; n < 20; n++) {
            CHECK.come(x, n, 3, 2, 60);
        }
        x.anew();
        CHECK.come(x, 4, 4, 1, 61);
        CHECK.come(x, 6, 4, 1, 60);
        long[] due = {4, 1, 10060, 2, 1, 1, 1, 6, 0};
        for (int what = 0; what < due.length; what++) {
            CHECK.due("the first spurt again, " + what, x.ofSpurt(0, what), due[what]);
        }
        CHECK.dueText("its text", Check.textOf(x, 0), "S4 fixed P60 -.+");
    }

    private static void anewForgetsDelays() {
        CHECK.sentence("Nothing came (");
        String[] words = {"share", "share", "mean", "mean", "drift", "spike"};
        int[] numbers = {0, 256, 0, 8, 0, 128};
        int[] due = {20, 10, 15, 55, 10, 10};
        for (int i = 0; i < words.length; i++) {
            SpurtClock x = Check.with(words[i], numbers[i]);
            for (int n = 0; n < 40; n++) {
                CHECK.come(x, n, 0, 0, 900 + 30 * n);
            }
            CHECK.holds("there is a wish", x.wish(0) > 10500);
            x.anew();
            CHECK.come(x, 0, 0, 0, 10);
            CHECK.come(x, 1, 0, 0, 20);
            CHECK.due(words[i] + " " + numbers[i] + " of 10 and 20", x.wish(0), 10000 + due[i]);
        }
    }

    private static void anewKeeps() {
        CHECK.sentence("(MANNER, MARGIN, JUMP, the TAPE stay)");
        SpurtClock x = afterAnew();
        CHECK.due("the word", x.word(0), 'd');
        CHECK.due("the tape", x.many(6), 5);
        x.arrive(0, 0, 0, 40);
        CHECK.due("manner and margin", x.ofSpurt(0, 2), 10060);
        x.arrive(1, 0, 0, 89);
        CHECK.due("29 is less than the jump", x.spike(0), 0);
        x.arrive(2, 0, 0, 139);
        CHECK.due("30 is the jump", x.spike(0), 1);
        CHECK.due("what the margin was", x.margin(0), 20);
        CHECK.due("what the jump was", x.jump(10), 30);
        CHECK.due("the word on the tape", x.manner(0), 2);
    }
}
