/** Promises 1 to 8: a new object, the tape, the settings, arrivals, and all anew. */
public final class FramesTest {
    private static final Check CHECK = new Check();

    public static void main(String[] args) {
        newObject();
        tape();
        manners();
        mannerRefusals();
        marginAndJump();
        arriveOutside();
        arriveState();
        arriveInTheWay();
        arriveFull();
        refusedArrivalChangesNothing();
        allAnew();
        CHECK.end();
    }

    private static void newObject() {
        SpurtClock x = new SpurtClock();
        for (int what = 0; what <= 7; what++) {
            CHECK.due("new many(" + what + ")", x.many(what), 0);
        }
        CHECK.due("new margin", x.margin(0), 0);
        CHECK.due("new jump", x.jump(80), 80);
        CHECK.due("new word", x.word(0), 'f');
        CHECK.due("new spike", x.spike(0), 0);
        CHECK.due("new arrive", x.arrive(0, 0, 0, 61), 0);
        CHECK.due("new TIME is fixed 60", x.ofSpurt(0, 2), 10060);
        CHECK.due("new wish", x.wish(0), 10060);
        CHECK.due("UNKNOWN", SpurtClock.UNKNOWN, -1);
        CHECK.due("OUTSIDE", SpurtClock.OUTSIDE, -2);
        CHECK.due("STATE", SpurtClock.STATE, -3);
        CHECK.due("FULL", SpurtClock.FULL, -4);
        CHECK.due("NONE", SpurtClock.NONE, -9);
        CHECK.due("LOST", SpurtClock.LOST, Long.MIN_VALUE);
    }

    private static void tape() {
        SpurtClock x = new SpurtClock();
        CHECK.due("wipe of an empty tape", x.wipe(), 0);
        CHECK.due("key -1", x.key(-1), -2);
        CHECK.due("key 128", x.key(128), -2);
        CHECK.due("key least", x.key(Integer.MIN_VALUE), -2);
        CHECK.due("many after refusals", x.many(6), 0);
        int[] codes = {0, 127, 32, 65, 97, 98, 99, 100};
        for (int i = 0; i < codes.length; i++) {
            CHECK.due("key " + codes[i], x.key(codes[i]), i + 1);
        }
        CHECK.due("key into a full tape", x.key(65), -4);
        CHECK.due("OUTSIDE goes ahead of FULL", x.key(128), -2);
        CHECK.due("many on a full tape", x.many(6), 8);
        CHECK.due("wipe of a full tape", x.wipe(), 8);
        CHECK.due("wipe again", x.wipe(), 0);
        CHECK.due("key after wipe", x.key(65), 1);
    }

    private static void manners() {
        String[] words = {"fixed", "share", "spike", "drift", "mean"};
        int[] least = {-500, 0, 0, 0, 0};
        int[] greatest = {2000, 256, 256, 256, 8};
        for (int m = 0; m < words.length; m++) {
            SpurtClock x = new SpurtClock();
            Check.type(x, words[m]);
            CHECK.due(words[m] + " below", x.manner(least[m] - 1), -2);
            CHECK.due(words[m] + " above", x.manner(greatest[m] + 1), -2);
            CHECK.due(words[m] + " stays on the tape", x.many(6), words[m].length());
            CHECK.due(words[m] + " least", x.manner(least[m]), m);
            CHECK.due(words[m] + " is off the tape", x.many(6), 0);
            CHECK.due(words[m] + " with an empty tape", x.manner(least[m]), -1);
            CHECK.due(words[m] + " greatest", Check.take(x, words[m], greatest[m]), m);
            CHECK.due(words[m] + " is the word", x.word(1), words[m].charAt(1));
        }
    }

    private static void mannerRefusals() {
        String[] none = {"", "fixe", "fixedx", "Fixed", "fixed ", " mean", "mea", "meanx", "shard", "spike\0", "drifts"};
        for (String signs : none) {
            SpurtClock x = new SpurtClock();
            Check.take(x, "share", 17);
            Check.type(x, signs);
            CHECK.due("manner of «" + signs + "»", x.manner(5), -1);
            CHECK.due("UNKNOWN goes ahead of OUTSIDE «" + signs + "»", x.manner(5000), -1);
            CHECK.due("tape stays «" + signs + "»", x.many(6), signs.length());
            CHECK.due("word stays «" + signs + "»", x.word(2), 'a');
        }
        SpurtClock x = new SpurtClock();
        Check.take(x, "fixed", -500);
        Check.type(x, "fixed");
        x.manner(2001);
        x.arrive(50, 50, 0, 0);
        CHECK.due("a refused number changes nothing", x.ofSpurt(0, 2), 9500);
    }

    private static void marginAndJump() {
        SpurtClock x = new SpurtClock();
        CHECK.due("margin 200", x.margin(200), 0);
        CHECK.due("margin 201", x.margin(201), -2);
        CHECK.due("margin -1", x.margin(-1), -2);
        x.arrive(0, 0, 0, 0);
        CHECK.due("MARGIN is in TIME", x.ofSpurt(0, 2), 10260);
        CHECK.due("MARGIN is not in wish", x.wish(0), 10060);
        CHECK.due("margin 7", x.margin(7), 200);
        CHECK.due("margin 0", x.margin(0), 7);
        CHECK.due("TIME stays", x.ofSpurt(0, 2), 10260);
        CHECK.due("jump 9", x.jump(9), -2);
        CHECK.due("jump 1001", x.jump(1001), -2);
        CHECK.due("jump 10", x.jump(10), 80);
        CHECK.due("jump 1000", x.jump(1000), 10);
        CHECK.due("jump 80", x.jump(80), 1000);
    }

    private static void arriveOutside() {
        SpurtClock x = new SpurtClock();
        int[][] wrong = {
            {-1, 0, 0, 0}, {300, 0, 0, 0}, {5, 6, 0, 0}, {5, -1, 0, 0}, {5, 3, 4, 0}, {5, 3, -1, 0}, {5, 3, 3, -1},
            {5, 3, 3, 30001}, {Integer.MIN_VALUE, 0, 0, 0}, {Integer.MAX_VALUE, 0, 0, 0},
            {5, Integer.MIN_VALUE, Integer.MIN_VALUE, 0}, {-1, -1, -1, -1}};
        for (int[] w : wrong) {
            CHECK.due("arrive outside " + w[0] + " " + w[1] + " " + w[2] + " " + w[3], x.arrive(w[0], w[1], w[2], w[3]), -2);
        }
        CHECK.due("nothing came", x.many(0), 0);
        CHECK.due("the least", x.arrive(0, 0, 0, 0), 0);
        CHECK.due("the greatest", x.arrive(299, 299, 298, 30000), 1);
        CHECK.due("OUTSIDE goes ahead of STATE", x.arrive(0, 0, 0, 30001), -2);
        x.anew();
        CHECK.due("all pause", x.arrive(299, 299, 299, 0), 0);
    }

    private static void arriveState() {
        SpurtClock x = new SpurtClock();
        CHECK.due("first", x.arrive(5, 4, 2, 100), 0);
        CHECK.due("earlier", x.arrive(6, 4, 2, 99), -3);
        CHECK.due("at once", x.arrive(6, 4, 2, 100), 0);
        CHECK.due("again", x.arrive(5, 4, 2, 120), -3);
        CHECK.due("again as a spurt of its own", x.arrive(5, 5, 0, 120), -3);
        CHECK.due("another pause", x.arrive(7, 4, 1, 120), -3);
        CHECK.due("another pause", x.arrive(7, 4, 3, 120), -3);
        CHECK.due("the same pause", x.arrive(7, 4, 2, 120), 0);
    }

    private static void arriveInTheWay() {
        SpurtClock x = new SpurtClock();
        x.arrive(10, 10, 0, 0);
        x.arrive(13, 10, 0, 0);
        CHECK.due("the one ahead reaches into the pause", x.arrive(20, 17, 4, 0), -3);
        CHECK.due("the one ahead ends just ahead of the pause", x.arrive(20, 17, 3, 0), 1);
        CHECK.due("into the pause of the one behind", x.arrive(14, 10, 0, 0), -3);
        CHECK.due("beyond the one behind", x.arrive(30, 10, 0, 0), -3);
        CHECK.due("just ahead of the pause: nothing is left of it", x.arrive(12, 10, 0, 0), 0);
        CHECK.due("a head within", x.arrive(12, 12, 0, 0), -3);
        CHECK.due("a head within, missing", x.arrive(11, 11, 0, 0), -3);
        CHECK.due("a new one ahead, in the pause", x.arrive(10, 9, 0, 0), -3);
        CHECK.due("a new one ahead", x.arrive(9, 8, 8, 0), 2);
        CHECK.due("a new one behind, far", x.arrive(299, 21, 0, 0), 3);
        CHECK.due("the one ahead may not fill up to it", x.arrive(21, 17, 3, 0), -3);
        CHECK.due("two ahead reach into the pause", x.arrive(16, 16, 8, 0), -3);
    }

    private static void arriveFull() {
        SpurtClock x = new SpurtClock();
        for (int n = 0; n < 120; n++) {
            CHECK.due("arrive " + n, x.arrive(2 * n, 2 * n, 0, 10 * n), n);
        }
        CHECK.due("one more", x.arrive(250, 250, 0, 3000), -4);
        CHECK.due("STATE goes ahead of FULL: too early", x.arrive(250, 250, 0, 0), -3);
        CHECK.due("STATE goes ahead of FULL: again", x.arrive(0, 0, 0, 3000), -3);
        CHECK.due("STATE goes ahead of FULL: in the way", x.arrive(250, 250, 20, 3000), -3);
        CHECK.due("OUTSIDE goes ahead of FULL", x.arrive(300, 250, 0, 3000), -2);
        CHECK.due("how many came", x.many(0), 120);
        CHECK.due("how many spurts", x.many(1), 120);
        CHECK.due("the last in order", x.inOrder(119), 119);
        CHECK.due("none behind the last", x.inOrder(120), -1);
        CHECK.due("anew", x.anew(), 120);
        CHECK.due("after anew", x.arrive(250, 250, 0, 0), 0);
    }

    private static void refusedArrivalChangesNothing() {
        SpurtClock x = new SpurtClock();
        x.arrive(10, 10, 2, 210);
        x.arrive(11, 10, 2, 180);
        x.arrive(12, 10, 1, 5000);
        x.arrive(10, 10, 2, 5000);
        x.arrive(9, 9, 0, 5000);
        x.arrive(20, 20, 10, 5000);
        CHECK.due("frames", x.many(0), 1);
        CHECK.due("spurts", x.many(1), 1);
        CHECK.due("history", x.many(5), 1);
        CHECK.due("spikes", x.many(7), 0);
        CHECK.due("the latest time", x.arrive(11, 10, 2, 210), 0);
    }

    private static void allAnew() {
        SpurtClock x = new SpurtClock();
        CHECK.due("anew of nothing", x.anew(), 0);
        Check.take(x, "share", 0);
        x.margin(5);
        x.jump(10);
        Check.type(x, "mean");
        x.arrive(10, 10, 2, 210);
        x.arrive(11, 10, 2, 300);
        x.arrive(40, 40, 2, 900);
        CHECK.due("a spike is on", x.spike(0), 1);
        CHECK.due("anew", x.anew(), 3);
        for (int what = 0; what <= 5; what++) {
            CHECK.due("many after anew " + what, x.many(what), 0);
        }
        CHECK.due("the tape stays", x.many(6), 4);
        CHECK.due("no spike began", x.many(7), 0);
        CHECK.due("no spike is on", x.spike(0), 0);
        CHECK.due("no base", x.spike(1), -9);
        CHECK.due("no frame", x.ofFrame(10, 0), -1);
        CHECK.due("no spurt", x.ofSpurt(0, 0), -1);
        CHECK.due("no history", x.history(0), -9);
        CHECK.due("no drift", x.drift(0), 0);
        CHECK.due("no drift", x.drift(1), 1);
        CHECK.due("no wish", x.wish(0), -3);
        CHECK.due("nothing waits", x.waiting(300), 0);
        CHECK.due("earlier times", x.arrive(11, 11, 0, 1000), 0);
        CHECK.due("manner and margin stay", x.ofSpurt(0, 2), 10785);
        CHECK.due("the first of all begins no spike", x.spike(0), 0);
        CHECK.due("one came of the spurt", x.ofSpurt(0, 3), 1);
        CHECK.due("greatest", x.ofSpurt(0, 7), 11);
        CHECK.due("played", x.ofSpurt(0, 4), 1);
        CHECK.due("one frame, no drift", x.drift(0), 0);
        CHECK.due("one frame, no drift", x.drift(1), 1);
        x.arrive(12, 11, 0, 1030);
        CHECK.due("jump stays", x.spike(1), 10780);
        CHECK.due("the tape", x.manner(3), 4);
    }
}
