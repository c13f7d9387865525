import java.io.IOException;

/** Part 4 and promises 20 to 22: each sentence of the document that names an edge, with a test of its own. */
public final class TextEdgesTest {
    private static final Check CHECK = new Check();
    private static final int LEAST = Integer.MIN_VALUE;
    private static final int MOST = Integer.MAX_VALUE;

    public static void main(String[] args) throws IOException {
        CHECK.readDocument(args);
        framesOfText();
        wordOfText();
        headsInFigures();
        timesInFigures();
        codes();
        textSigns();
        textRefused();
        longestText();
        wordEdges();
        manyEdges();
        manyOfNothing();
        constants();
        CHECK.end();
    }

    private static void framesOfText() {
        CHECK.sentence("then for each FRAME from its HEAD to the greatest that came: + PLAYED, - LATE, . MISSING.");
        SpurtClock x = new SpurtClock();
        x.arrive(9, 9, 0, 240);
        CHECK.dueText("the head alone, just in time", Check.textOf(x, 0), "S9 fixed P60 +");
        SpurtClock y = new SpurtClock();
        y.arrive(9, 9, 0, 241);
        CHECK.dueText("the head alone, late", Check.textOf(y, 0), "S9 fixed P60 -");
        SpurtClock z = new SpurtClock();
        z.arrive(11, 9, 0, 280);
        CHECK.dueText("the head is missing", Check.textOf(z, 0), "S9 fixed P60 ..+");
        z.arrive(10, 9, 0, 280);
        CHECK.dueText("one came late", Check.textOf(z, 0), "S9 fixed P60 .-+");
        z.arrive(13, 9, 0, 400);
        CHECK.dueText("the greatest is late", Check.textOf(z, 0), "S9 fixed P60 .-+.-");
        z.arrive(20, 20, 0, 460);
        CHECK.dueText("another spurt is no matter", Check.textOf(z, 0), "S9 fixed P60 .-+.-");
        CHECK.dueText("the other", Check.textOf(z, 1), "S20 fixed P60 +");
    }

    private static void wordOfText() {
        CHECK.sentence("the WORD of the MANNER by which its TIME was set;");
        SpurtClock x = Check.with("mean", 0);
        x.arrive(0, 0, 0, 5);
        Check.take(x, "drift", 0);
        CHECK.dueText("set by mean", Check.textOf(x, 0), "S0 mean P5 +");
        x.arrive(1, 0, 0, 25);
        CHECK.dueText("a later one does not set it", Check.textOf(x, 0), "S0 mean P5 ++");
        x.arrive(5, 5, 1, 105);
        CHECK.dueText("set by drift", Check.textOf(x, 1), "S5 drift P5 +");
        Check.take(x, "fixed", 2000);
        x.arrive(3, 3, 0, 105);
        CHECK.dueText("the manner, also if the time was moved", Check.textOf(x, 2), "S3 fixed P25 -");
    }

    private static void headsInFigures() {
        CHECK.sentence("TEXT of a SPURT: S and its HEAD; a blank;");
        for (int head : new int[] {0, 1, 9, 10, 11, 99, 100, 101, 109, 110, 200, 299}) {
            SpurtClock x = new SpurtClock();
            x.arrive(head, head, 0, 0);
            CHECK.dueText("head " + head, Check.textOf(x, 0), "S" + head + " fixed P60 +");
        }
    }

    private static void timesInFigures() {
        CHECK.sentence("Numbers are written in figures, below 0 with a - ahead.");
        for (int time : new int[] {-500, -100, -99, -10, -9, -1, 0, 1, 9, 10, 99, 100, 999, 1000, 1001, 2000}) {
            SpurtClock x = Check.with("fixed", time);
            x.arrive(100, 100, 0, 0);
            CHECK.dueText("time " + time, Check.textOf(x, 0), "S100 fixed P" + time + " +");
        }
        SpurtClock high = Check.with("share", 0);
        high.arrive(0, 0, 0, 30000);
        CHECK.dueText("five figures", Check.textOf(high, 0), "S0 share P30000 +");
        SpurtClock low = new SpurtClock();
        low.arrive(201, 201, 0, 0);
        low.arrive(299, 299, 0, 30000);
        Check.take(low, "drift", 256);
        low.arrive(200, 0, 0, 30000);
        CHECK.due("14020 by 49 a frame, upper", low.drift(0), 14020);
        CHECK.due("14020 by 49 a frame, lower", low.drift(1), 49);
        CHECK.due("TIME of -61530: below any refusal, and none", low.ofSpurt(2, 2), -51530);
        CHECK.dueText("five figures below 0", Check.textOf(low, 2), "S0 drift P-61530 " + ".".repeat(200) + "-");
    }

    private static void codes() {
        CHECK.sentence("(Codes: S 83, P 80, blank 32, + 43, - 45, . 46, figures 48 .. 57, letters a .. z 97 .. 122.)");
        SpurtClock x = Check.with("fixed", -59);
        x.arrive(102, 100, 0, 0);
        x.arrive(101, 100, 0, 2000);
        int[] due = {83, 49, 48, 48, 32, 102, 105, 120, 101, 100, 32, 80, 45, 53, 57, 32, 46, 45, 43, -9};
        for (int i = 0; i < due.length; i++) {
            CHECK.due("sign " + i, x.text(0, i), due[i]);
        }
    }

    private static void textSigns() {
        CHECK.sentence("The code of sign i of the TEXT of SPURT k; NONE: it has not so many; i -1: how many signs it has.");
        SpurtClock x = new SpurtClock();
        x.arrive(3, 3, 0, 100);
        x.arrive(30, 30, 0, 600);
        CHECK.due("how many", x.text(0, -1), 14);
        CHECK.due("the first", x.text(0, 0), 'S');
        CHECK.due("the last", x.text(0, 13), '+');
        CHECK.due("not so many", x.text(0, 14), -9);
        CHECK.due("not so many", x.text(0, 399), -9);
        CHECK.due("how many of the other", x.text(1, -1), 15);
        CHECK.due("the last of the other", x.text(1, 14), '+');
        x.arrive(4, 3, 0, 600);
        CHECK.due("one more", x.text(0, -1), 15);
        CHECK.due("one more", x.text(0, 14), '-');
    }

    private static void textRefused() {
        CHECK.sentence("UNKNOWN; OUTSIDE: i (-1 .. 399).");
        SpurtClock x = new SpurtClock();
        CHECK.due("no spurt", x.text(0, 0), -1);
        CHECK.due("no spurt, how many", x.text(0, -1), -1);
        CHECK.due("UNKNOWN is told first", x.text(0, 400), -1);
        CHECK.due("UNKNOWN is told first", x.text(0, -2), -1);
        x.arrive(3, 3, 0, 100);
        for (int k : new int[] {-1, 1, 120, LEAST, MOST}) {
            CHECK.due("spurt " + k, x.text(k, 0), -1);
            CHECK.due("spurt " + k + ", how many", x.text(k, -1), -1);
        }
        for (int i : new int[] {-2, 400, LEAST, MOST}) {
            CHECK.due("sign " + i, x.text(0, i), -2);
        }
        CHECK.due("sign -1", x.text(0, -1), 14);
        CHECK.due("sign 399", x.text(0, 399), -9);
    }

    private static void longestText() {
        CHECK.sentence("FRAME from its HEAD to the greatest that came");
        SpurtClock x = Check.with("fixed", -500);
        x.arrive(299, 0, 0, 0);
        CHECK.due("14 and 300", x.text(0, -1), 315);
        CHECK.due("the last", x.text(0, 314), '+');
        CHECK.due("the last but one", x.text(0, 313), '.');
        CHECK.due("the first", x.text(0, 15), '.');
        CHECK.due("none behind the last", x.text(0, 315), -9);
        CHECK.due("none behind the last", x.text(0, 399), -9);
        CHECK.due("the last of all", x.text(0, 400), -2);
    }

    private static void wordEdges() {
        CHECK.sentence("The code of sign i (0 .. 4) of the WORD of the MANNER; NONE: it has not so many. OUTSIDE.");
        for (String word : new String[] {"fixed", "share", "spike", "drift", "mean"}) {
            SpurtClock x = Check.with(word, 0);
            for (int i = 0; i < 5; i++) {
                CHECK.due(word + " " + i, x.word(i), i < word.length() ? word.charAt(i) : -9);
            }
            for (int i : new int[] {-1, 5, LEAST, MOST}) {
                CHECK.due(word + " " + i, x.word(i), -2);
            }
        }
        SpurtClock y = Check.with("mean", 0);
        Check.type(y, "fixed");
        CHECK.due("what is on the tape is not the manner yet", y.word(4), -9);
    }

    private static void manyEdges() {
        CHECK.sentence("How many: 0 FRAMES that came, 1 SPURTS, 2 PLAYED, 3 LATE, 4 MISSING, 5 DELAYS in the HISTORY, "
                + "6 codes on the TAPE, 7 SPIKES that began. OUTSIDE.");
        SpurtClock x = new SpurtClock();
        for (int what : new int[] {-1, 8, LEAST, MOST}) {
            CHECK.due("many(" + what + ")", x.many(what), -2);
        }
        for (int n = 1; n <= 40; n++) {
            CHECK.come(x, n, 0, 0, 60);
        }
        for (int n = 102; n < 182; n++) {
            CHECK.come(x, n, 100, 0, 140);
        }
        Check.type(x, "12345678");
        x.key('9');
        x.arrive(200, 200, 0, 30000);
        long[] due = {120, 2, 40, 80, 1 + 2, 32, 8, 1};
        for (int what = 0; what < due.length; what++) {
            CHECK.due("many(" + what + ")", x.many(what), due[what]);
        }
        for (int what : new int[] {-1, 8, LEAST, MOST}) {
            CHECK.due("many(" + what + ") of the full", x.many(what), -2);
        }
    }

    private static void manyOfNothing() {
        CHECK.sentence("How many: 0 FRAMES that came,");
        for (int what = 0; what < 8; what++) {
            CHECK.due("many(" + what + ")", new SpurtClock().many(what), 0);
        }
        SpurtClock spikes = new SpurtClock();
        spikes.jump(10);
        for (int i = 0; i < 30; i++) {
            CHECK.come(spikes, 2 * i, 0, 0, 0);
            CHECK.come(spikes, 2 * i + 1, 0, 0, 10);
        }
        CHECK.due("thirty spikes", spikes.many(7), 30);
        CHECK.due("the last is on", spikes.spike(0), 1);
    }

    private static void constants() {
        CHECK.sentence("UNKNOWN = -1, OUTSIDE = -2, STATE = -3, FULL = -4, NONE = -9;");
        CHECK.due("UNKNOWN", SpurtClock.UNKNOWN, -1);
        CHECK.due("OUTSIDE", SpurtClock.OUTSIDE, -2);
        CHECK.due("STATE", SpurtClock.STATE, -3);
        CHECK.due("FULL", SpurtClock.FULL, -4);
        CHECK.due("NONE", SpurtClock.NONE, -9);
        CHECK.sentence("LOST = Long.MIN_VALUE;");
        CHECK.due("LOST", SpurtClock.LOST, Long.MIN_VALUE);
    }
}
