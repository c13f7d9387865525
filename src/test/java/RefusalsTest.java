import java.io.IOException;
import java.util.ArrayList;
import java.util.List;
import java.util.function.Consumer;
import java.util.function.ToLongFunction;

/**
 * The refusals of every call: their order, and that they change nothing. Each refused call is made on an object
 * whose twin is spared it; whatever both are asked or told then, they must answer the same.
 */
public final class RefusalsTest {
    private static final Check CHECK = new Check();
    private static final int LEAST = Integer.MIN_VALUE;
    private static final int MOST = Integer.MAX_VALUE;

    /** One call that is refused, and what it must answer. */
    private record Refused(String call, ToLongFunction<SpurtClock> made, long due) { }

    public static void main(String[] args) throws IOException {
        CHECK.readDocument(args);
        ordered();
        lostForALong();
        changeNothing("a new one", x -> { }, onNew());
        changeNothing("one with a few", RefusalsTest::few, onFew());
        changeNothing("a full one", RefusalsTest::full, onFull());
        CHECK.end();
    }

    /** Two spurts, a spike that is on, a word on the tape that is no word. */
    private static void few(SpurtClock x) {
        Check.take(x, "share", 64);
        x.margin(5);
        x.jump(30);
        x.arrive(10, 10, 4, 210);
        x.arrive(12, 10, 4, 260);
        x.arrive(40, 40, 9, 900);
        Check.type(x, "mea");
    }

    private static void full(SpurtClock x) {
        for (int n = 0; n < 120; n++) {
            x.arrive(n + n / 10 * 5, n / 10 * 15, n < 10 ? 0 : 3, 25 * n + 100);
        }
        Check.type(x, "fixedfix");
    }

    private static void ordered() {
        CHECK.sentence("REFUSALS, in the order in which a call's line tells them: UNKNOWN (there is no such FRAME, SPURT, WORD), "
                + "OUTSIDE (another number is not as told), STATE (as told), FULL;");
        SpurtClock x = new SpurtClock();
        full(x);
        CHECK.due("120 came", x.many(0), 120);
        CHECK.due("key: OUTSIDE, then FULL", x.key(128), -2);
        CHECK.due("key: FULL", x.key(127), -4);
        CHECK.due("manner: UNKNOWN, then OUTSIDE", x.manner(2001), -1);
        CHECK.due("arrive: OUTSIDE, then STATE and FULL", x.arrive(0, 0, 0, -1), -2);
        CHECK.due("arrive: STATE, then FULL", x.arrive(250, 250, 0, 0), -3);
        CHECK.due("arrive: FULL", x.arrive(250, 250, 0, 9000), -4);
        CHECK.due("ofFrame: UNKNOWN, then OUTSIDE", x.ofFrame(250, 5), -1);
        CHECK.due("ofSpurt: UNKNOWN, then OUTSIDE", x.ofSpurt(12, 9), -1);
        CHECK.due("text: UNKNOWN, then OUTSIDE", x.text(12, 400), -1);
        x.anew();
        CHECK.due("wish: OUTSIDE, then STATE", x.wish(300), -2);
        CHECK.due("wish: STATE", x.wish(299), -3);
    }

    private static void lostForALong() {
        CHECK.sentence("LOST is answered for refusals, where a long is.");
        CHECK.due("drift(2)", new SpurtClock().drift(2), Long.MIN_VALUE);
        CHECK.due("drift(-1)", new SpurtClock().drift(-1), Long.MIN_VALUE);
    }

    private static List<Refused> onAny() {
        List<Refused> all = new ArrayList<>();
        for (int wrong : new int[] {LEAST, -1, 128, MOST}) {
            all.add(new Refused("key(" + wrong + ")", x -> x.key(wrong), -2));
        }
        for (int wrong : new int[] {LEAST, -1, 201, MOST}) {
            all.add(new Refused("margin(" + wrong + ")", x -> x.margin(wrong), -2));
        }
        for (int wrong : new int[] {LEAST, 9, 1001, MOST}) {
            all.add(new Refused("jump(" + wrong + ")", x -> x.jump(wrong), -2));
        }
        for (int wrong : new int[] {LEAST, -1, 300, MOST}) {
            all.add(new Refused("arrive(" + wrong + ", 0, 0, 5000)", x -> x.arrive(wrong, 0, 0, 5000), -2));
            all.add(new Refused("arrive(250, " + wrong + ", 0, 5000)", x -> x.arrive(250, wrong, 0, 5000), -2));
            all.add(new Refused("arrive(250, 250, " + wrong + ", 5000)", x -> x.arrive(250, 250, wrong, 5000), -2));
            all.add(new Refused("ofFrame(" + wrong + ", 0)", x -> x.ofFrame(wrong, 0), -1));
            all.add(new Refused("ofSpurt(" + wrong + ", 0)", x -> x.ofSpurt(wrong, 0), -1));
            all.add(new Refused("inOrder(" + wrong + ")", x -> x.inOrder(wrong), -1));
            all.add(new Refused("wish(" + wrong + ")", x -> x.wish(wrong), -2));
            all.add(new Refused("spike(" + wrong + ")", x -> x.spike(wrong), -2));
            all.add(new Refused("history(" + wrong + ")", x -> x.history(wrong), -2));
            all.add(new Refused("drift(" + wrong + ")", x -> x.drift(wrong), Long.MIN_VALUE));
            all.add(new Refused("text(" + wrong + ", 0)", x -> x.text(wrong, 0), -1));
            all.add(new Refused("word(" + wrong + ")", x -> x.word(wrong), -2));
            all.add(new Refused("many(" + wrong + ")", x -> x.many(wrong), -2));
        }
        for (int wrong : new int[] {LEAST, -1, 30001, MOST}) {
            all.add(new Refused("arrive(250, 250, 0, " + wrong + ")", x -> x.arrive(250, 250, 0, wrong), -2));
        }
        for (int wrong : new int[] {LEAST, -10001, 40001, MOST}) {
            all.add(new Refused("late(" + wrong + ")", x -> x.late(wrong), -2));
            all.add(new Refused("loss(" + wrong + ")", x -> x.loss(wrong), -2));
        }
        for (int wrong : new int[] {LEAST, -1, 100001, MOST}) {
            all.add(new Refused("waiting(" + wrong + ")", x -> x.waiting(wrong), -2));
            all.add(new Refused("playing(" + wrong + ")", x -> x.playing(wrong), -2));
        }
        all.add(new Refused("manner(60), no word", x -> x.manner(60), -1));
        return all;
    }

    private static List<Refused> onNew() {
        List<Refused> all = onAny();
        all.add(new Refused("wish(0)", x -> x.wish(0), -3));
        all.add(new Refused("ofFrame(0, 0)", x -> x.ofFrame(0, 0), -1));
        all.add(new Refused("text(0, -1)", x -> x.text(0, -1), -1));
        return all;
    }

    private static List<Refused> onFew() {
        List<Refused> all = onAny();
        all.add(new Refused("too early", x -> x.arrive(41, 40, 9, 899), -3));
        all.add(new Refused("too early, a new spurt", x -> x.arrive(200, 200, 9, 899), -3));
        all.add(new Refused("came already", x -> x.arrive(12, 10, 4, 5000), -3));
        all.add(new Refused("came already, a new spurt", x -> x.arrive(12, 12, 0, 5000), -3));
        all.add(new Refused("another pause", x -> x.arrive(13, 10, 3, 5000), -3));
        all.add(new Refused("in the way, ahead", x -> x.arrive(20, 20, 8, 5000), -3));
        all.add(new Refused("in the way, behind", x -> x.arrive(31, 20, 0, 5000), -3));
        all.add(new Refused("in the way, behind, a known spurt", x -> x.arrive(35, 10, 4, 5000), -3));
        all.add(new Refused("ofFrame(12, 5)", x -> x.ofFrame(12, 5), -2));
        all.add(new Refused("ofSpurt(1, 9)", x -> x.ofSpurt(1, 9), -2));
        all.add(new Refused("text(1, 400)", x -> x.text(1, 400), -2));
        all.add(new Refused("text(1, -2)", x -> x.text(1, -2), -2));
        return all;
    }

    private static List<Refused> onFull() {
        List<Refused> all = onAny();
        all.add(new Refused("key(65), full", x -> x.key(65), -4));
        all.add(new Refused("full, a new spurt", x -> x.arrive(250, 250, 0, 5000), -4));
        all.add(new Refused("full, a known spurt", x -> x.arrive(175, 165, 3, 5000), -4));
        all.add(new Refused("too early", x -> x.arrive(250, 250, 0, 0), -3));
        all.add(new Refused("came already", x -> x.arrive(0, 0, 0, 5000), -3));
        return all;
    }

    private static void changeNothing(String state, Consumer<SpurtClock> setUp, List<Refused> all) {
        CHECK.sentence("they change nothing.");
        List<Consumer<Asked>> questions = List.of(
                RefusalsTest::askSettings, RefusalsTest::askTables, RefusalsTest::askFrames, RefusalsTest::askSpurts,
                RefusalsTest::askTexts, RefusalsTest::goOn, RefusalsTest::takeWord, RefusalsTest::askAfterAnew);
        for (Consumer<Asked> question : questions) {
            List<Long> due = answers(setUp, x -> 0, question).all;
            for (Refused refused : all) {
                Asked asked = answers(setUp, refused.made, question);
                String call = state + ", " + refused.call;
                CHECK.due(call, asked.first, refused.due);
                CHECK.holds(call + " changes nothing: " + asked.all + " for " + due, asked.all.equals(due));
            }
        }
    }

    private static Asked answers(Consumer<SpurtClock> setUp, ToLongFunction<SpurtClock> call, Consumer<Asked> question) {
        Asked asked = new Asked();
        setUp.accept(asked.clock);
        asked.first = call.applyAsLong(asked.clock);
        question.accept(asked);
        return asked;
    }

    /** An object, and all that it answered. */
    private static final class Asked {
        final SpurtClock clock = new SpurtClock();
        final List<Long> all = new ArrayList<>();
        long first;

        void add(long answer) {
            all.add(answer);
        }
    }

    private static void askSettings(Asked a) {
        for (int what = 0; what < 8; what++) {
            a.add(a.clock.many(what));
        }
        for (int i = 0; i < 5; i++) {
            a.add(a.clock.word(i));
        }
        a.add(a.clock.spike(0));
        a.add(a.clock.spike(1));
        a.add(a.clock.margin(0));
        a.add(a.clock.jump(80));
        a.add(a.clock.wipe());
    }

    private static void askTables(Asked a) {
        for (int k = 0; k < 32; k++) {
            a.add(a.clock.history(k));
        }
        for (int v = -200; v <= 1500; v += 50) {
            a.add(a.clock.late(v));
            a.add(a.clock.loss(v));
        }
        a.add(a.clock.drift(0));
        a.add(a.clock.drift(1));
        for (int h = 0; h < 300; h += 23) {
            a.add(a.clock.wish(h));
        }
        for (int t = 0; t < 4000; t += 90) {
            a.add(a.clock.waiting(t));
            a.add(a.clock.playing(t));
        }
    }

    private static void askFrames(Asked a) {
        for (int n = 0; n < 300; n++) {
            a.add(a.clock.ofFrame(n, n % 5));
        }
    }

    private static void askSpurts(Asked a) {
        for (int k = 0; k < 14; k++) {
            a.add(a.clock.inOrder(k));
            for (int what = 0; what < 9; what++) {
                a.add(a.clock.ofSpurt(k, what));
            }
        }
    }

    private static void askTexts(Asked a) {
        for (int k = 0; k < 13; k++) {
            for (int i = -1; i < 27; i++) {
                a.add(a.clock.text(k, i));
            }
        }
    }

    /** What comes next is let in as before, by the same latest time, and begins or ends the same spike. */
    private static void goOn(Asked a) {
        a.add(a.clock.arrive(250, 250, 20, 899));
        a.add(a.clock.arrive(250, 250, 20, 900));
        a.add(a.clock.arrive(22, 20, 2, 950));
        a.add(a.clock.arrive(251, 250, 20, 3075));
        for (int k = 0; k < 4; k++) {
            a.add(a.clock.ofSpurt(k, 2));
        }
        a.add(a.clock.spike(1));
        a.add(a.clock.many(7));
        a.add(a.clock.history(0));
    }

    private static void takeWord(Asked a) {
        a.add(a.clock.key('n'));
        a.add(a.clock.manner(7));
        a.add(a.clock.word(0));
        a.add(a.clock.wish(60));
        a.add(a.clock.wipe());
    }

    private static void askAfterAnew(Asked a) {
        a.add(a.clock.anew());
        a.add(a.clock.arrive(3, 3, 0, 77));
        a.add(a.clock.ofSpurt(0, 2));
        a.add(a.clock.many(7));
    }
}
