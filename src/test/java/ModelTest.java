import java.util.ArrayList;
import java.util.List;
import java.util.Random;

/** Long runs of calls, the same ones each time, answered by the class and by the plain model. */
public final class ModelTest {
    private static final Check CHECK = new Check();
    private static final int CALLS = 512;

    private final int run;
    private final Random random;
    private final SpurtClock clock = new SpurtClock();
    private final PlainModel model = new PlainModel();
    private int calls;
    private int came;

    private ModelTest(int run) {
        this.run = run;
        this.random = new Random(run);
    }

    public static void main(String[] args) {
        int cameInAll = 0;
        for (int run = 0; run < 1200; run++) {
            ModelTest test = new ModelTest(run);
            if (run % 3 == 0) {
                test.crowded();
            } else {
                test.voice(run % 3 == 2);
            }
            cameInAll += test.came;
        }
        CHECK.holds("enough came, " + cameInAll, cameInAll > 20000);
        CHECK.end();
    }

    private void due(String call, long got, long want) {
        calls++;
        CHECK.due("run " + run + ", call " + calls + ": " + call, got, want);
    }

    private int between(int least, int most) {
        return least + random.nextInt(most - least + 1);
    }

    /** Mostly within, at times at an edge or just beyond it, at times anywhere. */
    private int near(int least, int most) {
        return switch (random.nextInt(24)) {
            case 0 -> least - 1;
            case 1 -> most + 1;
            case 2 -> least;
            case 3 -> most;
            case 4 -> random.nextBoolean() ? random.nextInt() : random.nextBoolean() ? Integer.MIN_VALUE : Integer.MAX_VALUE;
            default -> between(least, most);
        };
    }

    private void arrive(int n, int head, int pause, int t) {
        int answer = model.arrive(n, head, pause, t);
        came += answer >= 0 ? 1 : 0;
        due("arrive(" + n + ", " + head + ", " + pause + ", " + t + ")", clock.arrive(n, head, pause, t), answer);
    }

    /** Small numbers, close together, so that frames get in the way of one another. */
    private void crowded() {
        int span = between(4, 60);
        int leap = between(0, 60);
        while (calls < CALLS) {
            int what = random.nextInt(10);
            if (what < 5) {
                crowdedArrival(span, leap);
            } else if (what < 6) {
                change();
            } else {
                ask();
            }
            if (random.nextInt(200) == 0) {
                due("anew()", clock.anew(), model.anew());
            }
        }
    }

    private void crowdedArrival(int span, int leap) {
        List<Integer> heads = model.heads();
        int t = Math.max(0, model.latest() + between(-2, leap));
        if (!heads.isEmpty() && random.nextBoolean()) {
            int head = heads.get(random.nextInt(heads.size()));
            int pause = random.nextInt(8) == 0 ? between(0, 4) : model.pauseOf(head);
            arrive(Math.min(299, head + random.nextInt(6)), head, pause, t);
        } else {
            int head = random.nextInt(span);
            arrive(head + random.nextInt(3), head, Math.min(head, random.nextInt(4)), t);
        }
        if (random.nextInt(20) == 0) {
            arrive(near(0, 299), near(0, 20), near(0, 5), near(0, 30000));
        }
    }

    /** Spurts as a voice makes them, over a net with jumps and spikes and a drift. */
    private void voice(boolean wild) {
        int wanted = between(2, 130);
        List<int[]> sent = sendAll(wanted, wild);
        sent.sort((a, b) -> Integer.compare(a[3], b[3]));
        for (int[] s : sent) {
            if (calls > CALLS - 4) {
                break;
            }
            arrive(s[0], s[1], s[2], s[3]);
            if (random.nextInt(6) == 0) {
                change();
            }
            if (random.nextInt(3) == 0) {
                ask();
            }
        }
        while (calls < CALLS) {
            ask();
        }
    }

    private List<int[]> sendAll(int wanted, boolean wild) {
        List<int[]> sent = new ArrayList<>();
        int n = between(0, 20);
        int jitter = wild ? between(0, 3000) : between(0, 120);
        double drift = (random.nextDouble() - 0.5) * (wild ? 200 : 4);
        int ground = wild ? between(-2000, 8000) : between(0, 300);
        int spike = 0;
        while (n < 300 && sent.size() < wanted) {
            int pause = Math.min(n, between(0, 9));
            int head = n;
            int length = between(1, 16);
            for (int i = 0; i < length && n < 300; i++, n++) {
                spike = random.nextInt(12) == 0 ? between(50, 600) : Math.max(0, spike - 20);
                int delay = ground + (int) (drift * n) + random.nextInt(jitter + 1) + spike;
                int t = Math.max(0, Math.min(30000, 20 * n + delay));
                if (random.nextInt(10) != 0) {
                    sent.add(new int[] {n, head, pause, t});
                }
            }
            n += random.nextInt(4) == 0 ? between(0, 9) : between(9, 14);
        }
        return sent;
    }

    private void change() {
        switch (random.nextInt(5)) {
            case 0 -> {
                int v = near(0, 200);
                due("margin(" + v + ")", clock.margin(v), model.margin(v));
            }
            case 1 -> {
                int v = near(10, random.nextBoolean() ? 60 : 1000);
                due("jump(" + v + ")", clock.jump(v), model.jump(v));
            }
            default -> changeManner();
        }
    }

    private void changeManner() {
        int m = random.nextInt(5);
        String word = PlainModel.WORDS.get(m);
        if (random.nextInt(12) == 0) {
            word = word.substring(1) + (char) random.nextInt(128);
        }
        if (random.nextInt(8) != 0) {
            due("wipe()", clock.wipe(), model.wipe());
        }
        for (char sign : word.toCharArray()) {
            due("key(" + (int) sign + ")", clock.key(sign), model.key(sign));
        }
        if (random.nextInt(10) == 0) {
            int code = near(0, 127);
            due("key(" + code + ")", clock.key(code), model.key(code));
        }
        int k = m == 0 ? near(-500, 2000) : m == 4 ? near(0, 8) : near(0, random.nextBoolean() ? 40 : 256);
        due("manner(" + k + ")", clock.manner(k), model.manner(k));
    }

    private void ask() {
        int spurts = Math.max(1, model.many(1));
        switch (random.nextInt(14)) {
            case 0 -> askFrame(near(0, 299), near(0, 4));
            case 1 -> askFrame(frameOfSome(), near(0, 4));
            case 2 -> askSpurt(near(0, spurts - 1), near(0, 8));
            case 3 -> {
                int k = near(0, spurts - 1);
                due("inOrder(" + k + ")", clock.inOrder(k), model.inOrder(k));
            }
            case 4, 5 -> {
                int h = near(0, 299);
                due("wish(" + h + ")", clock.wish(h), model.wish(h));
            }
            case 6 -> {
                int what = near(0, 1);
                due("spike(" + what + ")", clock.spike(what), model.spike(what));
            }
            case 7 -> askCounts();
            case 8 -> {
                int k = near(0, 31);
                due("history(" + k + ")", clock.history(k), model.history(k));
            }
            case 9 -> {
                int which = near(0, 1);
                due("drift(" + which + ")", clock.drift(which), model.drift(which));
            }
            case 10 -> askAt(random.nextBoolean() ? near(0, 100000) : Math.max(0, model.latest() + between(-100, 200)));
            case 11 -> askText(near(0, spurts - 1));
            case 12 -> {
                int i = near(0, 4);
                due("word(" + i + ")", clock.word(i), model.word(i));
            }
            default -> {
                int what = near(0, 7);
                due("many(" + what + ")", clock.many(what), model.many(what));
            }
        }
    }

    private int frameOfSome() {
        List<Integer> heads = model.heads();
        return heads.isEmpty() ? 0 : model.greatestNow(heads.get(random.nextInt(heads.size())));
    }

    private void askFrame(int n, int what) {
        due("ofFrame(" + n + ", " + what + ")", clock.ofFrame(n, what), model.ofFrame(n, what));
    }

    private void askSpurt(int k, int what) {
        due("ofSpurt(" + k + ", " + what + ")", clock.ofSpurt(k, what), model.ofSpurt(k, what));
    }

    private void askCounts() {
        int known = model.history(random.nextInt(4));
        int v = random.nextBoolean() && known != -9 ? known - 10000 + between(-1, 1) : near(-10000, 40000);
        due("late(" + v + ")", clock.late(v), model.late(v));
        due("loss(" + v + ")", clock.loss(v), model.loss(v));
    }

    private void askAt(int t) {
        due("waiting(" + t + ")", clock.waiting(t), model.waiting(t));
        due("playing(" + t + ")", clock.playing(t), model.playing(t));
    }

    private void askText(int k) {
        int i = random.nextBoolean() ? near(-1, 399) : between(-1, 30);
        due("text(" + k + ", " + i + ")", clock.text(k, i), model.text(k, i));
    }
}
