import java.math.BigInteger;
import java.util.ArrayList;
import java.util.List;
import java.util.TreeMap;

/**
 * The document once more, in the plainest way and with the library: every question is answered
 * from the list of all arrivals. It is slow and shares no code with the class that is tested.
 */
final class PlainModel {
    static final List<String> WORDS = List.of("fixed", "share", "spike", "drift", "mean");

    /** One frame that came. */
    record Came(int n, Talk talk, int t) {
        int delay() {
            return t - 20 * n;
        }

        boolean played() {
            return delay() <= talk.time;
        }

        int playedAt() {
            return 20 * n + talk.time;
        }
    }

    /** One spurt. */
    static final class Talk {
        final int number;
        final int head;
        final int pause;
        int time;
        String word;

        Talk(int number, int head, int pause) {
            this.number = number;
            this.head = head;
            this.pause = pause;
        }
    }

    private final List<Came> all = new ArrayList<>();
    private final TreeMap<Integer, Talk> talks = new TreeMap<>();
    private String tape = "";
    private String word = "fixed";
    private int number = 60;
    private int margin = 0;
    private int jump = 80;
    private Integer base = null;
    private int spikes = 0;

    int key(int code) {
        if (code < 0 || code > 127) return -2;
        if (tape.length() == 8) return -4;
        tape += (char) code;
        return tape.length();
    }

    int wipe() {
        int had = tape.length();
        tape = "";
        return had;
    }

    int manner(int k) {
        if (!WORDS.contains(tape)) return -1;
        int least = tape.equals("fixed") ? -500 : 0;
        int most = tape.equals("fixed") ? 2000 : tape.equals("mean") ? 8 : 256;
        if (k < least || k > most) return -2;
        word = tape;
        number = k;
        tape = "";
        return WORDS.indexOf(word);
    }

    int margin(int v) {
        if (v < 0 || v > 200) return -2;
        int was = margin;
        margin = v;
        return was;
    }

    int jump(int v) {
        if (v < 10 || v > 1000) return -2;
        int was = jump;
        jump = v;
        return was;
    }

    private Came frame(int n) {
        return all.stream().filter(c -> c.n == n).findFirst().orElse(null);
    }

    private List<Came> of(Talk talk) {
        return all.stream().filter(c -> c.talk == talk).toList();
    }

    private int greatest(Talk talk) {
        return of(talk).stream().mapToInt(Came::n).max().orElseThrow();
    }

    private boolean inTheWay(Talk o, int n, int h, int p) {
        if (o.head < h) return of(o).stream().anyMatch(c -> c.n >= h - p);
        if (o.head > h) return n >= o.head - o.pause;
        return false;
    }

    int arrive(int n, int head, int pause, int t) {
        if (n < 0 || n > 299) return -2;
        if (head < 0 || head > n) return -2;
        if (pause < 0 || pause > head) return -2;
        if (t < 0 || t > 30000) return -2;
        if (!all.isEmpty() && t < all.get(all.size() - 1).t) return -3;
        if (frame(n) != null) return -3;
        Talk talk = talks.get(head);
        if (talk != null && talk.pause != pause) return -3;
        for (Talk o : talks.values()) {
            if (o != talk && inTheWay(o, n, head, pause)) return -3;
        }
        if (all.size() >= 120) return -4;
        boolean first = talk == null;
        if (first) talk = new Talk(talks.size(), head, pause);
        Came now = new Came(n, talk, t);
        Came ahead = all.isEmpty() ? null : all.get(all.size() - 1);
        all.add(now);
        if (base != null) {
            if (now.delay() <= base + jump / 2) base = null;
        } else if (ahead != null && now.delay() >= ahead.delay() + jump) {
            base = ahead.delay();
            spikes++;
        }
        if (first) {
            setTime(talk);
            talks.put(head, talk);
        }
        return talk.number;
    }

    private void setTime(Talk talk) {
        long time = wished(talk.head) + margin;
        var ahead = talks.lowerEntry(talk.head);
        var behind = talks.higherEntry(talk.head);
        if (ahead != null && time < ahead.getValue().time - 20 * talk.pause) {
            time = ahead.getValue().time - 20 * talk.pause;
        }
        if (behind != null && time > behind.getValue().time + 20 * behind.getValue().pause) {
            time = behind.getValue().time + 20 * behind.getValue().pause;
        }
        talk.time = Math.toIntExact(time);
        talk.word = word;
    }

    private List<Came> historyList() {
        return all.subList(Math.max(0, all.size() - 32), all.size());
    }

    private long wished(int h) {
        List<Came> last = historyList();
        long[] delays = last.stream().mapToLong(Came::delay).toArray();
        switch (word) {
            case "fixed":
                return number;
            case "mean":
                return meanWish(delays);
            case "spike":
                if (base == null) return share(delays);
                long most = Long.MIN_VALUE;
                for (int i = Math.max(0, delays.length - 3); i < delays.length; i++) most = Math.max(most, delays[i]);
                return most;
            case "drift":
                long[] rise = driftPair();
                for (int i = 0; i < delays.length; i++) {
                    delays[i] = ceil(delays[i] * rise[1] + rise[0] * (h - last.get(i).n), rise[1]);
                }
                return share(delays);
            default:
                return share(delays);
        }
    }

    private static long ceil(long upper, long lower) {
        BigInteger[] parts = BigInteger.valueOf(upper).divideAndRemainder(BigInteger.valueOf(lower));
        return parts[0].longValueExact() + (parts[1].signum() > 0 ? 1 : 0);
    }

    private static long floor(long upper, long lower) {
        return -ceil(-upper, lower);
    }

    private long meanWish(long[] delays) {
        long sum = 0;
        for (long d : delays) sum += d;
        long m = floor(sum, delays.length);
        long far = 0;
        for (long d : delays) far += d > m ? d - m : m - d;
        return m + number * floor(far, delays.length);
    }

    private long share(long[] delays) {
        long[] sorted = delays.clone();
        java.util.Arrays.sort(sorted);
        for (long v : sorted) {
            long greater = 0;
            for (long d : delays) if (d > v) greater++;
            if (256 * greater <= (long) number * delays.length) return v;
        }
        throw new IllegalStateException("the greatest is always fit");
    }

    /**
     * Tries every line through two of the points. One that is highest at the middle and rises least
     * can be tilted no further, so it lies on two points.
     */
    private long[] driftPair() {
        if (all.size() < 2) return new long[] {0, 1};
        long least = all.stream().mapToLong(Came::n).min().getAsLong();
        long most = all.stream().mapToLong(Came::n).max().getAsLong();
        long bestUp = 0, bestLow = 0, bestAt = 0;
        boolean found = false;
        for (Came a : all) {
            for (Came b : all) {
                if (a.n >= b.n) continue;
                long up = b.delay() - a.delay();
                long low = b.n - a.n;
                if (!all.stream().allMatch(c -> up * (c.n - a.n) + low * a.delay() <= low * c.delay())) continue;
                // twice the height at the middle, times low
                long at = up * (least + most - 2 * a.n) + 2 * low * a.delay();
                int higher = found ? Long.compare(at * bestLow, bestAt * low) : 1;
                boolean flatter = found && up * bestLow < bestUp * low;
                if (higher > 0 || higher == 0 && flatter) {
                    found = true;
                    bestUp = up;
                    bestLow = low;
                    bestAt = at;
                }
            }
        }
        long common = BigInteger.valueOf(bestUp).gcd(BigInteger.valueOf(bestLow)).longValueExact();
        return new long[] {bestUp / common, bestLow / common};
    }

    int anew() {
        int had = all.size();
        all.clear();
        talks.clear();
        base = null;
        spikes = 0;
        return had;
    }

    int ofFrame(int n, int what) {
        Came c = frame(n);
        if (c == null) return -1;
        return switch (what) {
            case 0 -> c.t;
            case 1 -> c.delay() + 10000;
            case 2 -> c.talk.number;
            case 3 -> c.played() ? c.playedAt() : -9;
            case 4 -> all.indexOf(c);
            default -> -2;
        };
    }

    private Talk talk(int k) {
        return talks.values().stream().filter(s -> s.number == k).findFirst().orElse(null);
    }

    private int missing(Talk s) {
        int missing = 0;
        for (int n = s.head; n <= greatest(s); n++) if (frame(n) == null) missing++;
        return missing;
    }

    int ofSpurt(int k, int what) {
        Talk s = talk(k);
        if (s == null) return -1;
        return switch (what) {
            case 0 -> s.head;
            case 1 -> s.pause;
            case 2 -> s.time + 10000;
            case 3 -> of(s).size();
            case 4 -> (int) of(s).stream().filter(Came::played).count();
            case 5 -> (int) of(s).stream().filter(c -> !c.played()).count();
            case 6 -> missing(s);
            case 7 -> greatest(s);
            case 8 -> WORDS.indexOf(s.word);
            default -> -2;
        };
    }

    int inOrder(int k) {
        List<Talk> sorted = new ArrayList<>(talks.values());
        return k < 0 || k >= sorted.size() ? -1 : sorted.get(k).number;
    }

    int wish(int h) {
        if (h < 0 || h > 299) return -2;
        return all.isEmpty() ? -3 : Math.toIntExact(wished(h) + 10000);
    }

    int spike(int what) {
        if (what == 0) return base == null ? 0 : 1;
        if (what == 1) return base == null ? -9 : base + 10000;
        return -2;
    }

    int late(int v) {
        if (v < -10000 || v > 40000) return -2;
        return (int) historyList().stream().filter(c -> c.delay() > v).count();
    }

    int history(int k) {
        if (k < 0 || k > 31) return -2;
        List<Came> last = historyList();
        return k < last.size() ? last.get(last.size() - 1 - k).delay() + 10000 : -9;
    }

    int loss(int v) {
        if (v < -10000 || v > 40000) return -2;
        return (int) all.stream().filter(c -> c.t > 20 * c.n + v).count();
    }

    long drift(int which) {
        return which == 0 || which == 1 ? driftPair()[which] : Long.MIN_VALUE;
    }

    int waiting(int t) {
        if (t < 0 || t > 100000) return -2;
        return (int) all.stream().filter(c -> c.played() && c.t <= t && c.playedAt() > t).count();
    }

    int playing(int t) {
        if (t < 0 || t > 100000) return -2;
        List<Came> now = all.stream().filter(c -> c.played() && c.playedAt() <= t && c.playedAt() > t - 20).toList();
        if (now.size() > 1) throw new IllegalStateException("two frames play at once");
        return now.isEmpty() ? -9 : now.get(0).n;
    }

    String textOf(int k) {
        Talk s = talk(k);
        StringBuilder marks = new StringBuilder();
        for (int n = s.head; n <= greatest(s); n++) {
            Came c = frame(n);
            marks.append(c == null ? "." : c.played() ? "+" : "-");
        }
        return "S" + s.head + " " + s.word + " P" + s.time + " " + marks;
    }

    int text(int k, int i) {
        if (talk(k) == null) return -1;
        if (i < -1 || i > 399) return -2;
        String text = textOf(k);
        return i == -1 ? text.length() : i < text.length() ? text.charAt(i) : -9;
    }

    int word(int i) {
        if (i < 0 || i > 4) return -2;
        return i < word.length() ? word.charAt(i) : -9;
    }

    int many(int what) {
        return switch (what) {
            case 0 -> all.size();
            case 1 -> talks.size();
            case 2 -> (int) all.stream().filter(Came::played).count();
            case 3 -> (int) all.stream().filter(c -> !c.played()).count();
            case 4 -> talks.values().stream().mapToInt(this::missing).sum();
            case 5 -> historyList().size();
            case 6 -> tape.length();
            case 7 -> spikes;
            default -> -2;
        };
    }

    int greatestNow(int head) {
        Talk s = talks.get(head);
        return s == null ? -1 : greatest(s);
    }

    List<Integer> heads() {
        return new ArrayList<>(talks.keySet());
    }

    int pauseOf(int head) {
        return talks.get(head).pause;
    }

    int latest() {
        return all.isEmpty() ? 0 : all.get(all.size() - 1).t;
    }
}
