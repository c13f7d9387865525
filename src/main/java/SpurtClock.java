/**
 * Sets the times at which voice frames from a jumpy net are played, spurt by spurt, and tells
 * what became of each frame. The words in capitals in the comments are those of the document.
 */
public final class SpurtClock {
    public static final int UNKNOWN = -1, OUTSIDE = -2, STATE = -3, FULL = -4, NONE = -9;
    public static final long LOST = Long.MIN_VALUE;

    private static final int FRAME_LIMIT = 300;
    private static final int ARRIVAL_LIMIT = 120;
    private static final int HISTORY_LIMIT = 32;
    private static final int TAPE_LIMIT = 8;
    private static final int TEXT_LIMIT = 400;
    private static final int OPENING_LIMIT = 32;
    private static final int WORD_LIMIT = 5;
    private static final int LATEST_ARRIVAL = 30000;
    private static final int LATEST_LOOK = 100000;
    private static final int LEAST_DELAY_ASKED = -10000, GREATEST_DELAY_ASKED = 40000;
    private static final int STEP = 20;
    /** Added to DELAYS and TIMES as they are answered, so that the usual ones do not look like refusals. */
    private static final int LIFT = 10000;

    private static final int FIXED = 0, SHARE = 1, SPIKE = 2, DRIFT = 3, MEAN = 4, MANNERS = 5;

    private static final int ALLOWED = 0;
    private static final int ABSENT = -1;

    private final Tape tape;
    private final Arrivals arrivals;
    private final Spurts spurts;
    private final Surge surge;
    private final LowestLine line;
    private final Wishes wishes;
    private final Sheet sheet;
    private int mannerNow;
    private int mannerNumber;
    private int marginNow;
    private int jumpNow;

    public SpurtClock() {
        tape = new Tape();
        arrivals = new Arrivals();
        spurts = new Spurts();
        surge = new Surge();
        line = new LowestLine();
        wishes = new Wishes();
        sheet = new Sheet();
        mannerNow = FIXED;
        mannerNumber = 60;
        marginNow = 0;
        jumpNow = 80;
    }

    // ---- 1 frames

    public int key(int code) {
        if (isOutside(code, 0, 127)) {
            return OUTSIDE;
        }
        if (tape.size() >= TAPE_LIMIT) {
            return FULL;
        }
        tape.add(code);
        return tape.size();
    }

    public int wipe() {
        int had = tape.size();
        tape.clear();
        return had;
    }

    public int manner(int k) {
        int found = mannerOnTape();
        if (found == ABSENT) {
            return UNKNOWN;
        }
        if (isOutside(k, leastNumber(found), greatestNumber(found))) {
            return OUTSIDE;
        }
        mannerNow = found;
        mannerNumber = k;
        tape.clear();
        return found;
    }

    public int margin(int v) {
        if (isOutside(v, 0, 200)) {
            return OUTSIDE;
        }
        int was = marginNow;
        marginNow = v;
        return was;
    }

    public int jump(int v) {
        if (isOutside(v, 10, 1000)) {
            return OUTSIDE;
        }
        int was = jumpNow;
        jumpNow = v;
        return was;
    }

    public int arrive(int n, int head, int pause, int t) {
        int refusal = refusalOf(n, head, pause, t);
        if (refusal != ALLOWED) {
            return refusal;
        }
        int place = arrivals.add(n, t);
        if (place > 0) {
            surge.follow(arrivals.delayAt(place - 1), arrivals.delayAt(place), jumpNow);
        }
        int k = spurts.withHead(head);
        if (k == ABSENT) {
            k = openSpurt(head, pause);
        }
        settle(place, n, t, k);
        return k;
    }

    public int anew() {
        int had = arrivals.count();
        arrivals.clear();
        spurts.clear();
        surge.clear();
        return had;
    }

    // ---- 2 times

    public int ofFrame(int n, int what) {
        int place = arrivals.placeOf(n);
        if (place == ABSENT) {
            return UNKNOWN;
        }
        switch (what) {
            case 0: return arrivals.whenAt(place);
            case 1: return arrivals.delayAt(place) + LIFT;
            case 2: return arrivals.spurtAt(place);
            case 3: return arrivals.playedAt(place);
            case 4: return place;
            default: return OUTSIDE;
        }
    }

    public int ofSpurt(int k, int what) {
        if (isOutside(k, 0, spurts.count() - 1)) {
            return UNKNOWN;
        }
        switch (what) {
            case 0: return spurts.headOf(k);
            case 1: return spurts.pauseOf(k);
            case 2: return spurts.timeOf(k) + LIFT;
            case 3: return spurts.cameOf(k);
            case 4: return spurts.playedOf(k);
            case 5: return spurts.cameOf(k) - spurts.playedOf(k);
            case 6: return spurts.missingOf(k);
            case 7: return spurts.greatestOf(k);
            case 8: return spurts.mannerOf(k);
            default: return OUTSIDE;
        }
    }

    public int inOrder(int k) {
        return isOutside(k, 0, spurts.count() - 1) ? UNKNOWN : spurts.atRank(k);
    }

    public int wish(int h) {
        if (isOutside(h, 0, FRAME_LIMIT - 1)) {
            return OUTSIDE;
        }
        return arrivals.count() == 0 ? STATE : wishFor(h) + LIFT;
    }

    public int spike(int what) {
        switch (what) {
            case 0: return surge.isOn() ? 1 : 0;
            case 1: return surge.isOn() ? surge.base() + LIFT : NONE;
            default: return OUTSIDE;
        }
    }

    // ---- 3 tables, drift

    public int late(int v) {
        if (isOutside(v, LEAST_DELAY_ASKED, GREATEST_DELAY_ASKED)) {
            return OUTSIDE;
        }
        return arrivals.delaysAbove(v, arrivals.historySize());
    }

    public int history(int k) {
        if (isOutside(k, 0, HISTORY_LIMIT - 1)) {
            return OUTSIDE;
        }
        return k < arrivals.historySize() ? arrivals.delayAt(arrivals.lastPlace() - k) + LIFT : NONE;
    }

    public int loss(int v) {
        if (isOutside(v, LEAST_DELAY_ASKED, GREATEST_DELAY_ASKED)) {
            return OUTSIDE;
        }
        return arrivals.delaysAbove(v, arrivals.count());
    }

    public long drift(int which) {
        line.fitUnder(arrivals);
        switch (which) {
            case 0: return line.upper();
            case 1: return line.lower();
            default: return LOST;
        }
    }

    public int waiting(int t) {
        if (isOutside(t, 0, LATEST_LOOK)) {
            return OUTSIDE;
        }
        int wait = 0;
        for (int place = 0; place < arrivals.count(); place++) {
            // A LATE frame is held as PLAYED at NONE, which is behind no t from 0 on.
            if (arrivals.whenAt(place) <= t && arrivals.playedAt(place) > t) {
                wait++;
            }
        }
        return wait;
    }

    public int playing(int t) {
        if (isOutside(t, 0, LATEST_LOOK)) {
            return OUTSIDE;
        }
        for (int place = 0; place < arrivals.count(); place++) {
            int played = arrivals.playedAt(place);
            if (played != NONE && played <= t && t - played < STEP) {
                return arrivals.frameAt(place);
            }
        }
        return NONE;
    }

    // ---- 4 texts

    public int text(int k, int i) {
        if (isOutside(k, 0, spurts.count() - 1)) {
            return UNKNOWN;
        }
        if (isOutside(i, -1, TEXT_LIMIT - 1)) {
            return OUTSIDE;
        }
        writeOpening(k);
        int frames = spurts.greatestOf(k) - spurts.headOf(k) + 1;
        if (i == -1) {
            return sheet.size() + frames;
        }
        if (i < sheet.size()) {
            return sheet.codeAt(i);
        }
        int frame = i - sheet.size();
        return frame < frames ? signOfFrame(spurts.headOf(k) + frame) : NONE;
    }

    public int word(int i) {
        if (isOutside(i, 0, WORD_LIMIT - 1)) {
            return OUTSIDE;
        }
        String signs = wordOf(mannerNow);
        if (i >= signs.length()) {
            return NONE;
        }
        return signs.charAt(i);
    }

    public int many(int what) {
        switch (what) {
            case 0: return arrivals.count();
            case 1: return spurts.count();
            case 2: return spurts.playedOfAll();
            case 3: return arrivals.count() - spurts.playedOfAll();
            case 4: return spurts.missingOfAll();
            case 5: return arrivals.historySize();
            case 6: return tape.size();
            case 7: return surge.begun();
            default: return OUTSIDE;
        }
    }

    // ---- what the calls share

    private static boolean isOutside(int value, int least, int greatest) {
        return value < least || value > greatest;
    }

    private static String wordOf(int aManner) {
        switch (aManner) {
            case SHARE: return "share";
            case SPIKE: return "spike";
            case DRIFT: return "drift";
            case MEAN: return "mean";
            default: return "fixed";
        }
    }

    private static int leastNumber(int aManner) {
        return aManner == FIXED ? -500 : 0;
    }

    private static int greatestNumber(int aManner) {
        switch (aManner) {
            case FIXED: return 2000;
            case MEAN: return 8;
            default: return 256;
        }
    }

    private int mannerOnTape() {
        for (int m = 0; m < MANNERS; m++) {
            if (tape.spells(wordOf(m))) {
                return m;
            }
        }
        return ABSENT;
    }

    private int refusalOf(int n, int head, int pause, int t) {
        if (isOutside(n, 0, FRAME_LIMIT - 1) || isOutside(head, 0, n)
                || isOutside(pause, 0, head) || isOutside(t, 0, LATEST_ARRIVAL)) {
            return OUTSIDE;
        }
        if (t < arrivals.latestWhen() || arrivals.placeOf(n) != ABSENT || spurts.bar(n, head, pause)) {
            return STATE;
        }
        return arrivals.count() >= ARRIVAL_LIMIT ? FULL : ALLOWED;
    }

    private int wishFor(int head) {
        wishes.gather(arrivals);
        if (mannerNow == DRIFT) {
            line.fitUnder(arrivals);
            wishes.carryAlong(line, arrivals, head);
        }
        switch (mannerNow) {
            case FIXED: return mannerNumber;
            case SPIKE: return surge.isOn() ? wishes.greatestOfLastThree() : wishes.byShare(mannerNumber);
            case MEAN: return wishes.byMean(mannerNumber);
            default: return wishes.byShare(mannerNumber);
        }
    }

    private int openSpurt(int head, int pause) {
        int time = spurts.timeInTurn(head, pause, wishFor(head) + marginNow);
        return spurts.add(head, pause, time, mannerNow);
    }

    private void settle(int place, int n, int t, int k) {
        int due = STEP * n + spurts.timeOf(k);
        boolean inTime = t <= due;
        arrivals.settle(place, k, inTime ? due : NONE);
        spurts.countFrame(k, n, inTime);
    }

    /** The TEXT of a SPURT up to the signs of its FRAMES. */
    private void writeOpening(int k) {
        sheet.clear();
        sheet.put('S');
        sheet.putNumber(spurts.headOf(k));
        sheet.put(' ');
        sheet.putWord(wordOf(spurts.mannerOf(k)));
        sheet.put(' ');
        sheet.put('P');
        sheet.putNumber(spurts.timeOf(k));
        sheet.put(' ');
    }

    private int signOfFrame(int n) {
        int place = arrivals.placeOf(n);
        if (place == ABSENT) {
            return '.';
        }
        return arrivals.playedAt(place) == NONE ? '-' : '+';
    }

    /** Numbers in a row; the one place where an array is touched, so that no index goes unlooked at. */
    private static final class Row {
        private final int[] cells;

        Row(int length) {
            cells = new int[Math.max(length, 0)];
        }

        int get(int i) {
            return i >= 0 && i < cells.length ? cells[i] : 0;
        }

        void set(int i, int value) {
            if (i >= 0 && i < cells.length) {
                cells[i] = value;
            }
        }

        void add(int i, int more) {
            set(i, get(i) + more);
        }
    }

    /** The TAPE. */
    private static final class Tape {
        private final Row codes = new Row(TAPE_LIMIT);
        private int size;

        int size() {
            return size;
        }

        void add(int code) {
            if (size < TAPE_LIMIT) {
                codes.set(size, code);
                size++;
            }
        }

        void clear() {
            size = 0;
        }

        boolean spells(String signs) {
            if (signs.length() != size) {
                return false;
            }
            for (int i = 0; i < signs.length(); i++) {
                if (signs.charAt(i) != codes.get(i)) {
                    return false;
                }
            }
            return true;
        }
    }

    /** All that came, by places: 0 is the first ARRIVAL. The HISTORY is the last of them. */
    private static final class Arrivals {
        /** One more than the place of each FRAME, so that a fresh row says that none came. */
        private final Row placeAfter = new Row(FRAME_LIMIT);
        private final Row frames = new Row(ARRIVAL_LIMIT);
        private final Row whens = new Row(ARRIVAL_LIMIT);
        private final Row spurtNumbers = new Row(ARRIVAL_LIMIT);
        private final Row playTimes = new Row(ARRIVAL_LIMIT);
        private int count;

        int count() {
            return count;
        }

        int lastPlace() {
            return count - 1;
        }

        int historySize() {
            return Math.min(count, HISTORY_LIMIT);
        }

        /** ABSENT for what is no FRAME at all, too. */
        int placeOf(int n) {
            return placeAfter.get(n) - 1;
        }

        int frameAt(int place) {
            return frames.get(place);
        }

        int whenAt(int place) {
            return whens.get(place);
        }

        int spurtAt(int place) {
            return spurtNumbers.get(place);
        }

        int playedAt(int place) {
            return playTimes.get(place);
        }

        int delayAt(int place) {
            return whens.get(place) - STEP * frames.get(place);
        }

        int latestWhen() {
            return count == 0 ? 0 : whens.get(count - 1);
        }

        int delaysAbove(int v, int ofLast) {
            int above = 0;
            for (int place = count - ofLast; place < count; place++) {
                if (delayAt(place) > v) {
                    above++;
                }
            }
            return above;
        }

        int add(int n, int t) {
            int place = count;
            frames.set(place, n);
            whens.set(place, t);
            placeAfter.set(n, place + 1);
            count++;
            return place;
        }

        void settle(int place, int k, int playTime) {
            spurtNumbers.set(place, k);
            playTimes.set(place, playTime);
        }

        void clear() {
            for (int place = 0; place < count; place++) {
                placeAfter.set(frames.get(place), 0);
            }
            count = 0;
        }
    }

    /** The SPURTS, by their numbers, and their numbers by HEADS. */
    private static final class Spurts {
        private final Row heads = new Row(ARRIVAL_LIMIT);
        private final Row pauses = new Row(ARRIVAL_LIMIT);
        private final Row times = new Row(ARRIVAL_LIMIT);
        private final Row manners = new Row(ARRIVAL_LIMIT);
        private final Row came = new Row(ARRIVAL_LIMIT);
        private final Row played = new Row(ARRIVAL_LIMIT);
        private final Row greatest = new Row(ARRIVAL_LIMIT);
        private final Row ranked = new Row(ARRIVAL_LIMIT);
        private int count;

        int count() {
            return count;
        }

        int headOf(int k) {
            return heads.get(k);
        }

        int pauseOf(int k) {
            return pauses.get(k);
        }

        int timeOf(int k) {
            return times.get(k);
        }

        int mannerOf(int k) {
            return manners.get(k);
        }

        int cameOf(int k) {
            return came.get(k);
        }

        int playedOf(int k) {
            return played.get(k);
        }

        int greatestOf(int k) {
            return greatest.get(k);
        }

        int missingOf(int k) {
            return greatest.get(k) - heads.get(k) + 1 - came.get(k);
        }

        int atRank(int rank) {
            return ranked.get(rank);
        }

        int playedOfAll() {
            int sum = 0;
            for (int k = 0; k < count; k++) {
                sum += playedOf(k);
            }
            return sum;
        }

        int missingOfAll() {
            int sum = 0;
            for (int k = 0; k < count; k++) {
                sum += missingOf(k);
            }
            return sum;
        }

        int withHead(int head) {
            for (int k = 0; k < count; k++) {
                if (heads.get(k) == head) {
                    return k;
                }
            }
            return ABSENT;
        }

        /** Whether what is known of the SPURTS does not let such an ARRIVAL be. */
        boolean bar(int n, int head, int pause) {
            for (int k = 0; k < count; k++) {
                boolean otherPause = heads.get(k) == head && pauses.get(k) != pause;
                if (otherPause || isInTheWay(k, n, head, pause)) {
                    return true;
                }
            }
            return false;
        }

        private boolean isInTheWay(int k, int n, int head, int pause) {
            int itsHead = heads.get(k);
            if (itsHead < head) {
                return greatest.get(k) >= head - pause;
            }
            return itsHead > head && n >= itsHead - pauses.get(k);
        }

        private int headsBelow(int head) {
            int below = 0;
            for (int k = 0; k < count; k++) {
                if (heads.get(k) < head) {
                    below++;
                }
            }
            return below;
        }

        /** The wanted TIME, moved so that a new SPURT is played behind the one ahead and ahead of the one behind. */
        int timeInTurn(int head, int pause, int wanted) {
            int rank = headsBelow(head);
            int time = wanted;
            if (rank > 0) {
                int ahead = ranked.get(rank - 1);
                time = Math.max(time, times.get(ahead) - STEP * pause);
            }
            if (rank < count) {
                int behind = ranked.get(rank);
                time = Math.min(time, times.get(behind) + STEP * pauses.get(behind));
            }
            return time;
        }

        int add(int head, int pause, int time, int aManner) {
            int k = count;
            int rank = headsBelow(head);
            for (int r = count; r > rank; r--) {
                ranked.set(r, ranked.get(r - 1));
            }
            ranked.set(rank, k);
            heads.set(k, head);
            pauses.set(k, pause);
            times.set(k, time);
            manners.set(k, aManner);
            came.set(k, 0);
            played.set(k, 0);
            greatest.set(k, head);
            count++;
            return k;
        }

        void countFrame(int k, int n, boolean inTime) {
            came.add(k, 1);
            played.add(k, inTime ? 1 : 0);
            greatest.set(k, Math.max(greatest.get(k), n));
        }

        void clear() {
            count = 0;
        }
    }

    /** The SPIKE. */
    private static final class Surge {
        private boolean on;
        private int base;
        private int begun;

        boolean isOn() {
            return on;
        }

        int base() {
            return base;
        }

        int begun() {
            return begun;
        }

        void follow(int delayAhead, int delay, int leap) {
            if (on) {
                on = delay > base + leap / 2;
            } else if (delay >= delayAhead + leap) {
                on = true;
                base = delayAhead;
                begun++;
            }
        }

        void clear() {
            on = false;
            begun = 0;
        }
    }

    /** The DRIFT: how much the lowest line under all DELAYS rises a FRAME, as upper and lower number. */
    private static final class LowestLine {
        /** The corners, from the left, of the tightest bow under all DELAYS. */
        private final Row cornerFrames = new Row(ARRIVAL_LIMIT);
        private final Row cornerDelays = new Row(ARRIVAL_LIMIT);
        private int corners;
        private int upper;
        private int lower = 1;

        int upper() {
            return upper;
        }

        int lower() {
            return lower;
        }

        void fitUnder(Arrivals arrivals) {
            corners = 0;
            upper = 0;
            lower = 1;
            for (int n = 0; n < FRAME_LIMIT; n++) {
                int place = arrivals.placeOf(n);
                if (place != ABSENT) {
                    addCorner(n, arrivals.delayAt(place));
                }
            }
            takeRiseAtMiddle();
        }

        private void addCorner(int frame, int delay) {
            while (corners >= 2 && lastIsNotBelow(frame, delay)) {
                corners--;
            }
            cornerFrames.set(corners, frame);
            cornerDelays.set(corners, delay);
            corners++;
        }

        /** Whether the last corner lies on or above the line from the one ahead of it to this point. */
        private boolean lastIsNotBelow(int frame, int delay) {
            int fromFrame = cornerFrames.get(corners - 2);
            int fromDelay = cornerDelays.get(corners - 2);
            int lastFrame = cornerFrames.get(corners - 1) - fromFrame;
            int lastDelay = cornerDelays.get(corners - 1) - fromDelay;
            return lastDelay * (frame - fromFrame) >= (delay - fromDelay) * lastFrame;
        }

        /** A corner just at the MIDDLE bears many lines: the side to its left is the one that rises least. */
        private void takeRiseAtMiddle() {
            int twiceMiddle = cornerFrames.get(0) + cornerFrames.get(corners - 1);
            for (int c = 1; c < corners; c++) {
                if (2 * cornerFrames.get(c) >= twiceMiddle) {
                    setRise(cornerDelays.get(c) - cornerDelays.get(c - 1),
                            cornerFrames.get(c) - cornerFrames.get(c - 1));
                    return;
                }
            }
        }

        private void setRise(int delays, int frames) {
            int divisor = greatestDivisor(Math.abs(delays), frames);
            if (divisor > 0) {
                upper = delays / divisor;
                lower = frames / divisor;
            }
        }

        private static int greatestDivisor(int a, int b) {
            int greater = a;
            int less = b;
            // Each two rounds halve the greater one, so 64 rounds are more than an int can need.
            for (int round = 0; round < 64 && less != 0; round++) {
                int rest = greater % less;
                greater = less;
                less = rest;
            }
            return greater;
        }

        /** DRIFT times so many FRAMES, cut up to a whole number. */
        int riseOver(int frames) {
            return lower > 0 ? -Math.floorDiv(-upper * frames, lower) : 0;
        }
    }

    /** What the MANNERS make of the DELAYS of the HISTORY, which are copied in here, the latest first. */
    private static final class Wishes {
        private final Row delays = new Row(HISTORY_LIMIT);
        private int size;

        void gather(Arrivals arrivals) {
            size = arrivals.historySize();
            for (int i = 0; i < size; i++) {
                delays.set(i, arrivals.delayAt(arrivals.lastPlace() - i));
            }
        }

        void carryAlong(LowestLine line, Arrivals arrivals, int head) {
            for (int i = 0; i < size; i++) {
                int frame = arrivals.frameAt(arrivals.lastPlace() - i);
                delays.add(i, line.riseOver(head - frame));
            }
        }

        /** The greatest DELAY always passes, so that there is always one to start from. */
        int byShare(int share) {
            int best = greatestOfLast(size);
            for (int i = 0; i < size; i++) {
                int v = delays.get(i);
                if (v < best && 256 * countAbove(v) <= share * size) {
                    best = v;
                }
            }
            return best;
        }

        int greatestOfLastThree() {
            return greatestOfLast(Math.min(size, 3));
        }

        int byMean(int times) {
            if (size <= 0) {
                return 0;
            }
            int sum = 0;
            for (int i = 0; i < size; i++) {
                sum += delays.get(i);
            }
            int mean = Math.floorDiv(sum, size);
            int farSum = 0;
            for (int i = 0; i < size; i++) {
                farSum += Math.abs(delays.get(i) - mean);
            }
            return mean + times * Math.floorDiv(farSum, size);
        }

        private int countAbove(int v) {
            int above = 0;
            for (int i = 0; i < size; i++) {
                if (delays.get(i) > v) {
                    above++;
                }
            }
            return above;
        }

        private int greatestOfLast(int ofLast) {
            int best = delays.get(0);
            for (int i = 1; i < ofLast; i++) {
                best = Math.max(best, delays.get(i));
            }
            return best;
        }
    }

    /** Where the opening of a TEXT is written out. */
    private static final class Sheet {
        private final Row codes = new Row(OPENING_LIMIT);
        private int size;

        int size() {
            return size;
        }

        int codeAt(int i) {
            return codes.get(i);
        }

        void clear() {
            size = 0;
        }

        void put(int code) {
            if (size < OPENING_LIMIT) {
                codes.set(size, code);
                size++;
            }
        }

        void putWord(String signs) {
            for (int i = 0; i < signs.length(); i++) {
                put(signs.charAt(i));
            }
        }

        void putNumber(int value) {
            if (value < 0) {
                put('-');
            }
            // Kept at or below 0, as the least int has no match above 0.
            int rest = value < 0 ? value : -value;
            boolean begun = false;
            for (int unit = 1000000000; unit > 0; unit /= 10) {
                int figure = -(rest / unit % 10);
                if (begun || figure != 0 || unit == 1) {
                    put('0' + figure);
                    begun = true;
                }
            }
        }
    }
}
