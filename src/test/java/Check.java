/** Counts and prints the answers that are not as due. */
final class Check {
    private int asked;
    private int wrong;

    void due(String call, long got, long want) {
        asked++;
        if (got != want) {
            wrong++;
            if (wrong <= 40) {
                System.out.println(call + " answered " + got + ", due is " + want);
            }
        }
    }

    void holds(String what, boolean holds) {
        due(what, holds ? 1 : 0, 1);
    }

    void end() {
        System.out.println(wrong + " of " + asked + " answers are not as due");
        if (wrong != 0 || asked == 0) {
            System.exit(1);
        }
    }

    /** Puts a word on the tape of an object and takes its manner. */
    static int take(SpurtClock clock, String word, int k) {
        clock.wipe();
        type(clock, word);
        return clock.manner(k);
    }

    static void type(SpurtClock clock, String signs) {
        for (char sign : signs.toCharArray()) {
            clock.key(sign);
        }
    }

    /** The whole text of a spurt, put together from its signs. */
    static String textOf(SpurtClock clock, int k) {
        StringBuilder text = new StringBuilder();
        for (int i = 0; i < clock.text(k, -1); i++) {
            text.append((char) clock.text(k, i));
        }
        return text.toString();
    }

    void dueText(String call, String got, String want) {
        due(call + " «" + got + "», due «" + want + "»", got.equals(want) ? 1 : 0, 1);
    }
}
