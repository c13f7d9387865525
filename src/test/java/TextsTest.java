/** Promises 20 to 22: spurts written out, the word of the manner, how many there are. */
public final class TextsTest {
    private static final Check CHECK = new Check();

    public static void main(String[] args) {
        texts();
        longestText();
        textRefusals();
        words();
        counts();
        CHECK.end();
    }

    private static void texts() {
        SpurtClock x = new SpurtClock();
        x.arrive(3, 3, 2, 100);
        CHECK.dueText("one frame", Check.textOf(x, 0), "S3 fixed P60 +");
        x.arrive(6, 3, 2, 175);
        x.arrive(5, 3, 2, 175);
        CHECK.dueText("late and missing", Check.textOf(x, 0), "S3 fixed P60 +.-+");
        Check.take(x, "fixed", -500);
        x.arrive(215, 210, 203, 176);
        CHECK.dueText("below 0, the head is missing", Check.textOf(x, 1), "S210 fixed P-500 .....+");
        Check.take(x, "mean", 0);
        CHECK.dueText("the manner as it was", Check.textOf(x, 0), "S3 fixed P60 +.-+");
        x.anew();
        x.arrive(0, 0, 0, 0);
        CHECK.dueText("0 is a figure", Check.textOf(x, 0), "S0 mean P0 +");
        String[] others = {"share", "spike", "drift"};
        for (int m = 0; m < others.length; m++) {
            Check.take(x, others[m], 0);
            int head = 10 * m + 10;
            x.arrive(head, head, 9, 20 * head + 10);
        }
        CHECK.dueText("share", Check.textOf(x, 1), "S10 share P10 +");
        CHECK.dueText("spike", Check.textOf(x, 2), "S20 spike P10 +");
        CHECK.dueText("drift", Check.textOf(x, 3), "S30 drift P17 +");
    }

    private static void longestText() {
        SpurtClock x = new SpurtClock();
        Check.take(x, "drift", 256);
        x.arrive(298, 298, 0, 0);
        x.arrive(299, 299, 0, 29999);
        x.arrive(0, 0, 0, 30000);
        String text = Check.textOf(x, 2);
        CHECK.due("ends at its only frame", text.length(), x.text(2, -1));
        SpurtClock y = new SpurtClock();
        Check.take(y, "fixed", 2000);
        y.arrive(299, 0, 0, 0);
        y.arrive(0, 0, 0, 2001);
        y.arrive(100, 0, 0, 2001);
        StringBuilder due = new StringBuilder("S0 fixed P2000 -");
        for (int n = 1; n < 299; n++) {
            due.append(n == 100 ? '+' : '.');
        }
        CHECK.dueText("300 frames", Check.textOf(y, 0), due.append('+').toString());
        CHECK.due("none behind the last", y.text(0, 315), -9);
        CHECK.due("the last", y.text(0, 314), '+');
        CHECK.due("i 399", y.text(0, 399), -9);
    }

    private static void textRefusals() {
        SpurtClock x = new SpurtClock();
        CHECK.due("text of none", x.text(0, 0), -1);
        CHECK.due("UNKNOWN goes ahead of OUTSIDE", x.text(0, 400), -1);
        x.arrive(0, 0, 0, 0);
        CHECK.due("k -1", x.text(-1, 0), -1);
        CHECK.due("k 1", x.text(1, 0), -1);
        CHECK.due("i -2", x.text(0, -2), -2);
        CHECK.due("i 400", x.text(0, 400), -2);
        CHECK.due("i greatest", x.text(0, Integer.MAX_VALUE), -2);
        CHECK.due("i least", x.text(0, Integer.MIN_VALUE), -2);
        CHECK.due("i 399", x.text(0, 399), -9);
        CHECK.due("i -1", x.text(0, -1), 14);
        CHECK.due("i 13", x.text(0, 13), '+');
        CHECK.due("i 14", x.text(0, 14), -9);
    }

    private static void words() {
        for (String word : new String[] {"fixed", "share", "spike", "drift", "mean"}) {
            SpurtClock x = new SpurtClock();
            Check.take(x, word, 8);
            for (int i = 0; i < 5; i++) {
                CHECK.due(word + " sign " + i, x.word(i), i < word.length() ? word.charAt(i) : -9);
            }
            CHECK.due(word + " -1", x.word(-1), -2);
            CHECK.due(word + " 5", x.word(5), -2);
        }
    }

    private static void counts() {
        SpurtClock x = new SpurtClock();
        for (int n = 0; n < 40; n++) {
            x.arrive(n < 20 ? n : n + 10, n < 20 ? 0 : 28, 2, 0);
        }
        CHECK.due("a head of 0 has no pause of 2", x.many(0), 20);
        x.arrive(5, 0, 0, 2000);
        x.arrive(2, 0, 0, 2000);
        x.arrive(7, 0, 0, 2000);
        for (int n = 60; n < 72; n++) {
            x.arrive(n, 60, 0, 2000);
        }
        Check.type(x, "abc");
        long[] due = {35, 3, 20, 3 + 12, 2 + 5, 32, 3, 1};
        for (int what = 0; what < due.length; what++) {
            CHECK.due("many(" + what + ")", x.many(what), due[what]);
        }
        CHECK.due("many(-1)", x.many(-1), -2);
        CHECK.due("many(8)", x.many(8), -2);
        CHECK.due("many(greatest)", x.many(Integer.MAX_VALUE), -2);
    }
}
