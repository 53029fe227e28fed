/** Promises 24 to 28, by ordinary calls. What is refused: AskingBoundsTest; further edges: AnswerEdgesTest, ChoiceEdgesTest. */
public final class WouldBeTest {
    private static final Check c = new Check("WouldBeTest");

    public static void main(String[] args) {
        met();
        choices();
        isNarrower();
        isSound();
        digest();
        nothingIsChanged();
        c.end();
    }

    private static Meetjoin withFields(int fields) {
        Meetjoin x = new Meetjoin();
        for (int field = 0; field < fields; field++) {
            x.field(0);
        }
        return x;
    }

    private static void met() {
        Meetjoin x = withFields(2);
        c.due("no lines", x.met(0, 0), 255);
        x.oneOf(0, 0, 60);
        x.oneOf(1, 0, 12);
        x.preset(0, 0, 2, 9);
        x.more(0, 1, 0, 3);
        x.oneOf(0, 0, 128);
        x.withdraw(0, true);
        c.due("whether it counts or not: withdrawn", x.met(1, 0), 60);
        c.due("of another team", x.met(2, 0), 12);
        c.due("defaults take nothing away", x.met(4, 0), 255);
        c.due("both", x.met(3 + 8, 1), 32 + 64);
        c.due("more alone", x.met(8, 0), 31);
        c.due("just these, though a contradiction counts", x.met(1, 1), 255);
        c.due("a contradiction empties the other field, too", x.met(2 + 16, 1), 0);
        c.due("all", x.met(31, 0), 0);
        Meetjoin y = withFields(1);
        for (int line = 0; line < 30; line++) {
            y.oneOf(0, 0, line == 29 ? 1 : 255);
        }
        c.due("the 30th line", y.met(1 << 29, 0), 1);
        c.due("the first 29 lines", y.met((1 << 29) - 1, 0), 255);
    }

    private static void choices() {
        Meetjoin x = withFields(1);
        c.due("of one field", x.choices(0, 7), 1);
        x.field(0);
        x.field(0);
        c.due("of three fields", x.choices(1, 0), 64);
        x.field(0);
        c.due("of four fields, 500 at most", x.choices(3, 4), 500);
        x.oneOf(0, 0, 127);
        x.unlike(0, 1, 2);
        c.due("392 of four fields", x.choices(3, 4), 7 * 8 * 7);
        c.due("no choice has that number", x.choices(0, 7), 0);
        x.preset(0, 3, 1, 9);
        c.due("defaults do not bind choices", x.choices(3, 4), 392);
        x.more(1, 3, 0, 0);
        c.due("lines that do not count do not, either", x.choices(3, 4), 392);
        x.approve(3, true);
        c.due("those that count do", x.choices(3, 4), 56);
        x.oneOf(0, 0, 128);
        c.due("none with a contradiction", x.choices(1, 1), 0);
        around500();
    }

    private static void around500() {
        Meetjoin x = withFields(5);
        x.oneOf(0, 0, 31);
        x.oneOf(0, 1, 31);
        x.oneOf(0, 2, 31);
        x.oneOf(0, 3, 15);
        c.due("5 * 5 * 5 * 4 = 500", x.choices(4, 3), 500);
        x.unlike(0, 3, 4);
        c.due("375", x.choices(4, 3), 375);
        c.due("500 again", x.choices(4, 7), 500);
        x.withdraw(0, true);
        c.due("600 of 8 * 5 * 5 * 3", x.choices(4, 3), 500);
    }

    private static void isNarrower() {
        Meetjoin x = withFields(3);
        c.due("both all", x.isNarrower(0, 1), true);
        x.oneOf(0, 0, 14);
        x.oneOf(0, 1, 6);
        x.oneOf(0, 2, 24);
        c.due("narrower", x.isNarrower(1, 0), true);
        c.due("wider", x.isNarrower(0, 1), false);
        c.due("crossing", x.isNarrower(0, 2), false);
        c.due("itself", x.isNarrower(2, 2), true);
        x.preset(0, 0, 2, 0);
        c.due("what it may be, not what it is", x.isNarrower(0, 1), false);
        x.oneOf(0, 2, 1);
        c.due("nothing with a contradiction", x.isNarrower(0, 1), true);
    }

    private static void isSound() {
        Meetjoin x = withFields(2);
        x.oneOf(0, 0, 3);
        x.preset(0, 0, 1, 1);
        x.patch(0, 0, 5);
        c.due("settled, patched without a commit", x.isSound(), true);
        x.commit();
        x.wave(0, 1);
        x.patch(0, 1, 1);
        c.due("drifted", x.isSound(), true);
        x.oneOf(0, 0, 4);
        c.due("with a contradiction", x.isSound(), true);
        x.withdraw(2, true);
        x.approve(2, true);
        c.due("withdrawn and approved", x.isSound(), true);
    }

    private static void digest() {
        Meetjoin x = new Meetjoin();
        int[] ofNew = {0, 0, 0, 0, 0, 0, 0, -1, 0, 0, -1, 0, 0, -1, 0, 0, -1, 0, 0, -1, 0, 0, -1, 0, 0, -1, 0, 0, 1};
        c.due("of a new house", x.digest(), sum(ofNew));
        x.field(2);
        x.oneOf(2, 0, 8);
        x.oneOf(1, 0, 1);
        x.weight(0, 4);
        x.commit();
        x.wave(0, 2);
        x.patch(1, 0, 6);
        x.patch(4, 0, 2);
        x.knock();
        int[] due = {1, 2, 1, 0, 1, 1, 1, 12, 1, 2, 8, 1, 3, 4, 3, -1, 1, 0, 1, 0,
            -1, 0, 0, -1, 0, 1, 1, 6, -1, 0, 0, -1, -1, 0, 0, -1, -1, 0, 0, 2, -1, 0, 0, -1, 3, 1};
        c.due("of a house with all", x.digest(), sum(due));
        c.due("again", x.digest(), sum(due));
        x.approve(1, true);
        int[] dueWithContradiction = {1, 2, 2, 1, 0, 1, 1, -1, 1, 2, 0, 0, -1, 4, -1, -1, 3, 3, 1, 1,
            -1, 0, 0, -1, 0, 1, 1, 6, -1, 0, 0, -1, -1, 0, 0, -1, -1, 0, 0, 2, -1, 0, 0, -1, 3, 1};
        c.due("with a contradiction", x.digest(), sum(dueWithContradiction));
    }

    private static long sum(int[] all) {
        long d = 7703;
        for (int v : all) {
            d = d * 31 + v;
        }
        return d;
    }

    private static void nothingIsChanged() {
        Meetjoin x = withFields(3);
        x.bound(0, 0, 2, false);
        x.unlike(0, 0, 1);
        x.more(0, 2, 0, 1);
        x.preset(0, 0, 4, 1);
        x.preset(0, 1, 4, 1);
        for (int set = 0; set < 32; set++) {
            x.met(set, set % 3);
            x.choices(set % 3, set % 8);
            x.isNarrower(set % 3, set % 2);
            x.reason(set % 4 - 1);
            c.due("best choice stays", x.ofField(0, 5) + "" + x.ofField(1, 5) + x.ofField(2, 5), "203");
            c.due("values stay", x.value(0) + " " + x.value(1) + " " + x.value(2), "23456=4 01234567 34567=5");
        }
        x.isSound();
        x.digest();
    }
}
