/** Section 3, and promise 23: each sentence that names a boundary case of reasons. */
public final class ReasonEdgesTest {
    private static final Check c = new Check("ReasonEdgesTest");

    public static void main(String[] args) {
        emptyWithoutAContradiction();
        linesThatCountAlone();
        fromTheFirstLineOn();
        ofAllThirtyLines();
        thatForTheContradiction();
        justTheSame();
        ofAFieldThatMayBeAll();
        noneIsLet();
        c.end();
    }

    private static Meetjoin withFields(int fields) {
        Meetjoin x = new Meetjoin();
        for (int field = 0; field < fields; field++) {
            x.field(0);
        }
        return x;
    }

    private static void emptyWithoutAContradiction() {
        c.at("what stays is the REASON (empty without a CONTRADICTION)");
        Meetjoin x = withFields(2);
        c.due("without lines", x.reason(-1), 0);
        x.oneOf(0, 0, 1);
        x.more(0, 1, 0, 7);
        x.unlike(0, 0, 1);
        c.due("with lines that take all but one number away", x.value(0) + " " + x.value(1), "0=0 7=7");
        c.due("reason", x.reason(-1), 0);
        for (int line = 0; line < 3; line++) {
            c.due("line in it", x.ofLine(line, 6), 0);
        }
        x.bound(0, 1, 6, true);
        c.due("with a contradiction", x.reason(-1), 8 + 2);
        x.withdraw(3, true);
        c.due("it is gone again", x.reason(-1), 0);
        c.due("without a choice, but without a contradiction", noChoice().reason(-1), 0);
        c.due("that of its field", noChoice().reason(0), 1);
    }

    private static Meetjoin noChoice() {
        Meetjoin x = withFields(3);
        for (int field = 0; field < 3; field++) {
            x.oneOf(0, field, 3);
            x.unlike(0, field, (field + 1) % 3);
        }
        return x;
    }

    private static void linesThatCountAlone() {
        c.at("of all LINES that COUNT (but DEFAULTS)");
        Meetjoin x = withFields(1);
        x.oneOf(0, 0, 1);
        x.preset(0, 0, 5, 9);
        x.oneOf(1, 0, 2);
        x.oneOf(0, 0, 4);
        x.withdraw(3, true);
        c.due("one alone", x.reason(-1) + " " + x.reason(0), "0 1");
        x.approve(2, true);
        c.due("an approved one", x.reason(-1) + " " + x.reason(0), "5 5");
        x.withdraw(3, false);
        c.due("one that counts again", x.reason(-1), 12);
        c.due("lines in it", x.ofLine(0, 6) + "" + x.ofLine(1, 6) + x.ofLine(2, 6) + x.ofLine(3, 6), "0011");
        x.approve(2, false);
        c.due("one that counts no more", x.reason(-1), 9);
    }

    private static void fromTheFirstLineOn() {
        c.at("LINE by LINE is left out, if there is a CONTRADICTION without it, too (and without those that were left out ahead)");
        Meetjoin x = withFields(2);
        x.bound(0, 0, 5, false);
        x.bound(0, 0, 6, false);
        x.bound(0, 0, 4, true);
        x.bound(0, 0, 5, true);
        c.due("the last that do", x.reason(-1), 2 + 8);
        x.more(0, 0, 1, 4);
        x.oneOf(0, 1, 1);
        c.due("by the other field", x.reason(-1), 2 + 16 + 32);
        x.withdraw(1, true);
        c.due("the other way", x.reason(-1), 1 + 16 + 32);
        x.withdraw(0, true);
        c.due("no contradiction by AT MOST alone", x.reason(-1), 0);
        c.due("the reason for 4", x.reason(0) + " " + x.value(0), (16 + 32) + " 4=4");
    }

    private static void ofAllThirtyLines() {
        c.at("as a set of LINES (at most 30)");
        Meetjoin x = withFields(2);
        for (int line = 0; line < 30; line++) {
            x.oneOf(0, line < 15 ? 0 : 1, line < 15 ? 3 : 12);
        }
        c.due("the last line of each field", x.reason(0) + " " + x.reason(1), (1 << 14) + " " + (1 << 29));
        Meetjoin y = withFields(1);
        y.oneOf(0, 0, 1);
        for (int line = 1; line < 29; line++) {
            y.preset(0, 0, line % 8, line % 10);
        }
        y.oneOf(0, 0, 2);
        c.due("the first and the last of 30", y.reason(-1), 1 + (1 << 29));
        c.due("in it", y.ofLine(0, 6) + "" + y.ofLine(28, 6) + y.ofLine(29, 6), "101");
        Meetjoin z = withFields(1);
        for (int number = 0; number < 8; number++) {
            z.oneOf(0, 0, 255 - (1 << number));
        }
        c.due("all lines are needed", z.reason(-1), 255);
        z.withdraw(3, true);
        c.due("all but one are needed for 3", z.reason(0), 255 - 8);
    }

    private static void thatForTheContradiction() {
        c.at("If there is a CONTRADICTION, it is that for the CONTRADICTION");
        Meetjoin x = withFields(5);
        x.oneOf(0, 3, 1);
        x.oneOf(0, 0, 8);
        x.oneOf(0, 4, 1);
        c.due("ahead of it each has its own", x.reason(0) + " " + x.reason(3) + " " + x.reason(1), "2 1 0");
        x.bound(0, 4, 1, false);
        for (int field = -1; field < 5; field++) {
            c.due("of " + field, x.reason(field), 4 + 8);
        }
    }

    private static void justTheSame() {
        c.at("if the FIELD MAY be just the same without it, too");
        Meetjoin x = withFields(2);
        x.bound(0, 0, 2, false);
        x.bound(0, 0, 4, true);
        x.oneOf(0, 0, 0b00111100);
        c.due("one line stands for another one", x.reason(0), 2 + 4);
        x.preset(0, 0, 3, 0);
        c.due("it goes by what it may be, not by what it is", x.reason(0), 2 + 4);
        x.oneOf(0, 0, 0b00011100);
        c.due("the last that is enough", x.reason(0), 16);
        x.more(0, 1, 0, 3);
        c.due("of the other one", x.value(1) + " " + x.reason(1), "567=6 " + (16 + 32));
        x.bound(0, 1, 5, true);
        c.due("and back", x.value(0) + " " + x.reason(0), "2=2 " + (16 + 32 + 64));
    }

    private static void ofAFieldThatMayBeAll() {
        c.at("A REASON for a FIELD that MAY be all");
        Meetjoin x = withFields(2);
        x.oneOf(0, 0, 255);
        x.unlike(0, 0, 1);
        x.bound(0, 1, 0, false);
        c.due("no line is needed", x.reason(0) + " " + x.reason(1), "0 0");
    }

    private static void noneIsLet() {
        c.at("promise 23: NONE is let");
        c.due("on a new object", new Meetjoin().reason(-1), 0);
        c.due("with fields", withFields(5).reason(-1), 0);
        for (int fields = 0; fields <= 5; fields++) {
            c.due("but not -2", Scene.answer(withFields(fields), x -> x.reason(-2)), "throws java.lang.IndexOutOfBoundsException");
        }
    }
}
