/** Promises 2 to 10, by ordinary calls. What is refused: TellingBoundsTest; further edges: LineEdgesTest. */
public final class FieldsAndLinesTest {
    private static final Check c = new Check("FieldsAndLinesTest");

    public static void main(String[] args) {
        fields();
        oneOf();
        bounds();
        more();
        unlike();
        presets();
        fullOfLines();
        approve();
        withdraw();
        weights();
        c.end();
    }

    private static Meetjoin withFields(int fields) {
        Meetjoin x = new Meetjoin();
        for (int field = 0; field < fields; field++) {
            x.field(0);
        }
        return x;
    }

    private static void dueLine(Meetjoin x, int line, int... due) {
        for (int what = 0; what < due.length; what++) {
            c.due("ofLine(" + line + ", " + what + ")", x.ofLine(line, what), due[what]);
        }
    }

    private static void fields() {
        Meetjoin x = new Meetjoin();
        int[] teams = {3, 0, 1, 2, 3};
        for (int field = 0; field < 5; field++) {
            c.due("field", x.field(teams[field]), field);
            c.due("its team", x.ofField(field, 0), teams[field]);
            c.due("what it may be", x.ofField(field, 1), 255);
            c.due("its weight", x.ofField(field, 4), 1);
            c.due("fields", x.house(0), field + 1);
        }
    }

    private static void oneOf() {
        Meetjoin x = withFields(2);
        c.due("oneOf", x.oneOf(0, 1, 0b10100000), 0);
        c.due("value", x.value(1), "57");
        c.due("the other field", x.value(0), "01234567");
        c.due("oneOf of all", x.oneOf(2, 0, 255), 1);
        c.due("oneOf of 0", x.oneOf(0, 0, 1), 2);
        c.due("value", x.value(0), "0=0");
        dueLine(x, 0, 0, 0, 1, 160, 0, 1, 0);
        dueLine(x, 1, 0, 2, 0, 255, 0, 0, 0);
    }

    private static void bounds() {
        Meetjoin x = withFields(2);
        c.due("at least", x.bound(0, 0, 3, false), 0);
        c.due("value", x.value(0), "34567");
        c.due("at most", x.bound(0, 0, 5, true), 1);
        c.due("value", x.value(0), "345");
        x.bound(0, 1, 0, false);
        x.bound(0, 1, 7, true);
        c.due("bounds that take nothing", x.value(1), "01234567");
        x.bound(0, 1, 7, false);
        c.due("at least 7", x.value(1), "7=7");
        x.bound(0, 1, 0, true);
        c.due("at most 0 besides", x.value(1), "!");
        dueLine(x, 0, 1, 0, 0, 3, 0, 1, 0);
        dueLine(x, 1, 2, 0, 0, 5, 0, 1, 0);
        dueLine(x, 5, 2, 0, 1, 0, 0, 1, 1);
    }

    private static void more() {
        Meetjoin x = withFields(3);
        c.due("more", x.more(0, 1, 0, 2), 0);
        c.due("the field", x.value(1), "234567");
        c.due("the other field", x.value(0), "012345");
        x.more(0, 2, 1, -7);
        c.due("less by 7", x.value(2), "0=0");
        c.due("less by 7, the other one", x.value(1), "7=7");
        c.due("and on to the first", x.value(0), "5=5");
        dueLine(x, 0, 3, 0, 1, 0, 2, 1, 0);
        dueLine(x, 1, 3, 0, 2, 1, -7, 1, 0);
        x.more(3, 2, 1, 7);
        dueLine(x, 2, 3, 3, 2, 1, 7, 0, 0);
        x.more(1, 0, 1, 0);
        dueLine(x, 3, 3, 1, 0, 1, 0, 0, 0);
    }

    private static void unlike() {
        Meetjoin x = withFields(3);
        c.due("unlike", x.unlike(0, 0, 1), 0);
        c.due("nothing is taken away", x.value(0) + x.value(1), "0123456701234567");
        x.oneOf(0, 1, 16);
        c.due("the number of the other one", x.value(0), "0123567");
        x.unlike(0, 1, 2);
        c.due("the number of the first one", x.value(2), "0123567");
        x.oneOf(0, 2, 16 + 8);
        c.due("one is left", x.value(2), "3=3");
        dueLine(x, 2, 4, 0, 1, 2, 0, 1, 0);
    }

    private static void presets() {
        Meetjoin x = withFields(2);
        c.due("preset", x.preset(0, 0, 4, 9), 0);
        c.due("value", x.value(0), "01234567=4");
        c.due("of another team", x.preset(1, 1, 7, 0), 1);
        c.due("it does not count", x.value(1), "01234567");
        dueLine(x, 0, 5, 0, 0, 4, 9, 1, 0);
        dueLine(x, 1, 5, 1, 1, 7, 0, 0, 0);
    }

    private static void fullOfLines() {
        Meetjoin x = withFields(2);
        for (int line = 0; line < 30; line++) {
            c.due("line", x.oneOf(line % 4, line % 2, 255), line);
        }
        c.due("lines", x.house(1), 30);
        c.due("met by all 30 lines", x.met((1 << 30) - 1, 0), 255);
    }

    private static void approve() {
        Meetjoin x = withFields(2);
        x.oneOf(1, 0, 12);
        x.oneOf(0, 1, 3);
        c.due("another team's line does not count", x.value(0), "01234567");
        c.due("approve", x.approve(0, true), true);
        c.due("it counts now", x.value(0), "23");
        c.due("approve again", x.approve(0, true), true);
        c.due("not any more", x.approve(0, false), false);
        c.due("it does not count", x.value(0), "01234567");
        c.due("an own line counts either way", x.approve(1, false), true);
        c.due("an own line counts either way", x.approve(1, true), true);
        x.withdraw(0, true);
        c.due("approve what is withdrawn", x.approve(0, true), false);
        c.due("take the withdrawal back", x.withdraw(0, false), true);
        x.more(1, 1, 0, 0);
        c.due("the other field's team is not asked for", x.ofLine(2, 5), 0);
    }

    private static void withdraw() {
        Meetjoin x = withFields(1);
        x.oneOf(0, 0, 12);
        x.preset(0, 0, 2, 0);
        c.due("value", x.value(0), "23=2");
        c.due("withdraw", x.withdraw(0, true), false);
        c.due("value without it", x.value(0), "01234567=2");
        c.due("withdraw again", x.withdraw(0, true), false);
        c.due("withdraw the default", x.withdraw(1, true), false);
        c.due("value without both", x.value(0), "01234567");
        c.due("take it back", x.withdraw(0, false), true);
        c.due("value with it", x.value(0), "23");
        c.due("take back what is not withdrawn", x.withdraw(0, false), true);
        x.oneOf(1, 0, 1);
        c.due("another team's line does not count by that", x.withdraw(2, false), false);
        c.due("lines", x.house(1), 3);
    }

    private static void weights() {
        Meetjoin x = withFields(2);
        c.due("weight at first", x.weight(1, 9), 1);
        c.due("weight", x.weight(1, 0), 9);
        c.due("weight", x.weight(1, 5), 0);
        c.due("ofField 4", x.ofField(1, 4), 5);
        c.due("the other one's", x.ofField(0, 4), 1);
        x.bound(0, 1, 3, false);
        c.due("cost", x.house(7), 15);
        x.weight(1, 2);
        c.due("cost by the new weight", x.house(7), 6);
    }
}
