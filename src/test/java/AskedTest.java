/** Promises 16 to 23, by ordinary calls. What is refused: AskingBoundsTest; further edges: the EdgesTests. */
public final class AskedTest {
    private static final Check c = new Check("AskedTest");

    public static void main(String[] args) {
        ofField();
        find();
        bestChoices();
        ofLine();
        ofMachine();
        hasAndOfCommit();
        house();
        value();
        reason();
        c.end();
    }

    private static Meetjoin withFields(int fields) {
        Meetjoin x = new Meetjoin();
        for (int field = 0; field < fields; field++) {
            x.field(field % 4);
        }
        return x;
    }

    private static void ofField() {
        Meetjoin x = withFields(3);
        x.oneOf(1, 1, 2 + 16 + 128);
        x.preset(1, 1, 4, 2);
        x.weight(1, 7);
        int[] due = {1, 146, 3, 4, 7, 1, -1};
        for (int what = 0; what <= 6; what++) {
            c.due("ofField(1, " + what + ")", x.ofField(1, what), due[what]);
        }
        c.due("of all 8 numbers", x.ofField(0, 2), 8);
        c.due("is nothing", x.ofField(0, 3), -1);
    }

    private static void find() {
        Meetjoin x = withFields(2);
        c.due("no commit", x.ofField(0, 6), -1);
        x.oneOf(0, 0, 4);
        x.commit();
        c.due("never commit 0", x.ofField(0, 6), -1);
        x.commit();
        c.due("the same again", x.ofField(0, 6), -1);
        x.oneOf(1, 1, 1);
        c.due("not ahead of the commit", x.ofField(1, 6), -1);
        x.commit();
        c.due("from none to a number", x.ofField(1, 6), 2);
        x.withdraw(0, true);
        x.withdraw(1, true);
        x.commit();
        c.due("from a number to none", x.ofField(0, 6), 3);
        c.due("the first change stays that", x.ofField(1, 6), 2);
        int late = x.field(0);
        c.due("a late field", x.ofField(late, 6), -1);
        x.oneOf(0, late, 8);
        x.commit();
        c.due("a late field was none ahead of that", x.ofField(late, 6), 4);
    }

    private static void bestChoices() {
        Meetjoin x = withFields(2);
        c.due("the least of all", x.house(7) + " " + x.ofField(0, 5) + x.ofField(1, 5), "0 00");
        x.unlike(0, 0, 1);
        c.due("the smaller number at the first field", x.house(7) + " " + x.ofField(0, 5) + x.ofField(1, 5), "1 01");
        x.weight(1, 2);
        c.due("the less dear one", x.house(7) + " " + x.ofField(0, 5) + x.ofField(1, 5), "1 10");
        x.weight(0, 0);
        x.bound(0, 0, 3, false);
        c.due("by weight 0", x.house(7) + " " + x.ofField(0, 5) + x.ofField(1, 5), "0 30");
        x.more(1, 1, 0, 2);
        c.due("more", x.house(7) + " " + x.ofField(0, 5) + x.ofField(1, 5), "10 35");
        x.weight(0, 9);
        c.due("of both weights", x.house(7), 37);
        x.preset(0, 0, 4, 9);
        c.due("defaults do not bind it", x.ofField(0, 3) + " " + x.ofField(0, 5), "4 3");
        x.oneOf(0, 0, 1);
        c.due("none with a contradiction", x.house(7) + " " + x.ofField(0, 5) + x.ofField(1, 5), "-1 -1-1");
        Meetjoin y = withFields(5);
        for (int line = 0; line < 10; line++) {
            int one = "0000111223".charAt(line) - '0';
            int other = "1234234344".charAt(line) - '0';
            y.unlike(one % 4, one, other);
        }
        y.weight(4, 9);
        y.weight(0, 2);
        StringBuilder best = new StringBuilder();
        for (int field = 0; field < 5; field++) {
            best.append(y.ofField(field, 5));
        }
        c.due("five that are all unlike", best.toString(), "12340");
        c.due("its cost", y.house(7), 11);
        c.due("without fields", new Meetjoin().house(7), -1);
        Meetjoin z = withFields(2);
        z.more(0, 0, 1, 3);
        z.bound(1, 1, 4, false);
        c.due("up to 7, the field that is more first", z.house(7) + " " + z.ofField(0, 5) + z.ofField(1, 5), "11 74");
        z.withdraw(1, true);
        z.unlike(0, 0, 1);
        c.due("more and unlike at once", z.house(7) + " " + z.ofField(0, 5) + z.ofField(1, 5), "3 30");
        z.bound(0, 0, 4, false);
        z.oneOf(1, 1, 2 + 4);
        c.due("the other one by the first", z.house(7) + " " + z.ofField(0, 5) + z.ofField(1, 5), "5 41");
    }

    private static void ofLine() {
        Meetjoin x = withFields(5);
        x.oneOf(3, 4, 200);
        x.bound(0, 0, 6, false);
        x.bound(0, 0, 7, true);
        x.more(2, 3, 1, -3);
        x.unlike(1, 2, 4);
        x.preset(2, 2, 5, 8);
        int[][] due = {{0, 3, 4, 200, 0, 0, 0}, {1, 0, 0, 6, 0, 1, 0}, {2, 0, 0, 7, 0, 1, 0},
            {3, 2, 3, 1, -3, 0, 0}, {4, 1, 2, 4, 0, 0, 0}, {5, 2, 2, 5, 8, 1, 0}};
        for (int line = 0; line < 6; line++) {
            for (int what = 0; what <= 6; what++) {
                c.due("ofLine(" + line + ", " + what + ")", x.ofLine(line, what), due[line][what]);
            }
        }
        x.bound(0, 0, 5, true);
        c.due("in the reason", x.ofLine(1, 6) + "" + x.ofLine(2, 6) + x.ofLine(6, 6), "101");
    }

    private static void ofMachine() {
        Meetjoin x = withFields(3);
        x.oneOf(1, 1, 2);
        x.commit();
        x.commit();
        x.wave(1, 4);
        c.due("commit", x.ofMachine(2, 0), 1);
        c.due("of another machine", x.ofMachine(3, 0), -1);
        x.patch(2, 0, 0);
        x.patch(2, 2, 7);
        x.patch(2, 1, 1);
        c.due("how many drift", x.ofMachine(2, 1), 2);
        c.due("which drift", x.ofMachine(2, 2), 5);
    }

    private static void hasAndOfCommit() {
        Meetjoin x = withFields(2);
        x.oneOf(1, 1, 64);
        x.commit();
        x.wave(0, 32);
        c.due("has", x.has(5, 1), 6);
        c.due("has none", x.has(5, 0), -1);
        c.due("another machine has none", x.has(4, 1), -1);
        c.due("ofCommit", x.ofCommit(0, 1), 6);
        c.due("ofCommit none", x.ofCommit(0, 0), -1);
    }

    private static void house() {
        Meetjoin x = withFields(3);
        x.oneOf(0, 0, 16);
        x.preset(1, 1, 3, 0);
        x.bound(3, 2, 1, true);
        x.preset(0, 2, 1, 0);
        x.commit();
        x.commit();
        x.wave(0, 15);
        x.patch(0, 0, 1);
        x.patch(0, 1, 1);
        x.patch(2, 2, 1);
        x.patch(5, 2, 1);
        x.knock();
        int[] due = {3, 4, 2, 0, 2, 2, 2, 4, 1};
        for (int what = 0; what <= 8; what++) {
            c.due("house(" + what + ")", x.house(what), due[what]);
        }
        x.oneOf(0, 0, 1);
        int[] dueWithContradiction = {3, 5, 3, 1, 0, 2, 2, -1, 1};
        for (int what = 0; what <= 8; what++) {
            c.due("house(" + what + ") with a contradiction", x.house(what), dueWithContradiction[what]);
        }
    }

    private static void value() {
        Meetjoin x = withFields(1);
        c.due("all", x.value(0), "01234567");
        x.oneOf(0, 0, 1 + 128);
        c.due("two", x.value(0), "07");
        x.preset(0, 0, 7, 0);
        c.due("settled", x.value(0), "07=7");
        x.bound(0, 0, 6, true);
        c.due("one", x.value(0), "0=0");
        x.bound(0, 0, 1, false);
        c.due("none", x.value(0), "!");
    }

    private static void reason() {
        Meetjoin x = withFields(2);
        c.due("without lines", x.reason(-1) + " " + x.reason(0), "0 0");
        for (int line = 0; line < 29; line++) {
            x.preset(0, 0, line % 8, line % 10);
        }
        x.oneOf(0, 0, 1);
        c.due("of the last line", x.reason(0), 1 << 29);
        c.due("of the other field", x.reason(1), 0);
        Meetjoin y = new Meetjoin();
        c.due("none is let without fields, too", y.reason(-1), 0);
    }
}
