/** Sections 2 and 3 of the document: to meet, to settle, and what is left out of reasons. */
public final class MeetTest {
    private static final Check c = new Check("MeetTest");

    public static void main(String[] args) {
        chains();
        contradictionThatNoMeetingFinds();
        contradictionEmptiesAll();
        ranks();
        passedOver();
        defaultsOfFieldsAhead();
        defaultsOutsideAndForOneNumber();
        reasonsAreGreedy();
        reasonsOfFields();
        c.end();
    }

    private static Meetjoin withFields(int fields) {
        Meetjoin x = new Meetjoin();
        for (int field = 0; field < fields; field++) {
            x.field(0);
        }
        return x;
    }

    private static void chains() {
        Meetjoin x = withFields(5);
        for (int field = 0; field < 4; field++) {
            x.more(0, field, field + 1, 1);
        }
        c.due("the first of a chain", x.value(0), "4567");
        c.due("the last of a chain", x.value(4), "0123");
        x.oneOf(0, 4, 2 + 8);
        c.due("gaps go along the chain", x.value(0), "57");
        x.unlike(0, 0, 2);
        c.due("unlike takes nothing from more than one", x.value(0) + x.value(2), "5735");
        x.bound(0, 2, 4, true);
        c.due("all the way", x.value(0) + x.value(4), "5=51=1");
        Meetjoin z = withFields(3);
        z.more(0, 1, 2, 0);
        z.more(0, 0, 1, 0);
        z.oneOf(0, 0, 6);
        c.due("from the last line on to the first", z.value(0) + z.value(1) + z.value(2), "121212");
        z.withdraw(2, true);
        z.bound(0, 2, 6, false);
        z.more(0, 2, 1, 1);
        c.due("to the other one alone", z.value(1) + z.house(3), "!1");
        Meetjoin y = withFields(2);
        y.more(0, 0, 1, 1);
        y.more(0, 1, 0, 1);
        c.due("a circle that takes number after number away", y.value(0) + y.house(3), "!1");
    }

    private static void contradictionThatNoMeetingFinds() {
        Meetjoin x = withFields(3);
        for (int field = 0; field < 3; field++) {
            x.oneOf(0, field, 3);
            x.unlike(0, field, (field + 1) % 3);
        }
        c.due("it is no contradiction", x.house(3), 0);
        c.due("what fields may be", x.value(0), "01");
        c.due("but there is no choice", x.house(7), -1);
        x.preset(0, 0, 0, 3);
        c.due("a default that would be one is passed over", x.value(0), "01");
        c.due("reason", x.reason(-1), 0);
    }

    private static void contradictionEmptiesAll() {
        Meetjoin x = withFields(3);
        x.oneOf(0, 2, 4);
        x.preset(0, 0, 4, 0);
        x.oneOf(0, 1, 1);
        x.oneOf(0, 1, 2);
        for (int field = 0; field < 3; field++) {
            c.due("value", x.value(field), "!");
            c.due("may be", x.ofField(field, 1), 0);
            c.due("is", x.ofField(field, 3), -1);
        }
        c.due("a field made now is empty, too", x.value(x.field(1)), "!");
        x.withdraw(2, true);
        c.due("without it", x.value(0) + " " + x.value(1) + " " + x.value(2) + " " + x.value(3), "01234567=4 1=1 2=2 01234567");
    }

    private static void ranks() {
        Meetjoin x = withFields(1);
        x.preset(0, 0, 6, 0);
        c.due("the only default", x.value(0), "01234567=6");
        x.preset(0, 0, 7, 1);
        c.due("the greater rank", x.value(0), "01234567=7");
        x.preset(0, 0, 5, 1);
        c.due("of the same rank the smaller number", x.value(0), "01234567=5");
        x.preset(1, 0, 0, 9);
        c.due("one that does not count", x.value(0), "01234567=5");
        x.approve(3, true);
        c.due("approved", x.value(0), "01234567=0");
        x.oneOf(0, 0, 128 + 64 + 2);
        c.due("of what it may be", x.value(0), "167=7");
        x.withdraw(1, true);
        c.due("the next lower rank", x.value(0), "167=6");
        x.withdraw(0, true);
        c.due("none", x.value(0), "167");
    }

    private static void passedOver() {
        Meetjoin x = withFields(3);
        x.unlike(0, 0, 1);
        x.unlike(0, 1, 2);
        x.unlike(0, 2, 0);
        x.oneOf(0, 0, 8 + 4 + 1);
        x.oneOf(0, 1, 8 + 4);
        x.oneOf(0, 2, 8 + 4);
        c.due("no default yet", x.value(0), "023");
        x.preset(0, 0, 2, 5);
        c.due("as the other two would both be 3", x.value(0), "023");
        x.preset(0, 0, 3, 5);
        c.due("the next of the same rank is passed over, too", x.value(0), "023");
        x.preset(0, 0, 0, 4);
        c.due("the next lower rank", x.value(0), "023=0");
        c.due("the others are as they were", x.value(1) + x.value(2), "2323");
        x.preset(0, 2, 3, 0);
        c.due("and settle behind it", x.value(1) + x.value(2), "23=223=3");
    }

    private static void defaultsOfFieldsAhead() {
        Meetjoin x = withFields(3);
        x.unlike(0, 0, 1);
        x.preset(0, 1, 3, 9);
        x.preset(0, 0, 3, 0);
        c.due("the first field settles first, whatever the ranks", x.value(0) + " " + x.value(1), "01234567=3 01234567");
        x.preset(0, 1, 4, 0);
        c.due("the next one of what it may be by then", x.value(1), "01234567=4");
        x.more(0, 2, 1, 1);
        c.due("a field is what follows from the others' defaults", x.value(2), "1234567=5");
        x.preset(0, 2, 7, 9);
        c.due("its own default comes too late", x.value(2), "1234567=5");
    }

    private static void defaultsOutsideAndForOneNumber() {
        Meetjoin x = withFields(2);
        x.oneOf(0, 0, 16);
        x.preset(0, 0, 1, 9);
        c.due("what may be one number is that", x.value(0), "4=4");
        x.oneOf(0, 1, 6);
        x.preset(0, 1, 3, 9);
        c.due("a default of nothing that it may be", x.value(1), "12");
        c.due("is none", x.ofField(1, 3), -1);
    }

    private static void reasonsAreGreedy() {
        Meetjoin x = withFields(2);
        x.oneOf(0, 0, 1);
        x.preset(0, 0, 0, 0);
        x.oneOf(0, 0, 2);
        x.oneOf(0, 0, 4);
        x.oneOf(1, 0, 8);
        x.unlike(0, 0, 1);
        c.due("the last two that contradict stay", x.reason(-1), 4 + 8);
        c.due("the same for a field", x.reason(0), 12);
        c.due("for any field", x.reason(1), 12);
        for (int line = 0; line < 6; line++) {
            c.due("line " + line + " in the reason", x.ofLine(line, 6), line == 2 || line == 3 ? 1 : 0);
        }
        x.approve(4, true);
        c.due("with one more that counts", x.reason(-1), 8 + 16);
        x.withdraw(4, true);
        x.withdraw(3, true);
        c.due("with one less", x.reason(-1), 1 + 4);
        x.withdraw(0, true);
        c.due("without a contradiction", x.reason(-1), 0);
        c.due("line in no reason", x.ofLine(2, 6), 0);
    }

    private static void reasonsOfFields() {
        Meetjoin x = withFields(3);
        c.due("of a field without lines", x.reason(0), 0);
        x.bound(0, 0, 5, true);
        x.oneOf(0, 0, 15);
        x.bound(0, 0, 3, true);
        x.more(0, 1, 0, 4);
        x.preset(0, 0, 1, 1);
        c.due("the last of those that say the same", x.reason(0), 8);
        c.due("as the other one may be 7 at most", x.value(0) + " " + x.value(1), "0123=1 4567=5");
        c.due("of the field that follows", x.reason(1), 8);
        c.due("of a field that no line is about", x.reason(2), 0);
        x.bound(0, 0, 2, true);
        c.due("just the same, not a greater set", x.reason(1), 8 + 32);
        x.oneOf(0, 1, 32 + 64);
        c.due("by both sides", x.value(0) + " " + x.reason(0), "12=1 " + (8 + 64));
        x.unlike(0, 0, 2);
        x.oneOf(0, 2, 2);
        c.due("by the number of another one", x.reason(0) + " " + x.reason(2), (8 + 64 + 128 + 256) + " " + 256);
    }
}
