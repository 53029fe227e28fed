/** Section 2: each sentence that names a boundary case of meeting and settling. */
public final class MeetEdgesTest {
    private static final Check c = new Check("MeetEdgesTest");

    public static void main(String[] args) {
        nothingLess();
        aCircle();
        moreAtBothEnds();
        unlikeOfOneNumber();
        unlikeOfMoreThanOne();
        unlikeOfBothTheSame();
        contradictionOfEachKind();
        contradictionEmptiesAll();
        noContradictionWithoutFields();
        defaultsTakeNothingAway();
        byLinesThatCount();
        nothingWithoutADefault();
        smallestNumberOfARank();
        defaultOfWhatItMayBeByThen();
        passedOver();
        passedOverByFieldsAhead();
        asItWasAheadOfIt();
        isNone();
        settledByALaterField();
        noSettlingInAContradiction();
        c.end();
    }

    private static Meetjoin withFields(int fields) {
        Meetjoin x = new Meetjoin();
        for (int field = 0; field < fields; field++) {
            x.field(0);
        }
        return x;
    }

    private static String values(Meetjoin x) {
        StringBuilder all = new StringBuilder();
        for (int field = 0; field < x.house(0); field++) {
            all.append(field == 0 ? "" : " ").append(x.value(field));
        }
        return all.toString();
    }

    private static void nothingLess() {
        c.at("at first each FIELD MAY be all of 0 to 7");
        Meetjoin x = withFields(2);
        x.oneOf(0, 0, 255);
        x.bound(0, 0, 0, false);
        x.bound(0, 0, 7, true);
        x.more(0, 0, 1, 0);
        x.unlike(1, 0, 1);
        c.due("lines that take nothing away", values(x), "01234567 01234567");
        x.oneOf(0, 1, 1);
        c.due("one that does, through the others", values(x), "0=0 0=0");
        x.withdraw(5, true);
        c.due("and back: all anew", values(x), "01234567 01234567");
    }

    private static void aCircle() {
        c.at("Then, as long as something becomes less by it");
        Meetjoin x = withFields(5);
        for (int field = 0; field < 5; field++) {
            x.more(0, field, (field + 1) % 5, field == 4 ? -4 : 1);
        }
        c.due("a circle that closes", values(x), "4567 3456 2345 1234 0123");
        x.oneOf(0, 2, 4 + 32);
        c.due("round it", values(x), "47 36 25 14 03");
        Meetjoin y = withFields(5);
        for (int field = 4; field >= 0; field--) {
            y.more(0, field, (field + 1) % 5, field == 4 ? -3 : 1);
        }
        c.due("one that does not, number by number down to nothing", values(y), "! ! ! ! !");
        Meetjoin last = withFields(3);
        last.more(0, 1, 0, 0);
        last.more(0, 2, 1, 0);
        last.oneOf(0, 2, 2 + 4);
        last.oneOf(0, 1, 2 + 4 + 16);
        c.due("each line takes from its other field alone, the last one from that of the first", values(last), "12 12 12");
        Meetjoin z = withFields(5);
        for (int field = 0; field < 4; field++) {
            z.unlike(0, field, field + 1);
            z.oneOf(0, field, 3);
        }
        z.oneOf(0, 4, 1);
        c.due("from the last field on to the first", values(z), "0=0 1=1 0=0 1=1 0=0");
    }

    private static void moreAtBothEnds() {
        c.at("MORE: what the FIELD MAY be, without any that the other one MAY be for it, and what the other one MAY be");
        Meetjoin x = withFields(2);
        x.more(0, 0, 1, 7);
        c.due("by 7", values(x), "7=7 0=0");
        Meetjoin y = withFields(2);
        y.more(0, 0, 1, -7);
        c.due("by -7", values(y), "0=0 7=7");
        Meetjoin z = withFields(2);
        z.more(0, 0, 1, 3);
        z.oneOf(0, 0, 0b01001001);
        c.due("without 0, which is too low", values(z), "36 03");
        z.oneOf(0, 1, 0b11110001);
        c.due("without what is too high", values(z), "3=3 0=0");
        z.oneOf(0, 1, 0b11110000);
        c.due("nothing for it", values(z), "! !");
    }

    private static void unlikeOfOneNumber() {
        c.at("UNLIKE: if one of both MAY be just one number, that from the other one");
        for (int number = 0; number <= 7; number++) {
            String rest = "01234567".replace("" + number, "");
            Meetjoin x = withFields(2);
            x.unlike(0, 0, 1);
            x.oneOf(0, 0, 1 << number);
            c.due("from the other one", values(x), number + "=" + number + " " + rest);
            Meetjoin y = withFields(2);
            y.unlike(0, 0, 1);
            y.oneOf(0, 1, 1 << number);
            c.due("from the field", values(y), rest + " " + number + "=" + number);
        }
        Meetjoin z = withFields(2);
        z.unlike(0, 0, 1);
        z.oneOf(0, 0, 2);
        z.oneOf(0, 1, 4 + 8);
        c.due("one that the other one may not be", values(z), "1=1 23");
    }

    private static void unlikeOfMoreThanOne() {
        c.at("UNLIKE: .. just one number");
        Meetjoin x = withFields(2);
        x.unlike(0, 0, 1);
        x.oneOf(0, 0, 3);
        c.due("two take nothing away", values(x), "01 01234567");
        x.oneOf(0, 1, 3);
        c.due("two of both", values(x), "01 01");
        x.bound(0, 1, 1, false);
        c.due("one takes it away, and one is left", values(x), "0=0 1=1");
    }

    private static void unlikeOfBothTheSame() {
        c.at("UNLIKE of two that MAY be just the same number");
        Meetjoin x = withFields(3);
        x.unlike(0, 0, 1);
        x.oneOf(0, 0, 8);
        x.oneOf(0, 1, 8);
        c.due("a contradiction", values(x) + " " + x.house(3), "! ! ! 1");
        c.due("by all three lines", x.reason(-1), 7);
        Meetjoin y = withFields(2);
        y.unlike(0, 0, 1);
        y.more(0, 0, 1, 0);
        c.due("unlike and the same, but more than one number: no contradiction", values(y), "01234567 01234567");
        c.due("though there is no choice", y.house(7) + " " + y.choices(0, 0), "-1 0");
        y.bound(0, 0, 0, true);
        c.due("with one number it is one", values(y), "! !");
    }

    private static void contradictionOfEachKind() {
        c.at("If a FIELD MAY be nothing, there is a CONTRADICTION");
        Meetjoin x = withFields(2);
        x.oneOf(0, 0, 1);
        x.oneOf(0, 0, 2);
        c.due("ONE OF", x.house(3), 1);
        Meetjoin y = withFields(2);
        y.bound(0, 1, 5, false);
        c.due("AT LEAST alone", y.house(3), 0);
        y.bound(0, 1, 5, true);
        c.due("one number is something", y.house(3), 0);
        y.bound(0, 1, 4, true);
        c.due("AT MOST below AT LEAST", y.house(3), 1);
        Meetjoin z = withFields(2);
        z.bound(0, 0, 1, false);
        z.more(0, 1, 0, 7);
        c.due("MORE beyond 7", z.house(3), 1);
        z.withdraw(0, true);
        c.due("MORE up to 7", z.house(3), 0);
        Meetjoin u = withFields(2);
        u.oneOf(0, 0, 1);
        u.oneOf(0, 1, 3);
        u.unlike(0, 1, 0);
        c.due("UNLIKE leaves one", u.house(3), 0);
        u.bound(0, 1, 0, true);
        c.due("UNLIKE leaves none", u.house(3), 1);
    }

    private static void contradictionEmptiesAll() {
        c.at("then all FIELDS are said to be EMPTY: they MAY be nothing");
        for (int bad = 0; bad < 5; bad++) {
            Meetjoin x = withFields(5);
            x.preset(0, 0, 3, 9);
            x.oneOf(0, 1, 16);
            x.oneOf(0, bad, 128);
            x.oneOf(0, bad, 64);
            for (int field = 0; field < 5; field++) {
                c.due("may be", x.ofField(field, 1), 0);
                c.due("how many", x.ofField(field, 2), 0);
                c.due("is", x.ofField(field, 3), -1);
                c.due("best", x.ofField(field, 5), -1);
                c.due("value", x.value(field), "!");
                c.due("met", x.met(12, field), 0);
                c.due("met by less", x.met(4, field), field == bad ? 128 : 255);
                c.due("choices", x.choices(field, 4), 0);
            }
            c.due("fields that are something", x.house(4), 0);
            c.due("cost", x.house(7), -1);
        }
        Meetjoin y = withFields(1);
        y.oneOf(0, 0, 1);
        y.oneOf(0, 0, 2);
        c.due("a field made in a contradiction is empty, too", y.value(y.field(0)), "!");
        y.withdraw(0, true);
        c.due("it is all without it", values(y), "1=1 01234567");
    }

    private static void noContradictionWithoutFields() {
        c.at("If a FIELD MAY be nothing (there is none)");
        Meetjoin x = new Meetjoin();
        c.due("contradiction", x.house(3), 0);
        c.due("reason", x.reason(-1), 0);
        c.due("commit", x.commit(), 0);
    }

    private static void defaultsTakeNothingAway() {
        c.at("each LINE of the set (but DEFAULTS) takes away");
        Meetjoin x = withFields(1);
        x.preset(0, 0, 3, 9);
        x.preset(0, 0, 4, 9);
        c.due("two defaults contradict nothing", x.value(0), "01234567=3");
        c.due("met", x.met(3, 0), 255);
        x.oneOf(0, 0, 32);
        c.due("nor a line", x.value(0) + x.house(3), "5=50");
    }

    private static void byLinesThatCount() {
        c.at("What FIELDS MAY be without more words is by all LINES that COUNT");
        Meetjoin x = withFields(2);
        x.oneOf(1, 0, 1);
        x.oneOf(0, 0, 2);
        x.withdraw(1, true);
        x.oneOf(2, 0, 4 + 8);
        x.approve(2, true);
        c.due("the approved one alone", values(x), "23 01234567");
        c.due("a contradiction of lines that do not count is none", x.house(3) + " " + x.reason(-1), "0 0");
        c.due("the others meet only if asked", x.met(3, 0), 0);
    }

    private static void nothingWithoutADefault() {
        c.at("(.. nothing without one)");
        Meetjoin x = withFields(3);
        x.preset(0, 1, 6, 0);
        x.preset(1, 0, 6, 0);
        x.preset(0, 2, 6, 0);
        x.withdraw(2, true);
        c.due("no default, one that does not count, one that is withdrawn", values(x), "01234567 01234567=6 01234567");
        c.due("fields that are something", x.house(4), 1);
    }

    private static void smallestNumberOfARank() {
        c.at("of several with that RANK that of the smallest number of 0 to 7");
        Meetjoin x = withFields(1);
        for (int number = 7; number >= 0; number--) {
            x.preset(0, 0, number, 4);
            c.due("not the first line, but the smallest number", x.value(0), "01234567=" + number);
        }
        x.preset(0, 0, 7, 5);
        c.due("the greatest rank goes ahead of that", x.value(0), "01234567=7");
        x.preset(0, 0, 7, 5);
        x.withdraw(8, true);
        c.due("the same default twice, one withdrawn", x.value(0), "01234567=7");
        x.withdraw(9, true);
        c.due("both withdrawn", x.value(0), "01234567=0");
    }

    private static void defaultOfWhatItMayBeByThen() {
        c.at("are of what it MAY be by then");
        Meetjoin x = withFields(3);
        x.more(0, 1, 0, 2);
        x.preset(0, 1, 7, 9);
        c.due("the last number that it may be", values(x), "012345=5 234567=7 01234567");
        x.preset(0, 0, 0, 0);
        c.due("by then it is one number", values(x), "012345=0 234567=2 01234567");
        x.preset(0, 2, 2, 9);
        x.preset(0, 2, 3, 9);
        x.unlike(0, 2, 1);
        c.due("the greatest rank, but not what it may be by then", values(x), "012345=0 234567=2 01234567=3");
        x.withdraw(2, true);
        c.due("then the field ahead is another one", values(x), "012345=5 234567=7 01234567=2");
    }

    /** Field 0 can be neither 1 nor 2 nor 3, as then the other two would be the same; but no line tells so at once. */
    private static Meetjoin pairs() {
        Meetjoin x = withFields(3);
        x.oneOf(0, 0, 0b11111111);
        x.oneOf(0, 1, 0b00000110);
        x.oneOf(0, 2, 0b00000110);
        x.unlike(0, 0, 1);
        x.unlike(0, 0, 2);
        x.unlike(0, 1, 2);
        return x;
    }

    private static void passedOver() {
        c.at("if that is a CONTRADICTION, it is not (the DEFAULT is passed over");
        Meetjoin x = pairs();
        x.preset(0, 0, 1, 9);
        c.due("the only default", values(x), "01234567 12 12");
        c.at("and the next one is taken likewise: of the same RANK that of the next greater number of 0 to 7");
        x.preset(0, 0, 3, 9);
        c.due("the next number of the rank", values(x), "01234567=3 12 12");
        x.preset(0, 0, 2, 9);
        c.due("which is passed over, too", values(x), "01234567=3 12 12");
        x.preset(0, 0, 0, 9);
        c.due("but the smallest number first", values(x), "01234567=0 12 12");
        x.withdraw(9, true);
        x.withdraw(7, true);
        c.at("then the next lower RANK");
        c.due("none is left of the rank", values(x), "01234567 12 12");
        x.preset(0, 0, 7, 3);
        x.preset(0, 0, 5, 0);
        x.preset(0, 0, 2, 8);
        c.due("a lower rank, behind one that is passed over", values(x), "01234567=7 12 12");
        x.withdraw(10, true);
        c.due("down to rank 0", values(x), "01234567=5 12 12");
        x.withdraw(11, true);
        c.due("all are passed over", values(x), "01234567 12 12");
    }

    private static void passedOverByFieldsAhead() {
        c.at("all MEET anew with this, and those of the FIELDS ahead, besides");
        Meetjoin x = withFields(4);
        x.oneOf(0, 2, 0b00001100);
        x.oneOf(0, 3, 0b00011100);
        x.unlike(0, 1, 2);
        x.unlike(0, 1, 3);
        x.unlike(0, 2, 3);
        x.unlike(0, 3, 0);
        x.preset(0, 1, 2, 5);
        x.preset(0, 1, 6, 5);
        c.due("no default ahead", values(x), "01234567 01234567=2 23=3 234=4");
        x.preset(0, 0, 4, 0);
        c.due("with that of field 0 the first of field 1 is passed over", values(x), "01234567=4 01234567=6 23 234");
        x.withdraw(7, true);
        c.due("without another one field 1 is none", values(x), "01234567=4 01234567 23 234");
        x.preset(0, 3, 2, 0);
        c.due("a field behind settles with that", values(x), "01234567=4 01234567 23=3 234=2");
    }

    private static void asItWasAheadOfIt() {
        c.at("all is as it was ahead of it");
        Meetjoin x = pairs();
        x.field(0);
        x.more(0, 3, 0, 1);
        x.preset(0, 0, 1, 9);
        c.due("what a default that is passed over said of others", values(x), "0123456 12 12 1234567");
        x.preset(0, 3, 5, 0);
        c.due("others settle without it", values(x), "0123456=4 12 12 1234567=5");
        x.preset(0, 1, 2, 0);
        c.due("each for itself", values(x), "0123456=4 12=2 12=1 1234567=5");
    }

    private static void isNone() {
        c.at("A FIELD that MAY be one number in the end IS that, any other one IS NONE");
        Meetjoin x = withFields(4);
        x.oneOf(0, 0, 1);
        x.oneOf(0, 1, 128);
        x.oneOf(0, 2, 129);
        c.due("one number without a default", x.ofField(0, 3) + " " + x.ofField(1, 3), "0 7");
        c.due("two numbers", x.ofField(2, 3), -1);
        c.due("eight numbers", x.ofField(3, 3), -1);
        c.due("fields that are something", x.house(4), 2);
        x.preset(0, 0, 5, 9);
        c.due("a default of another number than the one", x.value(0), "0=0");
        x.preset(0, 2, 5, 9);
        c.due("a default of none of both", x.value(2), "07");
        x.preset(0, 2, 0, 9);
        c.due("a default of one of both: it may still be both", x.value(2) + " " + x.ofField(2, 2), "07=0 2");
    }

    private static void settledByALaterField() {
        c.at("A FIELD that MAY be one number in the end");
        Meetjoin x = withFields(2);
        x.more(0, 0, 1, 1);
        x.preset(0, 1, 0, 0);
        c.due("a field without a default, by that of a later field", values(x), "1234567=1 0123456=0");
    }

    private static void noSettlingInAContradiction() {
        c.at("To SETTLE: if there is no CONTRADICTION");
        Meetjoin x = withFields(2);
        x.preset(0, 0, 3, 9);
        x.oneOf(0, 1, 1);
        c.due("ahead of it", values(x), "01234567=3 0=0");
        x.oneOf(0, 1, 2);
        c.due("in it", values(x) + " " + x.house(4), "! ! 0");
        x.withdraw(1, true);
        c.due("behind it", values(x), "01234567=3 1=1");
    }
}
