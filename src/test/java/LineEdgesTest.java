/** Section 1: each sentence that names a bound of fields and lines. What is refused beyond it: TellingBoundsTest. */
public final class LineEdgesTest {
    private static final Check c = new Check("LineEdgesTest");

    public static void main(String[] args) {
        fiveFields();
        teams();
        allNumbersWithoutLines();
        thirtyLines();
        thirtyLinesStayThirty();
        sets();
        bounds();
        moreBy();
        ranks();
        neitherAtFirst();
        counts();
        c.end();
    }

    private static Meetjoin withFields(int fields) {
        Meetjoin x = new Meetjoin();
        for (int field = 0; field < fields; field++) {
            x.field(0);
        }
        return x;
    }

    private static void fiveFields() {
        c.at("FIELDS: at most 5, numbered from 0");
        Meetjoin x = new Meetjoin();
        for (int field = 0; field < 5; field++) {
            c.due("fields ahead", x.house(0), field);
            c.due("field", x.field(field % 4), field);
            c.due("fields behind", x.house(0), field + 1);
        }
        for (int field = 0; field < 5; field++) {
            x.oneOf(field % 4, field, 1 << field + 3);
        }
        for (int field = 0; field < 5; field++) {
            c.due("each of the five is one of its own", x.value(field), (field + 3) + "=" + (field + 3));
        }
        c.due("a sixth", Scene.answer(x, it -> it.field(0)), "throws java.lang.IllegalStateException");
        c.due("fields behind it", x.house(0), 5);
        c.due("the last one behind it", x.value(4), "7=7");
    }

    private static void teams() {
        c.at("each of a TEAM (0 to 3)");
        for (int ofField = 0; ofField <= 3; ofField++) {
            Meetjoin x = new Meetjoin();
            x.field(ofField);
            c.due("team of the field", x.ofField(0, 0), ofField);
            for (int by = 0; by <= 3; by++) {
                c.due("line", x.bound(by, 0, 7, true), by);
                c.due("team of the line", x.ofLine(by, 1), by);
                c.due("line of " + by + " counts for a field of " + ofField, x.ofLine(by, 5), by == ofField ? 1 : 0);
            }
            c.due("lines that count", x.house(2), 1);
        }
    }

    private static void allNumbersWithoutLines() {
        c.at("the numbers 0 to 7 (all of these, without LINES)");
        Meetjoin x = withFields(5);
        for (int field = 0; field < 5; field++) {
            c.due("may be", x.ofField(field, 1), 255);
            c.due("how many", x.ofField(field, 2), 8);
            c.due("value", x.value(field), "01234567");
            c.due("is", x.ofField(field, 3), -1);
            c.due("met", x.met(0, field), 255);
        }
        x.oneOf(1, 0, 1);
        x.preset(0, 0, 7, 0);
        c.due("with lines that do not count, or take nothing away", x.ofField(0, 1), 255);
    }

    private static int tellAny(Meetjoin x, int line) {
        switch (line % 5) {
            case 0: return x.oneOf(0, 0, 254);
            case 1: return x.bound(0, 1, line % 8, line % 2 == 0);
            case 2: return x.more(1, 0, 1, 1);
            case 3: return x.unlike(1, 1, 0);
            default: return x.preset(0, 0, line % 8, line % 10);
        }
    }

    private static void thirtyLines() {
        c.at("LINES: at most 30, numbered from 0");
        for (int last = 0; last < 5; last++) {
            Meetjoin x = withFields(2);
            for (int line = 0; line < 29; line++) {
                c.due("lines ahead", x.house(1), line);
                c.due("line", tellAny(x, line), line);
            }
            int kind = last;
            c.due("the 30th", tellAny(x, kind), 29);
            c.due("lines", x.house(1), 30);
            for (int sixth = 0; sixth < 5; sixth++) {
                int told = sixth;
                c.due("a 31st", Scene.answer(x, it -> tellAny(it, told)), "throws java.lang.IllegalStateException");
            }
            c.due("lines behind it", x.house(1), 30);
            c.due("the first line", x.ofLine(0, 3), 254);
        }
        Meetjoin y = withFields(1);
        for (int line = 0; line < 29; line++) {
            y.oneOf(1, 0, 1);
        }
        y.oneOf(1, 0, 1 << 6);
        c.due("the 30th does not count", y.value(0), "01234567");
        c.due("approve the 30th", y.approve(29, true), true);
        c.due("it counts", y.value(0), "6=6");
        c.due("it is the reason", y.reason(0), 1 << 29);
        c.due("met by it", y.met(1 << 29, 0), 64);
        y.approve(0, true);
        c.due("in the reason for a contradiction", y.reason(-1), (1 << 29) + 1);
        c.due("the 30th is in it", y.ofLine(29, 6), 1);
        c.due("withdraw the 30th", y.withdraw(29, true), false);
        c.due("it does not count", y.value(0), "0=0");
    }

    private static void thirtyLinesStayThirty() {
        c.at("LINES: at most 30, whether they COUNT or not");
        Meetjoin x = withFields(2);
        x.commit();
        x.wave(0, 1);
        x.patch(0, 0, 3);
        for (int line = 0; line < 29; line++) {
            x.oneOf(3, 0, 1);
            x.withdraw(line, true);
        }
        c.due("absorb may be the 30th", x.absorb(0, 0), 29);
        c.due("and takes its part", x.value(0), "3=3");
        c.due("absorb once more", Scene.answer(x, it -> it.absorb(0, 0)), "throws java.lang.IllegalStateException");
        for (int kind = 0; kind < 5; kind++) {
            int told = kind;
            c.due("a line more", Scene.answer(x, it -> tellAny(it, told)), "throws java.lang.IllegalStateException");
        }
        c.due("lines", x.house(1), 30);
        c.due("that count", x.house(2), 1);
    }

    private static void sets() {
        c.at("ONE OF a set (not empty): the FIELD is one of these numbers");
        for (int set = 1; set <= 255; set++) {
            Meetjoin x = withFields(1);
            x.oneOf(0, 0, set);
            c.due("may be, by " + set, x.ofField(0, 1), set);
            c.due("how many, by " + set, x.ofField(0, 2), Integer.bitCount(set));
            boolean isOne = Integer.bitCount(set) == 1;
            c.due("is, by " + set, x.ofField(0, 3), isOne ? Integer.numberOfTrailingZeros(set) : -1);
        }
        c.due("the empty set", Scene.answer(withFields(1), x -> x.oneOf(0, 0, 0)), "throws java.lang.IllegalArgumentException");
    }

    private static void bounds() {
        String all = "01234567";
        for (int number = 0; number <= 7; number++) {
            Meetjoin x = withFields(2);
            x.bound(0, 0, number, false);
            x.bound(0, 1, number, true);
            c.at("AT LEAST a number (0 to 7)");
            c.due("at least " + number, x.value(0), all.substring(number) + (number == 7 ? "=7" : ""));
            c.at("AT MOST a number (0 to 7)");
            c.due("at most " + number, x.value(1), all.substring(0, number + 1) + (number == 0 ? "=0" : ""));
            x.bound(0, 0, number, true);
            x.bound(0, 1, number, false);
            c.at("AT LEAST and AT MOST the same number");
            c.due("both of " + number, x.value(0), number + "=" + number);
            c.due("both of " + number, x.value(1), number + "=" + number);
            if (number > 0) {
                x.bound(0, 0, number - 1, true);
                c.due("one less than the least", x.value(0), "!");
            }
        }
    }

    private static void moreBy() {
        c.at("MORE than another FIELD, by a number (-7 to 7): the FIELD is that one and the number");
        String all = "01234567";
        for (int by = -7; by <= 7; by++) {
            Meetjoin x = withFields(2);
            x.more(0, 1, 0, by);
            String upper = all.substring(Math.abs(by));
            String lower = all.substring(0, 8 - Math.abs(by));
            boolean isOne = Math.abs(by) == 7;
            c.due("the field, by " + by, x.value(1), by >= 0 ? upper + (isOne ? "=7" : "") : lower + (isOne ? "=0" : ""));
            c.due("the other one, by " + by, x.value(0), by >= 0 ? lower + (isOne ? "=0" : "") : upper + (isOne ? "=7" : ""));
            c.due("how many, by " + by, x.ofField(0, 2) + " " + x.ofField(1, 2), upper.length() + " " + upper.length());
            c.due("the number of line", x.ofLine(0, 4), by);
            x.preset(0, 0, by >= 0 ? 0 : 7, 0);
            c.due("the field is, by " + by, x.ofField(1, 3), by >= 0 ? by : 7 + by);
            c.due("choices, by " + by, x.choices(0, by >= 0 ? 0 : 7), 1);
        }
    }

    private static void ranks() {
        c.at("DEFAULT a number (0 to 7), with a RANK (0 to 9)");
        Meetjoin x = withFields(1);
        for (int rank = 0; rank <= 9; rank++) {
            int number = rank * 3 % 8;
            x.preset(0, 0, number, rank);
            c.due("by rank " + rank, x.ofField(0, 3), number);
            c.due("rank of the line", x.ofLine(rank, 4), rank);
        }
        for (int rank = 9; rank >= 1; rank--) {
            x.withdraw(rank, true);
            c.due("without rank " + rank, x.ofField(0, 3), (rank - 1) * 3 % 8);
        }
        x.withdraw(0, true);
        c.due("without any", x.ofField(0, 3), -1);
        for (int number = 0; number <= 7; number++) {
            Meetjoin y = withFields(1);
            y.preset(0, 0, number, 9 - number);
            c.due("default " + number, y.value(0), "01234567=" + number);
        }
    }

    private static void neitherAtFirst() {
        c.at("A LINE can be WITHDRAWN, and APPROVED (neither at first)");
        Meetjoin x = withFields(2);
        for (int kind = 0; kind < 6; kind++) {
            int own = tell(x, kind, 0);
            int other = tell(x, kind, 1);
            c.due("an own line of kind " + kind + " is not withdrawn", x.ofLine(own, 5), 1);
            c.due("another team's line of kind " + kind + " is not approved", x.ofLine(other, 5), 0);
            c.due("number, rank, or 0 of kind " + kind, x.ofLine(own, 4), kind == 3 ? 1 : 0);
        }
        c.due("lines that count", x.house(2), 6);
        c.due("approved of old does not hold for a new line", x.approve(1, true), true);
        c.due("withdrawn of old does not, either", x.withdraw(0, true), false);
        c.due("a new line of another team", x.ofLine(tell(x, 0, 1), 5), 0);
        c.due("a new own line", x.ofLine(tell(x, 0, 0), 5), 1);
    }

    private static int tell(Meetjoin x, int kind, int team) {
        switch (kind) {
            case 0: return x.oneOf(team, 0, 127);
            case 1: return x.bound(team, 0, 1, false);
            case 2: return x.bound(team, 0, 6, true);
            case 3: return x.more(team, 0, 1, 1);
            case 4: return x.unlike(team, 0, 1);
            default: return x.preset(team, 0, 3, 0);
        }
    }

    private static void counts() {
        c.at("It COUNTS, if it is not WITHDRAWN, and either its TEAM is that of its FIELD, or it is APPROVED (or both)");
        for (int kind = 0; kind < 6; kind++) {
            for (int all = 0; all < 8; all++) {
                boolean isOwn = (all & 1) != 0;
                boolean isApproved = (all & 2) != 0;
                boolean isWithdrawn = (all & 4) != 0;
                boolean due = !isWithdrawn && (isOwn || isApproved);
                String what = "kind " + kind + ", own " + isOwn + ", approved " + isApproved + ", withdrawn " + isWithdrawn;
                Meetjoin x = withFields(2);
                tell(x, kind, isOwn ? 0 : 1);
                x.approve(0, isApproved);
                c.due(what, x.withdraw(0, isWithdrawn), due);
                c.due(what + ", asked", x.ofLine(0, 5), due ? 1 : 0);
                c.due(what + ", of the house", x.house(2), due ? 1 : 0);
                c.due(what + ", approved again", x.approve(0, isApproved), due);
                c.due(what + ", what the field may be", x.value(0), due ? valueBy(kind) : "01234567");
            }
        }
        Meetjoin y = new Meetjoin();
        y.field(2);
        y.field(3);
        y.more(3, 0, 1, 1);
        y.unlike(3, 0, 1);
        c.due("the team of the other field does not do", y.ofLine(0, 5) + y.ofLine(1, 5), 0);
        y.unlike(2, 0, 1);
        c.due("that of the field does", y.ofLine(2, 5), 1);
    }

    private static String valueBy(int kind) {
        String[] values = {"0123456", "1234567", "0123456", "1234567", "01234567", "01234567=3"};
        return values[kind];
    }
}
