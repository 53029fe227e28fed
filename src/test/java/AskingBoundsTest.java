/** Promises 16 to 26, each "Throws": just inside of each bound, just outside, far outside; and which is thrown first. */
public final class AskingBoundsTest {
    private static final Class<IndexOutOfBoundsException> INDEX = IndexOutOfBoundsException.class;
    private static final Class<IllegalArgumentException> ARGUMENT = IllegalArgumentException.class;
    private static final Check c = new Check("AskingBoundsTest");

    private static final Scene empty = new Scene(c, "a new house", x -> { });
    private static final Scene three = new Scene(c, "3 fields, 6 lines, 2 commits", Tales::middle);
    private static final Scene five = new Scene(c, "5 fields", Tales::fiveFields);
    private static final Scene full = new Scene(c, "30 lines", x -> Tales.linesUpTo(x, 30));
    private static final Scene twelve = new Scene(c, "12 commits", x -> Tales.commitsUpTo(x, 12));
    private static final Scene contradiction = new Scene(c, "a contradiction", Tales::contradiction);
    private static final Scene noLines = new Scene(c, "2 fields, no lines", x -> {
        x.field(0);
        x.field(1);
    });

    public static void main(String[] args) {
        ofField();
        ofLine();
        ofMachine();
        has();
        ofCommit();
        house();
        value();
        reason();
        met();
        metBeyondTheLines();
        choices();
        isNarrower();
        withAContradiction();
        c.end();
    }

    private static int[] outside(int least, int most) {
        return Scene.outside(least, most);
    }

    private static void ofField() {
        c.at("promise 16: Throws IndexOutOfBoundsException if there is no such FIELD");
        empty.refuses(INDEX, "ofField(0, 0)", x -> x.ofField(0, 0));
        for (int what = 0; what <= 6; what++) {
            int asked = what;
            for (int field : outside(0, 2)) {
                three.refuses(INDEX, "ofField(" + field + ", " + what + ")", x -> x.ofField(field, asked));
            }
        }
        for (int field : outside(0, 4)) {
            five.refuses(INDEX, "ofField(" + field + ", 0)", x -> x.ofField(field, 0));
        }
        three.answers(0, "ofField(0, 0)", x -> x.ofField(0, 0));
        three.answers(2, "ofField(2, 0)", x -> x.ofField(2, 0));
        five.answers(1, "ofField(4, 0)", x -> x.ofField(4, 0));
        c.at("promise 16: Throws IllegalArgumentException if what is not 0 to 6");
        for (int what : outside(0, 6)) {
            three.refuses(ARGUMENT, "ofField(0, " + what + ")", x -> x.ofField(0, what));
            three.refuses(ARGUMENT, "ofField(2, " + what + ")", x -> x.ofField(2, what));
        }
        three.answers(1, "ofField(1, 0), the first of what", x -> x.ofField(1, 0));
        twelve.answers(2, "ofField(0, 6), the last of what", x -> x.ofField(0, 6));
        c.at("promise 16: the one that is named first is thrown");
        three.refuses(INDEX, "ofField(3, 7)", x -> x.ofField(3, 7));
        three.refuses(INDEX, "ofField(-1, -1)", x -> x.ofField(-1, -1));
    }

    private static void ofLine() {
        c.at("promise 17: Throws IndexOutOfBoundsException if there is no such LINE");
        empty.refuses(INDEX, "ofLine(0, 0)", x -> x.ofLine(0, 0));
        noLines.refuses(INDEX, "ofLine(0, 0)", x -> x.ofLine(0, 0));
        for (int what = 0; what <= 6; what++) {
            int asked = what;
            for (int line : outside(0, 5)) {
                three.refuses(INDEX, "ofLine(" + line + ", " + what + ")", x -> x.ofLine(line, asked));
            }
        }
        for (int line : outside(0, 29)) {
            full.refuses(INDEX, "ofLine(" + line + ", 0)", x -> x.ofLine(line, 0));
        }
        three.answers(1, "ofLine(0, 0)", x -> x.ofLine(0, 0));
        three.answers(5, "ofLine(5, 0)", x -> x.ofLine(5, 0));
        full.answers(2, "ofLine(29, 0)", x -> x.ofLine(29, 0));
        c.at("promise 17: Throws IllegalArgumentException if what is not 0 to 6");
        for (int what : outside(0, 6)) {
            three.refuses(ARGUMENT, "ofLine(0, " + what + ")", x -> x.ofLine(0, what));
            three.refuses(ARGUMENT, "ofLine(5, " + what + ")", x -> x.ofLine(5, what));
        }
        three.answers(4, "ofLine(1, 0), the first of what", x -> x.ofLine(1, 0));
        contradiction.answers(1, "ofLine(6, 6), the last of what", x -> x.ofLine(6, 6));
        c.at("promise 17: the one that is named first is thrown");
        three.refuses(INDEX, "ofLine(6, 7)", x -> x.ofLine(6, 7));
        three.refuses(INDEX, "ofLine(-1, -1)", x -> x.ofLine(-1, -1));
    }

    private static void ofMachine() {
        c.at("promise 18: Throws IndexOutOfBoundsException if machine is not 0 to 5");
        for (int what = 0; what <= 2; what++) {
            int asked = what;
            for (int machine : outside(0, 5)) {
                three.refuses(INDEX, "ofMachine(" + machine + ", " + what + ")", x -> x.ofMachine(machine, asked));
                empty.refuses(INDEX, "ofMachine(" + machine + ", " + what + ")", x -> x.ofMachine(machine, asked));
            }
        }
        three.answers(0, "ofMachine(0, 0)", x -> x.ofMachine(0, 0));
        three.answers(-1, "ofMachine(5, 0)", x -> x.ofMachine(5, 0));
        empty.answers(-1, "ofMachine(0, 0)", x -> x.ofMachine(0, 0));
        c.at("promise 18: Throws IllegalArgumentException if what is not 0 to 2");
        for (int what : outside(0, 2)) {
            three.refuses(ARGUMENT, "ofMachine(0, " + what + ")", x -> x.ofMachine(0, what));
            three.refuses(ARGUMENT, "ofMachine(5, " + what + ")", x -> x.ofMachine(5, what));
        }
        three.answers(1, "ofMachine(2, 0), the first of what", x -> x.ofMachine(2, 0));
        three.answers(1, "ofMachine(1, 2), the last of what", x -> x.ofMachine(1, 2));
        c.at("promise 18: the one that is named first is thrown");
        three.refuses(INDEX, "ofMachine(6, 3)", x -> x.ofMachine(6, 3));
        three.refuses(INDEX, "ofMachine(-1, -1)", x -> x.ofMachine(-1, -1));
    }

    private static void has() {
        c.at("promise 19: Throws IndexOutOfBoundsException if machine is not 0 to 5, or there is no such FIELD");
        for (int machine : outside(0, 5)) {
            three.refuses(INDEX, "has(" + machine + ", 0)", x -> x.has(machine, 0));
            three.refuses(INDEX, "has(" + machine + ", 3)", x -> x.has(machine, 3));
        }
        empty.refuses(INDEX, "has(0, 0)", x -> x.has(0, 0));
        for (int field : outside(0, 2)) {
            three.refuses(INDEX, "has(0, " + field + ")", x -> x.has(0, field));
            three.refuses(INDEX, "has(5, " + field + ")", x -> x.has(5, field));
        }
        for (int field : outside(0, 4)) {
            five.refuses(INDEX, "has(0, " + field + ")", x -> x.has(0, field));
        }
        three.answers(4, "has(0, 0)", x -> x.has(0, 0));
        three.answers(2, "has(5, 1)", x -> x.has(5, 1));
        three.answers(-1, "has(0, 2)", x -> x.has(0, 2));
        five.answers(-1, "has(5, 4)", x -> x.has(5, 4));
    }

    private static void ofCommit() {
        c.at("promise 20: Throws IndexOutOfBoundsException if there is no such COMMIT, or FIELD");
        empty.refuses(INDEX, "ofCommit(0, 0)", x -> x.ofCommit(0, 0));
        noLines.refuses(INDEX, "ofCommit(0, 0)", x -> x.ofCommit(0, 0));
        for (int commit : outside(0, 1)) {
            three.refuses(INDEX, "ofCommit(" + commit + ", 0)", x -> x.ofCommit(commit, 0));
            three.refuses(INDEX, "ofCommit(" + commit + ", 3)", x -> x.ofCommit(commit, 3));
        }
        for (int commit : outside(0, 11)) {
            twelve.refuses(INDEX, "ofCommit(" + commit + ", 0)", x -> x.ofCommit(commit, 0));
        }
        for (int field : outside(0, 2)) {
            three.refuses(INDEX, "ofCommit(0, " + field + ")", x -> x.ofCommit(0, field));
            three.refuses(INDEX, "ofCommit(1, " + field + ")", x -> x.ofCommit(1, field));
        }
        for (int field : outside(0, 4)) {
            five.refuses(INDEX, "ofCommit(1, " + field + ")", x -> x.ofCommit(1, field));
        }
        three.answers(4, "ofCommit(0, 0)", x -> x.ofCommit(0, 0));
        three.answers(3, "ofCommit(1, 2)", x -> x.ofCommit(1, 2));
        five.answers(-1, "ofCommit(1, 4)", x -> x.ofCommit(1, 4));
        twelve.answers(4, "ofCommit(11, 0)", x -> x.ofCommit(11, 0));
        new Scene(c, "a commit without fields", x -> x.commit()).refuses(INDEX, "ofCommit(0, 0)", x -> x.ofCommit(0, 0));
    }

    private static void house() {
        c.at("promise 21: Throws IllegalArgumentException if what is not 0 to 8");
        for (int what : outside(0, 8)) {
            empty.refuses(ARGUMENT, "house(" + what + ")", x -> x.house(what));
            three.refuses(ARGUMENT, "house(" + what + ")", x -> x.house(what));
        }
        three.answers(3, "house(0), the first of what", x -> x.house(0));
        three.answers(1, "house(8), the last of what", x -> x.house(8));
    }

    private static void value() {
        c.at("promise 22: Throws IndexOutOfBoundsException if there is no such FIELD");
        empty.refuses(INDEX, "value(0)", x -> x.value(0));
        for (int field : outside(0, 2)) {
            three.refuses(INDEX, "value(" + field + ")", x -> x.value(field));
        }
        for (int field : outside(0, 4)) {
            five.refuses(INDEX, "value(" + field + ")", x -> x.value(field));
        }
        three.answers("1234567=4", "value(0)", x -> x.value(0));
        three.answers("1234567=3", "value(2)", x -> x.value(2));
        five.answers("01234567", "value(4)", x -> x.value(4));
    }

    private static void reason() {
        c.at("promise 23: Throws IndexOutOfBoundsException if there is no such FIELD (NONE is let)");
        for (int field : new int[] {-2, 0, 1, Integer.MIN_VALUE, Integer.MAX_VALUE, -257}) {
            empty.refuses(INDEX, "reason(" + field + ")", x -> x.reason(field));
        }
        for (int field : new int[] {-2, 3, Integer.MIN_VALUE, Integer.MAX_VALUE, -257, 255}) {
            three.refuses(INDEX, "reason(" + field + ")", x -> x.reason(field));
            contradiction.refuses(INDEX, "reason(" + field + ")", x -> x.reason(field));
        }
        for (int field : new int[] {-2, 5, Integer.MIN_VALUE, Integer.MAX_VALUE}) {
            five.refuses(INDEX, "reason(" + field + ")", x -> x.reason(field));
        }
        c.at("promise 23: NONE is let");
        empty.answers(0, "reason(-1)", x -> x.reason(-1));
        three.answers(0, "reason(-1)", x -> x.reason(-1));
        contradiction.answers(1 + 64, "reason(-1)", x -> x.reason(-1));
        three.answers(1, "reason(0)", x -> x.reason(0));
        three.answers(4, "reason(2)", x -> x.reason(2));
        five.answers(0, "reason(4)", x -> x.reason(4));
    }

    private static void met() {
        c.at("promise 24: Throws IndexOutOfBoundsException if there is no such FIELD");
        empty.refuses(INDEX, "met(0, 0)", x -> x.met(0, 0));
        for (int field : outside(0, 2)) {
            three.refuses(INDEX, "met(0, " + field + ")", x -> x.met(0, field));
            three.refuses(INDEX, "met(63, " + field + ")", x -> x.met(63, field));
        }
        for (int field : outside(0, 4)) {
            five.refuses(INDEX, "met(0, " + field + ")", x -> x.met(0, field));
        }
        three.answers(254, "met(1, 0)", x -> x.met(1, 0));
        three.answers(254, "met(4, 2)", x -> x.met(4, 2));
        five.answers(255, "met(0, 4)", x -> x.met(0, 4));
        c.at("promise 24: the one that is named first is thrown");
        three.refuses(INDEX, "met(64, 3)", x -> x.met(64, 3));
        three.refuses(INDEX, "met(-1, -1)", x -> x.met(-1, -1));
        empty.refuses(INDEX, "met(1, 0)", x -> x.met(1, 0));
    }

    private static void metBeyondTheLines() {
        c.at("promise 24: Throws IllegalArgumentException if lines is no set of LINES that there are");
        int[] never = {-1, -2, -64, Integer.MIN_VALUE, Integer.MIN_VALUE + 1, Integer.MAX_VALUE, 1 << 30, 3 << 30};
        for (int lines : never) {
            noLines.refuses(ARGUMENT, "met(" + lines + ", 0)", x -> x.met(lines, 0));
            three.refuses(ARGUMENT, "met(" + lines + ", 0)", x -> x.met(lines, 0));
            full.refuses(ARGUMENT, "met(" + lines + ", 2)", x -> x.met(lines, 2));
        }
        for (int lines : new int[] {1, 2, 1 << 29}) {
            noLines.refuses(ARGUMENT, "met(" + lines + ", 1)", x -> x.met(lines, 1));
        }
        for (int lines : new int[] {64, 65, 127, 128, 64 + 1024, 1 << 29}) {
            three.refuses(ARGUMENT, "met(" + lines + ", 0)", x -> x.met(lines, 0));
        }
        noLines.answers(255, "met(0, 1)", x -> x.met(0, 1));
        three.answers(12, "met(63, 1), all of 6 lines", x -> x.met(63, 1));
        three.answers(255, "met(32, 1), the last of 6 lines", x -> x.met(32, 1));
        full.answers(126, "met of all 30 lines", x -> x.met((1 << 30) - 1, 0));
        full.answers(12, "met of all 30 lines", x -> x.met((1 << 30) - 1, 1));
        full.answers(24, "met of all 30 lines", x -> x.met((1 << 30) - 1, 2));
        full.answers(127, "met of the last of 30 lines", x -> x.met(1 << 29, 2));
    }

    private static void choices() {
        c.at("promise 25: Throws IndexOutOfBoundsException if there is no such FIELD");
        empty.refuses(INDEX, "choices(0, 0)", x -> x.choices(0, 0));
        for (int field : outside(0, 2)) {
            three.refuses(INDEX, "choices(" + field + ", 1)", x -> x.choices(field, 1));
        }
        for (int field : outside(0, 4)) {
            five.refuses(INDEX, "choices(" + field + ", 1)", x -> x.choices(field, 1));
        }
        c.at("promise 25: Throws IllegalArgumentException if number is not 0 to 7");
        for (int number : outside(0, 7)) {
            three.refuses(ARGUMENT, "choices(0, " + number + ")", x -> x.choices(0, number));
            three.refuses(ARGUMENT, "choices(2, " + number + ")", x -> x.choices(2, number));
        }
        for (int number : new int[] {8, 32, 39, 64, -32}) {
            noLines.refuses(ARGUMENT, "choices(1, " + number + ")", x -> x.choices(1, number));
        }
        noLines.answers(8, "choices(0, 0)", x -> x.choices(0, 0));
        noLines.answers(8, "choices(1, 7)", x -> x.choices(1, 7));
        three.answers(0, "choices(0, 0)", x -> x.choices(0, 0));
        three.answers(7, "choices(0, 7)", x -> x.choices(0, 7));
        three.answers(6, "choices(2, 7)", x -> x.choices(2, 7));
        c.at("promise 25: the one that is named first is thrown");
        three.refuses(INDEX, "choices(3, 8)", x -> x.choices(3, 8));
        three.refuses(INDEX, "choices(-1, -1)", x -> x.choices(-1, -1));
    }

    private static void isNarrower() {
        c.at("promise 26: Throws IndexOutOfBoundsException if there is no such FIELD, of both");
        empty.refuses(INDEX, "isNarrower(0, 0)", x -> x.isNarrower(0, 0));
        for (int field : outside(0, 2)) {
            three.refuses(INDEX, "isNarrower(" + field + ", 0)", x -> x.isNarrower(field, 0));
            three.refuses(INDEX, "isNarrower(0, " + field + ")", x -> x.isNarrower(0, field));
            three.refuses(INDEX, "isNarrower(" + field + ", " + field + ")", x -> x.isNarrower(field, field));
        }
        for (int field : outside(0, 4)) {
            five.refuses(INDEX, "isNarrower(" + field + ", 4)", x -> x.isNarrower(field, 4));
            five.refuses(INDEX, "isNarrower(4, " + field + ")", x -> x.isNarrower(4, field));
        }
        three.answers(false, "isNarrower(1, 2)", x -> x.isNarrower(1, 2));
        three.answers(true, "isNarrower(2, 0)", x -> x.isNarrower(2, 0));
        five.answers(true, "isNarrower(0, 4)", x -> x.isNarrower(0, 4));
        five.answers(false, "isNarrower(4, 0)", x -> x.isNarrower(4, 0));
    }

    private static void withAContradiction() {
        c.at("A method that throws an exception changes nothing. (With a CONTRADICTION)");
        contradiction.refuses(INDEX, "ofField(3, 0)", x -> x.ofField(3, 0));
        contradiction.refuses(ARGUMENT, "ofLine(0, 7)", x -> x.ofLine(0, 7));
        contradiction.refuses(ARGUMENT, "ofMachine(0, 3)", x -> x.ofMachine(0, 3));
        contradiction.refuses(INDEX, "has(0, 3)", x -> x.has(0, 3));
        contradiction.refuses(INDEX, "ofCommit(2, 0)", x -> x.ofCommit(2, 0));
        contradiction.refuses(ARGUMENT, "house(9)", x -> x.house(9));
        contradiction.refuses(INDEX, "value(3)", x -> x.value(3));
        contradiction.refuses(ARGUMENT, "met(128, 0)", x -> x.met(128, 0));
        contradiction.refuses(ARGUMENT, "choices(0, 8)", x -> x.choices(0, 8));
        contradiction.refuses(INDEX, "isNarrower(0, 3)", x -> x.isNarrower(0, 3));
        contradiction.refuses(INDEX, "patch(0, 3, 0)", x -> x.patch(0, 3, 0));
    }
}
