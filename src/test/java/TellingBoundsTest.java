/** Promises 2 to 10, each "Throws": just inside of each bound, just outside, far outside; and which is thrown first. */
public final class TellingBoundsTest {
    private static final Class<IndexOutOfBoundsException> INDEX = IndexOutOfBoundsException.class;
    private static final Class<IllegalArgumentException> ARGUMENT = IllegalArgumentException.class;
    private static final Class<IllegalStateException> STATE = IllegalStateException.class;
    private static final Check c = new Check("TellingBoundsTest");

    private static final Scene empty = new Scene(c, "a new house", x -> { });
    private static final Scene three = new Scene(c, "3 fields, 6 lines", Tales::middle);
    private static final Scene four = new Scene(c, "4 fields", Tales::fourFields);
    private static final Scene five = new Scene(c, "5 fields", Tales::fiveFields);
    private static final Scene almost = new Scene(c, "29 lines", x -> Tales.linesUpTo(x, 29));
    private static final Scene full = new Scene(c, "30 lines", x -> Tales.linesUpTo(x, 30));
    private static final Scene fullOfBoth = new Scene(c, "5 fields, 30 lines", x -> {
        Tales.fiveFields(x);
        for (int line = 6; line < 30; line++) {
            x.preset(line % 4, line % 5, line % 8, line % 10);
        }
    });
    private static final Scene contradiction = new Scene(c, "a contradiction", Tales::contradiction);

    public static void main(String[] args) {
        field();
        oneOf();
        bound();
        more();
        unlike();
        preset();
        approve();
        withdraw();
        weight();
        linesInAContradiction();
        c.end();
    }

    private static int[] outside(int least, int most) {
        return Scene.outside(least, most);
    }

    private static int[] inside(int least, int most) {
        return Scene.inside(least, most);
    }

    private static void field() {
        c.at("promise 2: Throws IllegalArgumentException if team is not 0 to 3");
        for (int team : outside(0, 3)) {
            empty.refuses(ARGUMENT, "field(" + team + ")", x -> x.field(team));
            four.refuses(ARGUMENT, "field(" + team + ")", x -> x.field(team));
        }
        for (int team : new int[] {0, 1, 2, 3}) {
            empty.answers(0, "field(" + team + ")", x -> x.field(team));
            empty.answers(team, "its team", x -> x.ofField(x.field(team), 0));
        }
        c.at("promise 2: Throws IllegalStateException if there are 5");
        for (int team : inside(0, 3)) {
            four.answers(4, "field(" + team + ")", x -> x.field(team));
            five.refuses(STATE, "field(" + team + ")", x -> x.field(team));
            fullOfBoth.refuses(STATE, "field(" + team + ")", x -> x.field(team));
        }
        c.at("promise 2: the one that is named first is thrown");
        for (int team : outside(0, 3)) {
            five.refuses(ARGUMENT, "field(" + team + ")", x -> x.field(team));
        }
    }

    private static void oneOf() {
        c.at("promise 3: Throws IndexOutOfBoundsException if there is no such FIELD");
        empty.refuses(INDEX, "oneOf(0, 0, 1)", x -> x.oneOf(0, 0, 1));
        for (int field : outside(0, 2)) {
            three.refuses(INDEX, "oneOf(0, " + field + ", 1)", x -> x.oneOf(0, field, 1));
        }
        for (int field : outside(0, 4)) {
            five.refuses(INDEX, "oneOf(0, " + field + ", 1)", x -> x.oneOf(0, field, 1));
        }
        for (int field : inside(0, 2)) {
            three.answers(6, "oneOf(0, " + field + ", 1)", x -> x.oneOf(0, field, 1));
        }
        five.answers(6, "oneOf(0, 4, 1)", x -> x.oneOf(0, 4, 1));
        c.at("promise 3: Throws IllegalArgumentException if team is not 0 to 3, or set not 1 to 255");
        for (int team : outside(0, 3)) {
            three.refuses(ARGUMENT, "oneOf(" + team + ", 0, 1)", x -> x.oneOf(team, 0, 1));
            three.refuses(ARGUMENT, "oneOf(" + team + ", 0, 0)", x -> x.oneOf(team, 0, 0));
        }
        for (int team : inside(0, 3)) {
            three.answers(6, "oneOf(" + team + ", 0, 1)", x -> x.oneOf(team, 0, 1));
        }
        for (int set : outside(1, 255)) {
            three.refuses(ARGUMENT, "oneOf(3, 2, " + set + ")", x -> x.oneOf(3, 2, set));
        }
        for (int set : inside(1, 255)) {
            three.answers(6, "oneOf(3, 2, " + set + ")", x -> x.oneOf(3, 2, set));
            three.answers(set, "the set", x -> x.ofLine(x.oneOf(3, 2, set), 3));
        }
        c.at("promise 3: Throws IllegalStateException if there are 30 LINES");
        almost.answers(29, "oneOf(0, 0, 1)", x -> x.oneOf(0, 0, 1));
        full.refuses(STATE, "oneOf(0, 0, 1)", x -> x.oneOf(0, 0, 1));
        fullOfBoth.refuses(STATE, "oneOf(3, 4, 255)", x -> x.oneOf(3, 4, 255));
        c.at("promise 3: the one that is named first is thrown");
        three.refuses(INDEX, "oneOf(4, 3, 1)", x -> x.oneOf(4, 3, 1));
        three.refuses(INDEX, "oneOf(0, -1, 0)", x -> x.oneOf(0, -1, 0));
        full.refuses(INDEX, "oneOf(0, 3, 1)", x -> x.oneOf(0, 3, 1));
        full.refuses(INDEX, "oneOf(-1, -1, 256)", x -> x.oneOf(-1, -1, 256));
        full.refuses(ARGUMENT, "oneOf(4, 0, 1)", x -> x.oneOf(4, 0, 1));
        full.refuses(ARGUMENT, "oneOf(0, 0, 0)", x -> x.oneOf(0, 0, 0));
    }

    private static void bound() {
        for (boolean isMost : new boolean[] {false, true}) {
            c.at("promise 4: Throws IndexOutOfBoundsException if there is no such FIELD");
            empty.refuses(INDEX, "bound(0, 0, 1, " + isMost + ")", x -> x.bound(0, 0, 1, isMost));
            for (int field : outside(0, 2)) {
                three.refuses(INDEX, "bound(0, " + field + ", 1, " + isMost + ")", x -> x.bound(0, field, 1, isMost));
            }
            for (int field : outside(0, 4)) {
                five.refuses(INDEX, "bound(0, " + field + ", 1, " + isMost + ")", x -> x.bound(0, field, 1, isMost));
            }
            for (int field : inside(0, 2)) {
                three.answers(6, "bound(0, " + field + ", 1, " + isMost + ")", x -> x.bound(0, field, 1, isMost));
            }
            five.answers(6, "bound(0, 4, 1, " + isMost + ")", x -> x.bound(0, 4, 1, isMost));
            c.at("promise 4: Throws IllegalArgumentException if team is not 0 to 3, or number not 0 to 7");
            for (int team : outside(0, 3)) {
                three.refuses(ARGUMENT, "bound(" + team + ", 0, 1, " + isMost + ")", x -> x.bound(team, 0, 1, isMost));
                three.refuses(ARGUMENT, "bound(" + team + ", 0, 8, " + isMost + ")", x -> x.bound(team, 0, 8, isMost));
            }
            for (int team : inside(0, 3)) {
                three.answers(6, "bound(" + team + ", 0, 1, " + isMost + ")", x -> x.bound(team, 0, 1, isMost));
            }
            for (int number : outside(0, 7)) {
                three.refuses(ARGUMENT, "bound(3, 2, " + number + ", " + isMost + ")", x -> x.bound(3, 2, number, isMost));
            }
            for (int number : inside(0, 7)) {
                three.answers(6, "bound(3, 2, " + number + ", " + isMost + ")", x -> x.bound(3, 2, number, isMost));
                three.answers(number, "the number", x -> x.ofLine(x.bound(3, 2, number, isMost), 3));
            }
            c.at("promise 4: Throws IllegalStateException if there are 30 LINES");
            almost.answers(29, "bound(0, 0, 1, " + isMost + ")", x -> x.bound(0, 0, 1, isMost));
            full.refuses(STATE, "bound(0, 0, 1, " + isMost + ")", x -> x.bound(0, 0, 1, isMost));
            fullOfBoth.refuses(STATE, "bound(3, 4, 7, " + isMost + ")", x -> x.bound(3, 4, 7, isMost));
            c.at("promise 4: the one that is named first is thrown");
            three.refuses(INDEX, "bound(4, 3, 1, " + isMost + ")", x -> x.bound(4, 3, 1, isMost));
            three.refuses(INDEX, "bound(0, -1, 8, " + isMost + ")", x -> x.bound(0, -1, 8, isMost));
            full.refuses(INDEX, "bound(0, 3, 1, " + isMost + ")", x -> x.bound(0, 3, 1, isMost));
            full.refuses(INDEX, "bound(-1, -1, -1, " + isMost + ")", x -> x.bound(-1, -1, -1, isMost));
            full.refuses(ARGUMENT, "bound(4, 0, 1, " + isMost + ")", x -> x.bound(4, 0, 1, isMost));
            full.refuses(ARGUMENT, "bound(0, 0, 8, " + isMost + ")", x -> x.bound(0, 0, 8, isMost));
        }
    }

    private static void more() {
        c.at("promise 5: Throws IndexOutOfBoundsException if there is no such FIELD, of both");
        empty.refuses(INDEX, "more(0, 0, 1, 0)", x -> x.more(0, 0, 1, 0));
        empty.refuses(INDEX, "more(0, 0, 0, 0)", x -> x.more(0, 0, 0, 0));
        for (int field : outside(0, 2)) {
            three.refuses(INDEX, "more(0, " + field + ", 0, 1)", x -> x.more(0, field, 0, 1));
            three.refuses(INDEX, "more(0, 0, " + field + ", 1)", x -> x.more(0, 0, field, 1));
            three.refuses(INDEX, "more(0, " + field + ", " + field + ", 1)", x -> x.more(0, field, field, 1));
        }
        for (int field : outside(0, 4)) {
            five.refuses(INDEX, "more(0, " + field + ", 0, 1)", x -> x.more(0, field, 0, 1));
            five.refuses(INDEX, "more(0, 0, " + field + ", 1)", x -> x.more(0, 0, field, 1));
        }
        three.answers(6, "more(0, 2, 0, 1)", x -> x.more(0, 2, 0, 1));
        three.answers(6, "more(0, 0, 2, 1)", x -> x.more(0, 0, 2, 1));
        five.answers(6, "more(0, 4, 0, 1)", x -> x.more(0, 4, 0, 1));
        five.answers(6, "more(0, 0, 4, 1)", x -> x.more(0, 0, 4, 1));
        c.at("promise 5: Throws IllegalArgumentException if team is not 0 to 3, both are the same, or by is not -7 to 7");
        for (int team : outside(0, 3)) {
            three.refuses(ARGUMENT, "more(" + team + ", 0, 1, 1)", x -> x.more(team, 0, 1, 1));
            three.refuses(ARGUMENT, "more(" + team + ", 1, 1, 9)", x -> x.more(team, 1, 1, 9));
        }
        for (int team : inside(0, 3)) {
            three.answers(6, "more(" + team + ", 0, 1, 1)", x -> x.more(team, 0, 1, 1));
        }
        for (int both : new int[] {0, 1, 2}) {
            three.refuses(ARGUMENT, "more(0, " + both + ", " + both + ", 0)", x -> x.more(0, both, both, 0));
        }
        for (int by : outside(-7, 7)) {
            three.refuses(ARGUMENT, "more(3, 2, 1, " + by + ")", x -> x.more(3, 2, 1, by));
        }
        for (int by : inside(-7, 7)) {
            three.answers(6, "more(3, 2, 1, " + by + ")", x -> x.more(3, 2, 1, by));
            three.answers(by, "the number", x -> x.ofLine(x.more(3, 2, 1, by), 4));
        }
        c.at("promise 5: Throws IllegalStateException if there are 30 LINES");
        almost.answers(29, "more(0, 0, 1, 1)", x -> x.more(0, 0, 1, 1));
        full.refuses(STATE, "more(0, 0, 1, 1)", x -> x.more(0, 0, 1, 1));
        fullOfBoth.refuses(STATE, "more(3, 4, 3, -7)", x -> x.more(3, 4, 3, -7));
        c.at("promise 5: the one that is named first is thrown");
        three.refuses(INDEX, "more(4, 3, 0, 1)", x -> x.more(4, 3, 0, 1));
        three.refuses(INDEX, "more(4, 0, 3, 1)", x -> x.more(4, 0, 3, 1));
        three.refuses(INDEX, "more(0, 3, 0, 8)", x -> x.more(0, 3, 0, 8));
        three.refuses(INDEX, "more(0, 0, -1, -8)", x -> x.more(0, 0, -1, -8));
        full.refuses(INDEX, "more(0, 3, 0, 1)", x -> x.more(0, 3, 0, 1));
        full.refuses(INDEX, "more(0, 0, 3, 1)", x -> x.more(0, 0, 3, 1));
        full.refuses(INDEX, "more(-1, -1, -1, 8)", x -> x.more(-1, -1, -1, 8));
        full.refuses(ARGUMENT, "more(4, 0, 1, 1)", x -> x.more(4, 0, 1, 1));
        full.refuses(ARGUMENT, "more(0, 1, 1, 1)", x -> x.more(0, 1, 1, 1));
        full.refuses(ARGUMENT, "more(0, 0, 1, 8)", x -> x.more(0, 0, 1, 8));
    }

    private static void unlike() {
        c.at("promise 6: Throws IndexOutOfBoundsException if there is no such FIELD, of both");
        empty.refuses(INDEX, "unlike(0, 0, 1)", x -> x.unlike(0, 0, 1));
        empty.refuses(INDEX, "unlike(0, 0, 0)", x -> x.unlike(0, 0, 0));
        for (int field : outside(0, 2)) {
            three.refuses(INDEX, "unlike(0, " + field + ", 0)", x -> x.unlike(0, field, 0));
            three.refuses(INDEX, "unlike(0, 0, " + field + ")", x -> x.unlike(0, 0, field));
            three.refuses(INDEX, "unlike(0, " + field + ", " + field + ")", x -> x.unlike(0, field, field));
        }
        for (int field : outside(0, 4)) {
            five.refuses(INDEX, "unlike(0, " + field + ", 0)", x -> x.unlike(0, field, 0));
            five.refuses(INDEX, "unlike(0, 0, " + field + ")", x -> x.unlike(0, 0, field));
        }
        three.answers(6, "unlike(0, 2, 0)", x -> x.unlike(0, 2, 0));
        three.answers(6, "unlike(0, 0, 2)", x -> x.unlike(0, 0, 2));
        five.answers(6, "unlike(0, 4, 0)", x -> x.unlike(0, 4, 0));
        five.answers(6, "unlike(0, 0, 4)", x -> x.unlike(0, 0, 4));
        c.at("promise 6: Throws IllegalArgumentException if team is not 0 to 3, or both are the same");
        for (int team : outside(0, 3)) {
            three.refuses(ARGUMENT, "unlike(" + team + ", 0, 1)", x -> x.unlike(team, 0, 1));
            three.refuses(ARGUMENT, "unlike(" + team + ", 1, 1)", x -> x.unlike(team, 1, 1));
        }
        for (int team : inside(0, 3)) {
            three.answers(6, "unlike(" + team + ", 0, 1)", x -> x.unlike(team, 0, 1));
        }
        for (int both : new int[] {0, 1, 2}) {
            three.refuses(ARGUMENT, "unlike(0, " + both + ", " + both + ")", x -> x.unlike(0, both, both));
        }
        c.at("promise 6: Throws IllegalStateException if there are 30 LINES");
        almost.answers(29, "unlike(0, 0, 1)", x -> x.unlike(0, 0, 1));
        full.refuses(STATE, "unlike(0, 0, 1)", x -> x.unlike(0, 0, 1));
        fullOfBoth.refuses(STATE, "unlike(3, 4, 3)", x -> x.unlike(3, 4, 3));
        c.at("promise 6: the one that is named first is thrown");
        three.refuses(INDEX, "unlike(4, 3, 0)", x -> x.unlike(4, 3, 0));
        three.refuses(INDEX, "unlike(4, 0, 3)", x -> x.unlike(4, 0, 3));
        full.refuses(INDEX, "unlike(0, 3, 0)", x -> x.unlike(0, 3, 0));
        full.refuses(INDEX, "unlike(0, 0, 3)", x -> x.unlike(0, 0, 3));
        full.refuses(INDEX, "unlike(-1, -1, -1)", x -> x.unlike(-1, -1, -1));
        full.refuses(ARGUMENT, "unlike(4, 0, 1)", x -> x.unlike(4, 0, 1));
        full.refuses(ARGUMENT, "unlike(0, 1, 1)", x -> x.unlike(0, 1, 1));
    }

    private static void preset() {
        c.at("promise 7: Throws IndexOutOfBoundsException if there is no such FIELD");
        empty.refuses(INDEX, "preset(0, 0, 1, 1)", x -> x.preset(0, 0, 1, 1));
        for (int field : outside(0, 2)) {
            three.refuses(INDEX, "preset(0, " + field + ", 1, 1)", x -> x.preset(0, field, 1, 1));
        }
        for (int field : outside(0, 4)) {
            five.refuses(INDEX, "preset(0, " + field + ", 1, 1)", x -> x.preset(0, field, 1, 1));
        }
        for (int field : inside(0, 2)) {
            three.answers(6, "preset(0, " + field + ", 1, 1)", x -> x.preset(0, field, 1, 1));
        }
        five.answers(6, "preset(0, 4, 1, 1)", x -> x.preset(0, 4, 1, 1));
        c.at("promise 7: Throws IllegalArgumentException if team is not 0 to 3, number not 0 to 7, or rank not 0 to 9");
        for (int team : outside(0, 3)) {
            three.refuses(ARGUMENT, "preset(" + team + ", 0, 1, 1)", x -> x.preset(team, 0, 1, 1));
            three.refuses(ARGUMENT, "preset(" + team + ", 0, 8, 10)", x -> x.preset(team, 0, 8, 10));
        }
        for (int team : inside(0, 3)) {
            three.answers(6, "preset(" + team + ", 0, 1, 1)", x -> x.preset(team, 0, 1, 1));
        }
        for (int number : outside(0, 7)) {
            three.refuses(ARGUMENT, "preset(3, 2, " + number + ", 1)", x -> x.preset(3, 2, number, 1));
        }
        for (int number : inside(0, 7)) {
            three.answers(6, "preset(3, 2, " + number + ", 1)", x -> x.preset(3, 2, number, 1));
            three.answers(number, "the number", x -> x.ofLine(x.preset(3, 2, number, 1), 3));
        }
        for (int rank : outside(0, 9)) {
            three.refuses(ARGUMENT, "preset(3, 2, 1, " + rank + ")", x -> x.preset(3, 2, 1, rank));
        }
        for (int rank : inside(0, 9)) {
            three.answers(6, "preset(3, 2, 1, " + rank + ")", x -> x.preset(3, 2, 1, rank));
            three.answers(rank, "the rank", x -> x.ofLine(x.preset(3, 2, 1, rank), 4));
        }
        c.at("promise 7: Throws IllegalStateException if there are 30 LINES");
        almost.answers(29, "preset(0, 0, 1, 1)", x -> x.preset(0, 0, 1, 1));
        full.refuses(STATE, "preset(0, 0, 1, 1)", x -> x.preset(0, 0, 1, 1));
        fullOfBoth.refuses(STATE, "preset(3, 4, 7, 9)", x -> x.preset(3, 4, 7, 9));
        c.at("promise 7: the one that is named first is thrown");
        three.refuses(INDEX, "preset(4, 3, 1, 1)", x -> x.preset(4, 3, 1, 1));
        three.refuses(INDEX, "preset(0, -1, 8, 1)", x -> x.preset(0, -1, 8, 1));
        three.refuses(INDEX, "preset(0, 3, 1, 10)", x -> x.preset(0, 3, 1, 10));
        full.refuses(INDEX, "preset(0, 3, 1, 1)", x -> x.preset(0, 3, 1, 1));
        full.refuses(INDEX, "preset(-1, -1, -1, -1)", x -> x.preset(-1, -1, -1, -1));
        full.refuses(ARGUMENT, "preset(4, 0, 1, 1)", x -> x.preset(4, 0, 1, 1));
        full.refuses(ARGUMENT, "preset(0, 0, 8, 1)", x -> x.preset(0, 0, 8, 1));
        full.refuses(ARGUMENT, "preset(0, 0, 1, 10)", x -> x.preset(0, 0, 1, 10));
    }

    private static void approve() {
        c.at("promise 8: Throws IndexOutOfBoundsException if there is no such LINE");
        for (boolean is : new boolean[] {false, true}) {
            empty.refuses(INDEX, "approve(0, " + is + ")", x -> x.approve(0, is));
            for (int line : outside(0, 5)) {
                three.refuses(INDEX, "approve(" + line + ", " + is + ")", x -> x.approve(line, is));
            }
            for (int line : outside(0, 29)) {
                full.refuses(INDEX, "approve(" + line + ", " + is + ")", x -> x.approve(line, is));
            }
            three.answers(true, "approve(0, " + is + ")", x -> x.approve(0, is));
            three.answers(true, "approve(5, " + is + ")", x -> x.approve(5, is));
            full.answers(is, "approve(29, " + is + ")", x -> x.approve(29, is));
        }
    }

    private static void withdraw() {
        c.at("promise 9: Throws IndexOutOfBoundsException if there is no such LINE");
        for (boolean is : new boolean[] {false, true}) {
            empty.refuses(INDEX, "withdraw(0, " + is + ")", x -> x.withdraw(0, is));
            for (int line : outside(0, 5)) {
                three.refuses(INDEX, "withdraw(" + line + ", " + is + ")", x -> x.withdraw(line, is));
            }
            for (int line : outside(0, 29)) {
                full.refuses(INDEX, "withdraw(" + line + ", " + is + ")", x -> x.withdraw(line, is));
            }
            three.answers(!is, "withdraw(0, " + is + ")", x -> x.withdraw(0, is));
            three.answers(!is, "withdraw(5, " + is + ")", x -> x.withdraw(5, is));
            full.answers(false, "withdraw(29, " + is + ")", x -> x.withdraw(29, is));
            full.answers(!is, "withdraw(29, " + is + ") of an approved one", x -> {
                x.approve(29, true);
                return x.withdraw(29, is);
            });
        }
    }

    private static void weight() {
        c.at("promise 10: Throws IndexOutOfBoundsException if there is no such FIELD");
        empty.refuses(INDEX, "weight(0, 1)", x -> x.weight(0, 1));
        for (int field : outside(0, 2)) {
            three.refuses(INDEX, "weight(" + field + ", 5)", x -> x.weight(field, 5));
        }
        for (int field : outside(0, 4)) {
            five.refuses(INDEX, "weight(" + field + ", 5)", x -> x.weight(field, 5));
        }
        for (int field : inside(0, 2)) {
            three.answers(1, "weight(" + field + ", 5)", x -> x.weight(field, 5));
        }
        five.answers(1, "weight(4, 5)", x -> x.weight(4, 5));
        c.at("promise 10: Throws IllegalArgumentException if weight is not 0 to 9");
        for (int weight : outside(0, 9)) {
            three.refuses(ARGUMENT, "weight(1, " + weight + ")", x -> x.weight(1, weight));
        }
        for (int weight : inside(0, 9)) {
            three.answers(3, "weight(1, " + weight + ")", x -> x.weight(1, weight));
            three.answers(weight, "the weight", x -> {
                x.weight(1, weight);
                return x.ofField(1, 4);
            });
        }
        c.at("promise 10: the one that is named first is thrown");
        three.refuses(INDEX, "weight(3, 10)", x -> x.weight(3, 10));
        three.refuses(INDEX, "weight(-1, -1)", x -> x.weight(-1, -1));
    }

    private static void linesInAContradiction() {
        c.at("A method that throws an exception changes nothing. (With a CONTRADICTION)");
        contradiction.refuses(ARGUMENT, "field(4)", x -> x.field(4));
        contradiction.refuses(ARGUMENT, "oneOf(0, 0, 0)", x -> x.oneOf(0, 0, 0));
        contradiction.refuses(ARGUMENT, "bound(0, 0, 8, true)", x -> x.bound(0, 0, 8, true));
        contradiction.refuses(ARGUMENT, "more(0, 0, 0, 1)", x -> x.more(0, 0, 0, 1));
        contradiction.refuses(ARGUMENT, "unlike(0, 0, 0)", x -> x.unlike(0, 0, 0));
        contradiction.refuses(ARGUMENT, "preset(0, 0, 0, 10)", x -> x.preset(0, 0, 0, 10));
        contradiction.refuses(INDEX, "approve(7, true)", x -> x.approve(7, true));
        contradiction.refuses(INDEX, "withdraw(7, true)", x -> x.withdraw(7, true));
        contradiction.refuses(ARGUMENT, "weight(0, 10)", x -> x.weight(0, 10));
        c.at("what is let is let with a CONTRADICTION, too");
        contradiction.answers(3, "field(0)", x -> x.field(0));
        contradiction.answers(7, "oneOf(0, 0, 1)", x -> x.oneOf(0, 0, 1));
        contradiction.answers(7, "bound(0, 0, 7, true)", x -> x.bound(0, 0, 7, true));
        contradiction.answers(7, "more(0, 0, 1, 1)", x -> x.more(0, 0, 1, 1));
        contradiction.answers(7, "unlike(0, 0, 1)", x -> x.unlike(0, 0, 1));
        contradiction.answers(7, "preset(0, 0, 0, 9)", x -> x.preset(0, 0, 0, 9));
        contradiction.answers(true, "approve(6, true)", x -> x.approve(6, true));
        contradiction.answers(false, "withdraw(6, true)", x -> x.withdraw(6, true));
        contradiction.answers(1, "weight(0, 9)", x -> x.weight(0, 9));
    }
}
