/** Promises 11 to 15, each "Throws": just inside of each bound, just outside, far outside; and which is thrown first. */
public final class MachineBoundsTest {
    private static final Class<IndexOutOfBoundsException> INDEX = IndexOutOfBoundsException.class;
    private static final Class<IllegalArgumentException> ARGUMENT = IllegalArgumentException.class;
    private static final Class<IllegalStateException> STATE = IllegalStateException.class;
    private static final Check c = new Check("MachineBoundsTest");

    private static final Scene empty = new Scene(c, "a new house", x -> { });
    private static final Scene two = new Scene(c, "2 commits", Tales::middle);
    private static final Scene five = new Scene(c, "5 fields, 2 commits", Tales::fiveFields);
    private static final Scene eleven = new Scene(c, "11 commits", x -> Tales.commitsUpTo(x, 11));
    private static final Scene twelve = new Scene(c, "12 commits", x -> Tales.commitsUpTo(x, 12));
    private static final Scene contradiction = new Scene(c, "a contradiction", Tales::contradiction);
    private static final Scene twelveAndContradiction = new Scene(c, "12 commits, a contradiction", x -> {
        Tales.commitsUpTo(x, 12);
        x.oneOf(0, 0, 1);
    });
    private static final Scene almost = new Scene(c, "29 lines", x -> Tales.linesUpTo(x, 29));
    private static final Scene full = new Scene(c, "30 lines", x -> Tales.linesUpTo(x, 30));

    public static void main(String[] args) {
        commit();
        wave();
        patch();
        absorb();
        absorbWithoutDrift();
        knock();
        c.end();
    }

    private static int[] outside(int least, int most) {
        return Scene.outside(least, most);
    }

    private static int[] inside(int least, int most) {
        return Scene.inside(least, most);
    }

    private static void commit() {
        c.at("promise 11: Throws IllegalStateException if there is a CONTRADICTION, or there are 12");
        contradiction.refuses(STATE, "commit()", x -> x.commit());
        twelve.refuses(STATE, "commit()", x -> x.commit());
        twelveAndContradiction.refuses(STATE, "commit()", x -> x.commit());
        empty.answers(0, "commit()", x -> x.commit());
        two.answers(2, "commit()", x -> x.commit());
        eleven.answers(11, "commit()", x -> x.commit());
        contradiction.answers(2, "commit() without the line that made it", x -> {
            x.withdraw(6, true);
            return x.commit();
        });
    }

    private static void wave() {
        c.at("promise 12: Throws IndexOutOfBoundsException if there is no such COMMIT");
        empty.refuses(INDEX, "wave(0, 1)", x -> x.wave(0, 1));
        empty.refuses(INDEX, "wave(0, 0)", x -> x.wave(0, 0));
        empty.refuses(INDEX, "wave(-1, 63)", x -> x.wave(-1, 63));
        for (int commit : outside(0, 1)) {
            two.refuses(INDEX, "wave(" + commit + ", 63)", x -> x.wave(commit, 63));
        }
        for (int commit : outside(0, 11)) {
            twelve.refuses(INDEX, "wave(" + commit + ", 63)", x -> x.wave(commit, 63));
        }
        two.answers(5, "wave(0, 63)", x -> x.wave(0, 63));
        two.answers(5, "wave(1, 63)", x -> x.wave(1, 63));
        twelve.answers(6, "wave(11, 63)", x -> x.wave(11, 63));
        c.at("promise 12: Throws IllegalArgumentException if machines is not 0 to 63");
        for (int machines : outside(0, 63)) {
            two.refuses(ARGUMENT, "wave(0, " + machines + ")", x -> x.wave(0, machines));
            two.refuses(ARGUMENT, "wave(1, " + machines + ")", x -> x.wave(1, machines));
        }
        two.answers(0, "wave(1, 0)", x -> x.wave(1, 0));
        c.at("promise 12: the one that is named first is thrown");
        two.refuses(INDEX, "wave(2, 64)", x -> x.wave(2, 64));
        two.refuses(INDEX, "wave(-1, -1)", x -> x.wave(-1, -1));
        empty.refuses(INDEX, "wave(0, 64)", x -> x.wave(0, 64));
    }

    private static void patch() {
        c.at("promise 13: Throws IndexOutOfBoundsException if machine is not 0 to 5, or there is no such FIELD");
        for (int machine : outside(0, 5)) {
            two.refuses(INDEX, "patch(" + machine + ", 0, 1)", x -> x.patch(machine, 0, 1));
        }
        two.answers(4, "patch(0, 0, 1)", x -> x.patch(0, 0, 1));
        two.answers(-1, "patch(5, 0, 1)", x -> x.patch(5, 0, 1));
        empty.refuses(INDEX, "patch(0, 0, 1)", x -> x.patch(0, 0, 1));
        for (int field : outside(0, 2)) {
            two.refuses(INDEX, "patch(0, " + field + ", 1)", x -> x.patch(0, field, 1));
        }
        for (int field : outside(0, 4)) {
            five.refuses(INDEX, "patch(5, " + field + ", 1)", x -> x.patch(5, field, 1));
        }
        two.answers(2, "patch(5, 1, 1)", x -> x.patch(5, 1, 1));
        two.answers(-1, "patch(5, 2, 1)", x -> x.patch(5, 2, 1));
        five.answers(-1, "patch(5, 4, 1)", x -> x.patch(5, 4, 1));
        c.at("promise 13: Throws IllegalArgumentException if number is not 0 to 7");
        for (int number : outside(0, 7)) {
            two.refuses(ARGUMENT, "patch(1, 0, " + number + ")", x -> x.patch(1, 0, number));
        }
        for (int number : inside(0, 7)) {
            two.answers(6, "patch(1, 0, " + number + ")", x -> x.patch(1, 0, number));
            two.answers(number, "what it has", x -> {
                x.patch(1, 0, number);
                return x.has(1, 0);
            });
        }
        c.at("promise 13: the one that is named first is thrown");
        two.refuses(INDEX, "patch(6, 0, 8)", x -> x.patch(6, 0, 8));
        two.refuses(INDEX, "patch(0, 3, -1)", x -> x.patch(0, 3, -1));
        two.refuses(INDEX, "patch(-1, -1, -1)", x -> x.patch(-1, -1, -1));
    }

    private static void absorb() {
        c.at("promise 14: Throws IndexOutOfBoundsException if machine is not 0 to 5, or there is no such FIELD");
        for (int machine : outside(0, 5)) {
            two.refuses(INDEX, "absorb(" + machine + ", 0)", x -> x.absorb(machine, 0));
        }
        empty.refuses(INDEX, "absorb(0, 0)", x -> x.absorb(0, 0));
        for (int field : outside(0, 2)) {
            two.refuses(INDEX, "absorb(1, " + field + ")", x -> x.absorb(1, field));
        }
        for (int field : outside(0, 4)) {
            five.refuses(INDEX, "absorb(1, " + field + ")", x -> x.absorb(1, field));
        }
        for (int machine : inside(0, 5)) {
            five.answers(6, "absorb(" + machine + ", 4)", x -> {
                x.wave(0, 63);
                x.patch(machine, 4, 0);
                return x.absorb(machine, 4);
            });
        }
        c.at("promise 14: Throws IllegalStateException if that does not DRIFT there, or there are 30 LINES");
        two.answers(6, "absorb(1, 0)", x -> x.absorb(1, 0));
        almost.answers(29, "absorb(1, 0)", x -> x.absorb(1, 0));
        full.refuses(STATE, "absorb(1, 0)", x -> x.absorb(1, 0));
        full.refuses(STATE, "absorb(0, 0), with no drift", x -> x.absorb(0, 0));
        c.at("promise 14: the one that is named first is thrown");
        full.refuses(INDEX, "absorb(6, 0)", x -> x.absorb(6, 0));
        full.refuses(INDEX, "absorb(1, 3)", x -> x.absorb(1, 3));
        full.refuses(INDEX, "absorb(-1, -1)", x -> x.absorb(-1, -1));
    }

    private static void absorbWithoutDrift() {
        c.at("promise 14: Throws IllegalStateException if that does not DRIFT there");
        two.refuses(STATE, "absorb(0, 0), as the commit has it", x -> x.absorb(0, 0));
        two.refuses(STATE, "absorb(1, 1), when field 0 drifts", x -> x.absorb(1, 1));
        two.refuses(STATE, "absorb(2, 0), when it drifts on machine 1", x -> x.absorb(2, 0));
        two.refuses(STATE, "absorb(5, 1), patched without a commit", x -> x.absorb(5, 1));
        two.refuses(STATE, "absorb(5, 0), without a commit", x -> x.absorb(5, 0));
        Scene brought = new Scene(c, "the drift is gone by a wave", x -> {
            Tales.middle(x);
            x.wave(0, 2);
        });
        brought.refuses(STATE, "absorb(1, 0)", x -> x.absorb(1, 0));
        Scene patchedBack = new Scene(c, "the drift is gone by a patch", x -> {
            Tales.middle(x);
            x.patch(1, 0, 4);
        });
        patchedBack.refuses(STATE, "absorb(1, 0)", x -> x.absorb(1, 0));
    }

    private static void knock() {
        c.at("promise 15: knock() throws nothing, and is not counted by what throws");
        two.answers(2, "knock()", x -> x.knock());
        contradiction.answers(2, "knock()", x -> x.knock());
        empty.answers(1, "knock() behind calls that were refused", x -> {
            Scene.answer(x, it -> it.field(-1));
            Scene.answer(x, it -> it.wave(0, 0));
            return x.knock();
        });
    }
}
