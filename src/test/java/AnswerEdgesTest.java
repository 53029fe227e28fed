import java.math.BigInteger;

/** Promises 1, 22, 24, 26, 27 and 28 and 'Terms': their boundary cases. What is refused: AskingBoundsTest. */
public final class AnswerEdgesTest {
    private static final Check c = new Check("AnswerEdgesTest");

    public static void main(String[] args) {
        metByEachSet();
        metWhetherTheyCount();
        narrower();
        values();
        sound();
        digestOfANewObject();
        digestWrapsAround();
        digestInItsOrder();
        askingChangesNothing();
        twoHouses();
        the512thCall();
        c.end();
    }

    private static Meetjoin withFields(int fields) {
        Meetjoin x = new Meetjoin();
        for (int field = 0; field < fields; field++) {
            x.field(0);
        }
        return x;
    }

    private static void metByEachSet() {
        c.at("promise 24: a set of LINES that there are");
        for (int lines = 0; lines <= 30; lines++) {
            Meetjoin x = withFields(1);
            for (int line = 0; line < lines; line++) {
                x.oneOf(line % 2, 0, line == lines - 1 ? 6 : 14);
            }
            int all = (1 << lines) - 1;
            int next = 1 << lines;
            int due = lines == 0 ? 255 : 6;
            c.due("all of " + lines, x.met(all, 0), due);
            c.due("none of " + lines, x.met(0, 0), 255);
            c.due("all but the last of " + lines, x.met(all >> 1, 0), lines < 2 ? 255 : 14);
            c.due("the next of " + lines, Scene.answer(x, it -> it.met(next, 0)), "throws java.lang.IllegalArgumentException");
            c.due("all and the next of " + lines, Scene.answer(x, it -> it.met(next | all, 0)), "throws java.lang.IllegalArgumentException");
            c.due("-1", Scene.answer(x, it -> it.met(-1, 0)), "throws java.lang.IllegalArgumentException");
            c.due("the smallest int", Scene.answer(x, it -> it.met(Integer.MIN_VALUE, 0)), "throws java.lang.IllegalArgumentException");
        }
    }

    private static void metWhetherTheyCount() {
        c.at("promise 24: if just these MEET (whether they COUNT or not; DEFAULTS take nothing away)");
        Meetjoin x = withFields(3);
        x.oneOf(0, 0, 1);
        x.oneOf(1, 0, 2);
        x.oneOf(0, 1, 1);
        x.preset(0, 1, 1, 9);
        x.unlike(3, 1, 0);
        x.withdraw(0, true);
        c.due("withdrawn", x.met(1, 0), 1);
        c.due("not approved", x.met(2, 0), 2);
        c.due("a contradiction of both: each field is empty", x.met(3, 0) + x.met(3, 1) + x.met(3, 2), 0);
        c.due("a default", x.met(8, 1), 255);
        c.due("unlike, with what does not count", x.met(16 + 1, 1), 254);
        c.due("unlike, with both", x.met(16 + 4 + 1, 1), 0);
        c.due("nothing is changed", x.value(0) + " " + x.value(1) + " " + x.house(3), "01234567 0=0 0");
        x.oneOf(0, 0, 4);
        x.oneOf(0, 0, 8);
        c.due("without those that contradict", x.met(4, 0) + " " + x.met(4, 1) + " " + x.house(3), "255 1 1");
        c.due("ahead of it and behind it", x.value(0) + x.value(1), "!!");
    }

    private static void narrower() {
        c.at("promise 26: whether all that the first one MAY be the other one MAY be, too");
        int[] sets = {1, 128, 129, 3, 2, 127, 254, 255};
        for (int one : sets) {
            for (int other : sets) {
                Meetjoin x = withFields(2);
                x.oneOf(0, 0, one);
                x.oneOf(0, 1, other);
                c.due(one + " in " + other, x.isNarrower(0, 1), (one | other) == other);
                c.due(other + " in " + one, x.isNarrower(1, 0), (one | other) == one);
                c.due("itself", x.isNarrower(0, 0) && x.isNarrower(1, 1), true);
            }
        }
        Meetjoin y = withFields(2);
        y.oneOf(0, 0, 1);
        y.oneOf(0, 0, 2);
        c.due("empty both", y.isNarrower(0, 1) && y.isNarrower(1, 0), true);
    }

    private static void values() {
        c.at("promise 22: \"!\" with a CONTRADICTION; behind that \"=\" and what it IS, if it IS something");
        Meetjoin x = withFields(2);
        x.preset(0, 0, 0, 0);
        c.due("all, and 0", x.value(0), "01234567=0");
        x.preset(0, 0, 7, 1);
        c.due("all, and 7", x.value(0), "01234567=7");
        x.oneOf(0, 1, 0b10000001);
        c.due("the ends", x.value(1), "07");
        x.bound(0, 1, 0, true);
        c.due("one", x.value(1), "0=0");
        x.bound(0, 1, 1, false);
        c.due("nothing at all but the sign", x.value(0) + " " + x.value(1), "! !");
    }

    private static void sound() {
        c.at("promise 27: isSound()");
        c.due("a new house", new Meetjoin().isSound(), true);
        Scene[] all = {new Scene(c, "middle", Tales::middle), new Scene(c, "five", Tales::fiveFields),
            new Scene(c, "full", x -> Tales.linesUpTo(x, 30)), new Scene(c, "twelve", x -> Tales.commitsUpTo(x, 12)),
            new Scene(c, "contradiction", Tales::contradiction)};
        for (Scene scene : all) {
            scene.answers(true, "isSound()", x -> x.isSound());
            scene.answers(true, "isSound() with lines withdrawn and approved", x -> {
                for (int line = 0; line < x.house(1); line += 2) {
                    x.withdraw(line, true);
                    x.approve(line, true);
                }
                return x.isSound();
            });
        }
    }

    private static BigInteger summed(BigInteger d, long v) {
        return d.multiply(BigInteger.valueOf(31)).add(BigInteger.valueOf(v));
    }

    /** What digest() is due to answer, by all that it names, without any wrap-around until the end. */
    private static long due(Meetjoin x) {
        BigInteger d = BigInteger.valueOf(7703);
        for (int what = 0; what <= 8; what++) {
            d = summed(d, x.house(what));
        }
        for (int field = 0; field < x.house(0); field++) {
            for (int what = 0; what <= 6; what++) {
                d = summed(d, x.ofField(field, what));
            }
            d = summed(d, x.reason(field));
        }
        d = summed(d, x.reason(-1));
        for (int line = 0; line < x.house(1); line++) {
            d = summed(d, x.ofLine(line, 5));
        }
        for (int machine = 0; machine < 6; machine++) {
            for (int what = 0; what <= 2; what++) {
                d = summed(d, x.ofMachine(machine, what));
            }
            for (int field = 0; field < x.house(0); field++) {
                d = summed(d, x.has(machine, field));
            }
        }
        for (int commit = 0; commit < x.house(5); commit++) {
            for (int field = 0; field < x.house(0); field++) {
                d = summed(d, x.ofCommit(commit, field));
            }
        }
        return summed(d, x.isSound() ? 1 : 0).longValue();
    }

    private static void digestOfANewObject() {
        c.at("promise 28: its answer on a new object");
        c.due("digest()", new Meetjoin().digest(), 1010136648260447179L);
        c.due("by its 29 numbers", due(new Meetjoin()), 1010136648260447179L);
        Meetjoin x = new Meetjoin();
        c.due("asked twice", x.digest() == x.digest(), true);
        Scene.answer(x, it -> it.field(4));
        c.due("behind a call that was refused", x.digest(), 1010136648260447179L);
        x.knock();
        c.due("behind a knock", x.digest() == 1010136648260447179L, false);
    }

    private static void digestWrapsAround() {
        c.at("promise 28: which wraps around as a 64-bit integer");
        int below = 0;
        int above = 0;
        Meetjoin x = new Meetjoin();
        for (int knock = 0; knock < 40; knock++) {
            long digest = x.digest();
            c.due("digest behind " + knock + " knocks", digest, due(x));
            below += digest < 0 ? 1 : 0;
            above += digest > Integer.MAX_VALUE ? 1 : 0;
            x = new Meetjoin();
            for (int again = 0; again <= knock; again++) {
                x.knock();
            }
            x.field(knock % 4);
        }
        c.due("some are below 0", below > 0, true);
        c.due("some are above all ints", above > 0, true);
    }

    private static void digestInItsOrder() {
        c.at("promise 28: for each v in this order");
        dueAsTold(x -> { });
        dueAsTold(x -> x.commit());
        dueAsTold(x -> x.field(3));
        dueAsTold(Tales::middle);
        dueAsTold(Tales::fiveFields);
        dueAsTold(x -> Tales.linesUpTo(x, 30));
        dueAsTold(x -> Tales.commitsUpTo(x, 12));
        dueAsTold(Tales::contradiction);
        dueAsTold(x -> {
            Tales.fiveFields(x);
            x.oneOf(3, 3, 1 << 7);
            x.commit();
            x.wave(2, 40);
            x.patch(3, 4, 0);
        });
    }

    private static void dueAsTold(Scene.Tale tale) {
        Scene scene = new Scene(c, "told", tale);
        c.due("digest()", scene.house().digest(), due(scene.house()));
    }

    private static void askingChangesNothing() {
        c.at("---- what is asked, ---- what would be (nothing is changed)");
        Scene.Tale[] tales = {Tales::middle, Tales::fiveFields, Tales::contradiction, x -> Tales.linesUpTo(x, 30)};
        for (Scene.Tale tale : tales) {
            Scene scene = new Scene(c, "asked", tale);
            String before = Snapshot.of(scene::house);
            for (int asked = 0; asked < 9; asked++) {
                int which = asked;
                c.due("what is behind question " + asked, Snapshot.of(() -> {
                    Meetjoin x = scene.house();
                    ask(x, which);
                    return x;
                }), before);
            }
        }
    }

    private static void ask(Meetjoin x, int which) {
        switch (which) {
            case 0: x.met((1 << x.house(1)) - 1, 0); break;
            case 1: x.met(0, 2); break;
            case 2: x.choices(0, 7); break;
            case 3: x.choices(2, 0); break;
            case 4: x.isNarrower(0, 2); break;
            case 5: x.isSound(); break;
            case 6: x.digest(); break;
            case 7: x.reason(-1); x.reason(2); break;
            default: x.value(0); x.ofField(0, 5); x.ofLine(0, 6); x.ofMachine(1, 2); x.has(0, 0); x.ofCommit(0, 0); break;
        }
    }

    private static void twoHouses() {
        c.at("promise 1: Creates a house without FIELDS.");
        Meetjoin x = new Meetjoin();
        Tales.contradiction(x);
        Meetjoin y = new Meetjoin();
        c.due("a house made behind another one", y.digest(), 1010136648260447179L);
        y.field(2);
        y.oneOf(2, 0, 32);
        c.due("each has its own", x.value(0) + " " + y.value(0) + " " + x.house(1) + " " + y.house(1), "! 5=5 7 1");
        c.due("and its own safe", y.knock() + " " + x.knock(), "1 2");
    }

    private static void the512thCall() {
        c.at("An object is used for at most 512 calls after it has been made");
        Meetjoin x = new Meetjoin();
        for (int call = 1; call <= 512; call++) {
            c.due("call " + call, x.knock(), call);
        }
        Meetjoin often = withThirtyLines();
        for (int call = 36; call <= 511; call++) {
            often.withdraw(call % 30, call % 2 == 0);
        }
        Meetjoin once = withThirtyLines();
        for (int line = 0; line < 30; line += 2) {
            once.withdraw(line, true);
        }
        c.due("the 512th call", often.digest(), due(once));
    }

    private static Meetjoin withThirtyLines() {
        Meetjoin x = withFields(5);
        for (int line = 0; line < 30; line++) {
            x.oneOf(0, line % 5, 255 - line);
        }
        return x;
    }
}
