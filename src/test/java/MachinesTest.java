/** Promises 11 to 15, by ordinary calls. What is refused: MachineBoundsTest; further edges: FleetEdgesTest. */
public final class MachinesTest {
    private static final Check c = new Check("MachinesTest");

    public static void main(String[] args) {
        commits();
        commitOfFieldsThatThereAre();
        waves();
        patches();
        absorbs();
        knocks();
        c.end();
    }

    /** Two fields, of the teams 0 and 2, both settled by defaults: 3 and 5. */
    private static Meetjoin settled() {
        Meetjoin x = new Meetjoin();
        x.field(0);
        x.field(2);
        x.preset(0, 0, 3, 0);
        x.preset(2, 1, 5, 0);
        return x;
    }

    private static void commits() {
        Meetjoin x = settled();
        c.due("commit", x.commit(), 0);
        x.withdraw(1, true);
        x.oneOf(0, 0, 4);
        c.due("a commit with one that is nothing", x.commit(), 1);
        c.due("the first commit stays", x.ofCommit(0, 0) + " " + x.ofCommit(0, 1), "3 5");
        c.due("the second one", x.ofCommit(1, 0) + " " + x.ofCommit(1, 1), "2 -1");
        x.oneOf(0, 0, 8);
        x.withdraw(3, true);
        for (int commit = 2; commit < 12; commit++) {
            c.due("commit", x.commit(), commit);
        }
        c.due("commits", x.house(5), 12);
        Meetjoin y = new Meetjoin();
        c.due("a commit without fields", y.commit(), 0);
    }

    private static void commitOfFieldsThatThereAre() {
        Meetjoin x = settled();
        x.commit();
        int late = x.field(1);
        x.oneOf(1, late, 128);
        c.due("a field of later is none in it", x.ofCommit(0, late), -1);
        x.patch(0, late, 4);
        c.due("no drift without a commit", x.ofMachine(0, 2), 0);
        c.due("wave", x.wave(0, 1), 1);
        c.due("it brings none, too", x.has(0, late), -1);
        c.due("no drift", x.ofMachine(0, 1), 0);
        c.due("patch", x.patch(0, late, 7), -1);
        c.due("a number is something else than none", x.ofMachine(0, 2), 4);
        c.due("absorb", x.absorb(0, late), 3);
        c.due("its team", x.ofLine(3, 1), 1);
    }

    private static void waves() {
        Meetjoin x = settled();
        x.commit();
        x.oneOf(0, 0, 64);
        x.commit();
        c.due("to no machine", x.wave(0, 0), 0);
        c.due("to some", x.wave(0, 0b101001), 3);
        for (int machine = 0; machine < 6; machine++) {
            boolean got = machine == 0 || machine == 3 || machine == 5;
            c.due("commit of " + machine, x.ofMachine(machine, 0), got ? 0 : -1);
            c.due("has", x.has(machine, 0) + " " + x.has(machine, 1), got ? "3 5" : "-1 -1");
        }
        c.due("the same again", x.wave(0, 0b101001), 0);
        c.due("some have it", x.wave(0, 0b101111), 2);
        x.patch(3, 1, 0);
        x.patch(0, 0, 3);
        c.due("drifted on one", x.wave(0, 0b001001), 1);
        c.due("what was patched is gone", x.has(3, 1), 5);
        x.patch(3, 1, 0);
        x.patch(3, 0, 0);
        c.due("a machine is counted once", x.wave(0, 0b001000), 1);
        c.due("another commit to all, one had none", x.wave(1, 63), 6);
        c.due("back to an earlier commit", x.wave(0, 2), 1);
        c.due("the others keep the other one", x.has(1, 0) + " " + x.has(0, 0), "3 6");
        x.patch(1, 0, 6);
        c.due("what it has is that of the new commit, but it drifted", x.wave(1, 2), 1);
    }

    private static void patches() {
        Meetjoin x = settled();
        c.due("patch without a commit", x.patch(5, 1, 0), -1);
        c.due("has", x.has(5, 1), 0);
        c.due("patch again", x.patch(5, 1, 7), 0);
        c.due("no drift without a commit", x.house(6), 0);
        x.commit();
        x.wave(0, 63);
        c.due("patch", x.patch(4, 0, 1), 3);
        c.due("only there", x.has(3, 0) + " " + x.has(4, 1), "3 5");
        c.due("drift", x.ofMachine(4, 2), 1);
        c.due("patch back", x.patch(4, 0, 3), 1);
        c.due("no drift", x.ofMachine(4, 2), 0);
        c.due("the commit is as it was", x.ofCommit(0, 0), 3);
    }

    private static void absorbs() {
        Meetjoin x = settled();
        x.patch(0, 0, 1);
        x.commit();
        x.wave(0, 3);
        x.patch(1, 1, 7);
        c.due("absorb", x.absorb(1, 1), 2);
        c.due("kind", x.ofLine(2, 0), 0);
        c.due("by the field's team", x.ofLine(2, 1), 2);
        c.due("about the field", x.ofLine(2, 2), 1);
        c.due("just what the machine has", x.ofLine(2, 3), 128);
        c.due("rest", x.ofLine(2, 4), 0);
        c.due("counts", x.ofLine(2, 5), 1);
        c.due("value", x.value(1), "7=7");
        c.due("the commit is as it was", x.ofCommit(0, 1), 5);
        c.due("so it drifts still", x.ofMachine(1, 2), 2);
        c.due("absorb again", x.absorb(1, 1), 3);
        x.patch(1, 1, 0);
        c.due("absorb another number", x.absorb(1, 1), 4);
        c.due("may be a contradiction", x.house(3), 1);
    }

    private static void knocks() {
        Meetjoin x = settled();
        String before = x.value(0) + x.house(1) + x.house(5);
        for (int knock = 1; knock <= 20; knock++) {
            c.due("knock", x.knock(), knock);
            c.due("refused", x.house(8), knock);
        }
        c.due("it does nothing else", x.value(0) + x.house(1) + x.house(5), before);
        c.due("another safe", new Meetjoin().knock(), 1);
    }
}
