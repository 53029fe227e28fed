/** Section 5: each sentence that names a boundary case of commits and machines. What is refused: MachineBoundsTest. */
public final class FleetEdgesTest {
    private static final String STATE = "throws java.lang.IllegalStateException";
    private static final Check c = new Check("FleetEdgesTest");

    public static void main(String[] args) {
        twelveCommits();
        fieldsThatThereAre();
        notInAContradiction();
        neverCommitZero();
        findTheFirst();
        findInTheLast();
        noneIsSomethingElse();
        noneAtFirst();
        whatTheCommitHas();
        setsOfMachines();
        aheadOfAWave();
        drifts();
        absorbs();
        refused();
        c.end();
    }

    private static Meetjoin withFields(int fields) {
        Meetjoin x = new Meetjoin();
        for (int field = 0; field < fields; field++) {
            x.field(field % 4);
        }
        return x;
    }

    /** Withdraws the last line about the field, which made it what it is, and tells another one. */
    private static void now(Meetjoin x, int field, int number) {
        int line = x.house(1) - 1;
        while (line >= 0 && x.ofLine(line, 2) != field) {
            line--;
        }
        if (line >= 0) {
            x.withdraw(line, true);
        }
        if (number >= 0) {
            x.oneOf(x.ofField(field, 0), field, 1 << number);
        }
    }

    private static void twelveCommits() {
        c.at("COMMITS: at most 12, numbered from 0: each keeps what each FIELD IS then");
        Meetjoin x = withFields(2);
        for (int commit = 0; commit < 12; commit++) {
            now(x, 0, commit % 8);
            now(x, 1, 7 - commit % 8);
            c.due("commits ahead", x.house(5), commit);
            c.due("commit", x.commit(), commit);
        }
        c.due("a 13th", Scene.answer(x, it -> it.commit()), STATE);
        c.due("commits", x.house(5), 12);
        for (int commit = 0; commit < 12; commit++) {
            c.due("commit " + commit, x.ofCommit(commit, 0) + " " + x.ofCommit(commit, 1), commit % 8 + " " + (7 - commit % 8));
        }
        c.due("a wave of the last", x.wave(11, 32), 1);
        c.due("its commit", x.ofMachine(5, 0), 11);
        c.due("has", x.has(5, 0) + " " + x.has(5, 1), "3 4");
    }

    private static void fieldsThatThereAre() {
        c.at("of FIELDS that there are; others: NONE");
        Meetjoin x = new Meetjoin();
        c.due("a commit without fields", x.commit(), 0);
        for (int field = 0; field < 5; field++) {
            c.due("field", x.field(0), field);
            x.oneOf(0, field, 1 << field);
            c.due("commit", x.commit(), field + 1);
        }
        for (int commit = 0; commit < 6; commit++) {
            for (int field = 0; field < 5; field++) {
                c.due("commit " + commit + " has of field " + field, x.ofCommit(commit, field), field < commit ? field : -1);
            }
        }
        for (int field = 0; field < 5; field++) {
            c.due("the change of field " + field, x.ofField(field, 6), field + 1);
        }
    }

    private static void notInAContradiction() {
        c.at("Nothing is committed while there is a CONTRADICTION.");
        Meetjoin x = withFields(1);
        x.oneOf(0, 0, 2);
        c.due("ahead of it", x.commit(), 0);
        x.oneOf(0, 0, 4);
        c.due("in it", Scene.answer(x, it -> it.commit()), STATE);
        c.due("commits", x.house(5), 1);
        c.due("what is committed may go out", x.wave(0, 3), 2);
        c.due("has", x.has(1, 0), 1);
        x.withdraw(0, true);
        c.due("behind it", x.commit(), 1);
        c.due("keeps", x.ofCommit(0, 0) + " " + x.ofCommit(1, 0), "1 2");
        Meetjoin y = withFields(3);
        for (int field = 0; field < 3; field++) {
            y.oneOf(field, field, 3);
            y.unlike(field, field, (field + 1) % 3);
        }
        c.due("without a choice, but without a contradiction", y.commit(), 0);
        c.due("keeps", y.ofCommit(0, 0), -1);
    }

    private static void neverCommitZero() {
        c.at("To FIND the change: .. (so never the COMMIT 0)");
        Meetjoin x = withFields(2);
        now(x, 0, 5);
        c.due("without a commit", x.ofField(0, 6), -1);
        x.commit();
        c.due("in commit 0", x.ofField(0, 6) + " " + x.ofField(1, 6), "-1 -1");
        now(x, 0, 6);
        c.due("what it is now is no commit", x.ofField(0, 6), -1);
        now(x, 0, 5);
        x.commit();
        c.due("the same in commit 1", x.ofField(0, 6) + " " + x.ofField(1, 6), "-1 -1");
        now(x, 1, 0);
        x.commit();
        c.due("in commit 2", x.ofField(0, 6) + " " + x.ofField(1, 6), "-1 2");
    }

    private static void findTheFirst() {
        c.at("the first COMMIT in which it IS something else than in the COMMIT ahead of that");
        Meetjoin x = withFields(1);
        now(x, 0, 3);
        x.commit();
        now(x, 0, 4);
        x.commit();
        c.due("commit 1", x.ofField(0, 6), 1);
        now(x, 0, 3);
        x.commit();
        now(x, 0, 7);
        x.commit();
        c.due("the first of several, though it changed back", x.ofField(0, 6), 1);
    }

    private static void findInTheLast() {
        c.at("the first COMMIT in which it IS something else (the COMMIT 11); NONE, if there is none");
        Meetjoin x = withFields(1);
        now(x, 0, 0);
        for (int commit = 0; commit < 11; commit++) {
            x.commit();
            c.due("commits of the same", x.ofField(0, 6), -1);
        }
        now(x, 0, -1);
        x.commit();
        c.due("none of all", x.ofCommit(11, 0) + " " + x.ofField(0, 6), "-1 11");
    }

    private static void noneIsSomethingElse() {
        c.at("(NONE is something else than a number, here and for a DRIFT.)");
        Meetjoin x = withFields(2);
        x.commit();
        now(x, 0, 0);
        x.commit();
        c.due("from none to 0", x.ofField(0, 6) + " " + x.ofField(1, 6), "1 -1");
        x.wave(0, 1);
        c.due("none and none are the same", x.ofMachine(0, 1), 0);
        for (int number = 0; number <= 7; number++) {
            x.patch(0, 0, number);
            c.due("a number where the commit has none", x.ofMachine(0, 1) + " " + x.ofMachine(0, 2), "1 1");
        }
        x.wave(1, 1);
        c.due("0 of the commit", x.has(0, 0) + " " + x.ofMachine(0, 2), "0 0");
        Meetjoin y = withFields(1);
        now(y, 0, 0);
        y.commit();
        now(y, 0, -1);
        y.commit();
        c.due("from 0 to none", y.ofField(0, 6), 1);
    }

    private static void noneAtFirst() {
        c.at("MACHINES: 6, numbered from 0, each with a COMMIT (NONE at first) and .. a number that it HAS (NONE at first)");
        Meetjoin x = withFields(5);
        for (int machine = 0; machine < 6; machine++) {
            c.due("commit", x.ofMachine(machine, 0), -1);
            c.due("drifts", x.ofMachine(machine, 1) + x.ofMachine(machine, 2), 0);
            for (int field = 0; field < 5; field++) {
                c.due("has", x.has(machine, field), -1);
            }
        }
        x.oneOf(0, 0, 1);
        x.commit();
        c.due("a commit alone changes no machine", x.ofMachine(0, 0) + " " + x.has(0, 0) + " " + x.house(6), "-1 -1 0");
        c.due("patch, that before", x.patch(5, 4, 0), -1);
        c.due("patch, that before", x.patch(5, 4, 7), 0);
        c.due("a late field of a machine", new Scene(c, "late", y -> {
            y.commit();
            y.wave(0, 63);
            y.field(0);
        }).house().has(5, 0), -1);
    }

    private static void whatTheCommitHas() {
        c.at("is of that COMMIT from then on, and HAS, FIELD by FIELD, what the COMMIT has (NONE, too)");
        Meetjoin x = withFields(5);
        now(x, 1, 0);
        now(x, 3, 7);
        x.commit();
        for (int field = 0; field < 5; field++) {
            x.patch(4, field, 5);
            x.patch(2, field, 6);
        }
        c.due("patched, without a commit", x.ofMachine(4, 1), 0);
        c.due("wave", x.wave(0, 16), 1);
        int[] due = {-1, 0, -1, 7, -1};
        for (int field = 0; field < 5; field++) {
            c.due("has of field " + field, x.has(4, field), due[field]);
            c.due("another machine", x.has(2, field), 6);
        }
        c.due("commit", x.ofMachine(4, 0) + " " + x.ofMachine(2, 0), "0 -1");
        x.commit();
        c.due("a later commit does not come by itself", x.ofMachine(4, 0), 0);
        Meetjoin y = new Meetjoin();
        y.commit();
        y.field(0);
        y.patch(0, 0, 7);
        y.wave(0, 1);
        c.due("none of a field that was not there then", y.has(0, 0) + " " + y.ofMachine(0, 2), "-1 0");
    }

    private static void setsOfMachines() {
        c.at("A WAVE of a COMMIT to a set of MACHINES (6, numbered from 0)");
        for (int machines = 0; machines <= 63; machines++) {
            Meetjoin x = withFields(1);
            x.oneOf(0, 0, 4);
            x.commit();
            c.due("wave to " + machines, x.wave(0, machines), Integer.bitCount(machines));
            for (int machine = 0; machine < 6; machine++) {
                boolean got = (machines >> machine & 1) == 1;
                c.due("commit of " + machine, x.ofMachine(machine, 0), got ? 0 : -1);
                c.due("has " + machine, x.has(machine, 0), got ? 2 : -1);
            }
            c.due("wave again to " + machines, x.wave(0, machines), 0);
        }
    }

    private static void aheadOfAWave() {
        c.at("promise 12: on how many of these a FIELD DRIFTED, or that had another COMMIT (or none), ahead of that");
        Meetjoin x = withFields(5);
        now(x, 4, 1);
        x.commit();
        x.commit();
        x.wave(0, 0b000111);
        c.due("none ahead", x.wave(0, 0b001000), 1);
        c.due("another commit of the same", x.wave(1, 0b001000), 1);
        x.patch(0, 4, 2);
        x.patch(1, 0, 2);
        x.patch(1, 4, 2);
        c.due("drifted on 0, twice on 1, not on 2", x.wave(0, 0b000111), 2);
        x.patch(0, 4, 2);
        x.patch(0, 4, 1);
        c.due("patched, but back", x.wave(0, 0b000001), 0);
        x.patch(0, 4, 2);
        c.due("drifted, but not among these", x.wave(0, 0b000110), 0);
        c.due("it drifts still", x.ofMachine(0, 1), 1);
        c.due("drifted, and another commit: once", x.wave(1, 0b000001), 1);
        c.due("a drift and two of another commit", x.wave(1, 0b001111), 2);
    }

    private static void drifts() {
        c.at("A FIELD DRIFTS on a MACHINE with a COMMIT, if it HAS something else than that COMMIT has");
        Meetjoin x = withFields(5);
        for (int field = 0; field < 5; field++) {
            now(x, field, field + 1);
        }
        for (int field = 0; field < 5; field++) {
            x.patch(0, field, 0);
        }
        c.due("without a commit", x.ofMachine(0, 1) + " " + x.house(6), "0 0");
        x.commit();
        c.due("a commit that did not go to it", x.ofMachine(0, 1), 0);
        x.wave(0, 63);
        for (int field = 0; field < 5; field++) {
            x.patch(5, field, field + 1);
            c.due("patched to the same", x.ofMachine(5, 1), 0);
        }
        for (int field = 0; field < 5; field++) {
            x.patch(5, field, field + 2);
            c.due("how many", x.ofMachine(5, 1), field + 1);
            c.due("which", x.ofMachine(5, 2), (2 << field) - 1);
            c.due("machines on which one drifts", x.house(6), 1);
        }
        now(x, 0, 2);
        x.commit();
        c.due("not by what fields are now, nor by another commit", x.ofMachine(5, 1), 5);
        x.wave(1, 32);
        c.due("none behind a wave", x.ofMachine(5, 1) + " " + x.house(6), "0 0");
        for (int machine = 0; machine < 6; machine++) {
            x.patch(machine, 0, 7);
            c.due("machines on which one drifts", x.house(6), machine + 1);
        }
    }

    private static void absorbs() {
        c.at("To ABSORB a DRIFT: a LINE comes, by the TEAM of the FIELD: ONE OF with just what the MACHINE HAS");
        for (int field = 0; field < 5; field++) {
            for (int number = 0; number <= 7; number += 7) {
                Meetjoin x = withFields(5);
                x.commit();
                x.wave(0, 63);
                x.patch(5, field, number);
                c.due("absorb", x.absorb(5, field), 0);
                int[] due = {0, field % 4, field, 1 << number, 0, 1, 0};
                for (int what = 0; what <= 6; what++) {
                    c.due("ofLine(0, " + what + ")", x.ofLine(0, what), due[what]);
                }
                c.due("value", x.value(field), number + "=" + number);
                c.at("(the COMMIT stays what it is)");
                c.due("the commit", x.ofCommit(0, field) + " " + x.house(5), "-1 1");
                c.due("so it drifts still", x.ofMachine(5, 2), 1 << field);
                c.due("absorb again", x.absorb(5, field), 1);
                c.due("commit", x.commit(), 1);
                c.due("the change", x.ofField(field, 6), 1);
            }
        }
        Meetjoin y = withFields(1);
        y.oneOf(0, 0, 2);
        y.commit();
        y.wave(0, 1);
        y.patch(0, 0, 3);
        c.due("absorb in contrast to another line", y.absorb(0, 0), 1);
        c.due("a contradiction", y.value(0), "!");
        c.due("absorb in a contradiction", y.absorb(0, 0), 2);
    }

    private static void refused() {
        c.at("The SAFE has a KEY: who knocks is REFUSED (counted)");
        Meetjoin x = withFields(1);
        c.due("at first", x.house(8), 0);
        for (int knock = 1; knock <= 512 - 2 - 8; knock++) {
            c.due("with this", x.knock(), knock);
        }
        c.due("ever", x.house(8), 502);
        c.due("nothing else", x.value(0) + x.house(1) + x.house(5), "0123456700");
        Meetjoin y = withFields(1);
        Scene.answer(y, it -> it.field(9));
        Scene.answer(y, it -> it.absorb(0, 0));
        c.due("what throws is not counted", y.house(8) + " " + y.knock(), "0 1");
    }
}
