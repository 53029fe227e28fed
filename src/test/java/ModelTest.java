import java.util.function.Supplier;

/** Runs of calls at random (by a fixed rule, the same each time), each answer against that of the model. */
public final class ModelTest {
    private static final int RUNS = 400;
    private static final int CALLS = 512;

    private final Check c;
    private final int run;
    private long seed;
    private int calls = 0;
    private Meetjoin x = new Meetjoin();
    private Model m = new Model();

    private ModelTest(Check c, int run) {
        this.c = c;
        this.run = run;
        seed = run * 7919L + 17;
    }

    public static void main(String[] args) {
        Check c = new Check("ModelTest");
        for (int run = 0; run < RUNS; run++) {
            new ModelTest(c, run).go();
        }
        c.end();
    }

    private int any(int below) {
        seed = seed * 6364136223846793005L + 1442695040888963407L;
        return (int) ((seed >>> 33) % below);
    }

    /** A number from 0 to below it, seldom another one, very seldom one far off. */
    private int near(int below) {
        int dice = any(60);
        if (dice == 0) {
            return -1;
        }
        if (dice == 1) {
            return below;
        }
        if (dice == 2) {
            int[] far = {Integer.MIN_VALUE, Integer.MAX_VALUE, -2, below + 1, 32, 64, 1 << 30};
            return far[any(far.length)];
        }
        return any(below < 1 ? 1 : below);
    }

    private void go() {
        int fields = 1 + any(5);
        int teams = 1 + any(4);
        for (int k = 0; k < fields; k++) {
            int team = any(teams);
            same("field " + team, () -> x.field(team), () -> m.field(team));
        }
        // Some runs withdraw and tell few lines, so that what fields may be stays wide; others tell many.
        int telling = 2 + any(12);
        while (calls < CALLS - 2) {
            int dice = any(100);
            if (dice < telling) {
                tell(teams);
            } else if (dice < 34) {
                change();
            } else if (dice < 96) {
                ask();
            } else {
                same("digest", x::digest, m::digest);
            }
        }
        same("digest", x::digest, m::digest);
    }

    private int someField() {
        return near(m.house(0));
    }

    private int someLine() {
        return near(m.house(1));
    }

    private void tell(int teams) {
        int team = any(12) == 0 ? near(4) : any(teams);
        int field = someField();
        int other = someField();
        int number = near(8);
        int rank = any(3) == 0 ? near(10) : any(2);
        int by = any(3) == 0 ? near(16) - 8 : any(5) - 2;
        int set = any(4) == 0 ? near(256) : 255 & ~(1 << any(8)) & ~(1 << any(8));
        int least = any(3) == 0 ? number : any(4);
        int most = any(3) == 0 ? number : 4 + any(4);
        String who = " by " + team + " of " + field;
        switch (any(9)) {
            case 0: same("oneOf " + set + who, () -> x.oneOf(team, field, set), () -> m.oneOf(team, field, set)); break;
            case 1: same("least " + least + who, () -> x.bound(team, field, least, false), () -> m.bound(team, field, least, false)); break;
            case 2: same("most " + most + who, () -> x.bound(team, field, most, true), () -> m.bound(team, field, most, true)); break;
            case 3: same("more " + other + "," + by + who, () -> x.more(team, field, other, by), () -> m.more(team, field, other, by)); break;
            case 4:
            case 5: same("unlike " + other + who, () -> x.unlike(team, field, other), () -> m.unlike(team, field, other)); break;
            default: same("preset " + number + "," + rank + who, () -> x.preset(team, field, number, rank), () -> m.preset(team, field, number, rank)); break;
        }
    }

    private void change() {
        int field = someField();
        int line = someLine();
        int machine = near(6);
        int number = near(8);
        boolean is = any(2) == 0;
        boolean seldom = any(3) == 0;
        int weight = near(10);
        int commit = near(m.house(5));
        int machines = near(64);
        int team = near(4);
        switch (any(9)) {
            case 0: same("approve " + line + is, () -> x.approve(line, is), () -> m.approve(line, is)); break;
            case 1: same("withdraw " + line + seldom, () -> x.withdraw(line, seldom), () -> m.withdraw(line, seldom)); break;
            case 2: same("weight " + field + "," + weight, () -> x.weight(field, weight), () -> m.weight(field, weight)); break;
            case 3: if (any(4) == 0) same("commit", x::commit, m::commit); break;
            case 4: same("wave " + commit + "," + machines, () -> x.wave(commit, machines), () -> m.wave(commit, machines)); break;
            case 5: same("patch " + machine + "," + field + "," + number, () -> x.patch(machine, field, number), () -> m.patch(machine, field, number)); break;
            case 6: if (any(4) == 0) same("absorb " + machine + "," + field, () -> x.absorb(machine, field), () -> m.absorb(machine, field)); break;
            case 7: if (any(6) == 0) same("field " + team, () -> x.field(team), () -> m.field(team)); break;
            default: same("knock", x::knock, m::knock); break;
        }
    }

    private void ask() {
        int field = someField();
        int other = someField();
        int line = someLine();
        int machine = near(6);
        int number = near(8);
        int commit = near(m.house(5));
        int reasonOf = any(4) == 0 ? -1 : field;
        int lines = any(8) == 0 ? near(1 << m.house(1)) : any(Integer.MAX_VALUE) & (1 << m.house(1)) - 1;
        int what = near(7);
        int whatOfMachine = near(3);
        int whatOfHouse = near(9);
        switch (any(12)) {
            case 0:
            case 1: same("ofField " + field + "," + what, () -> x.ofField(field, what), () -> m.ofField(field, what)); break;
            case 2: same("ofLine " + line + "," + what, () -> x.ofLine(line, what), () -> m.ofLine(line, what)); break;
            case 3: same("ofMachine " + machine + "," + whatOfMachine, () -> x.ofMachine(machine, whatOfMachine), () -> m.ofMachine(machine, whatOfMachine)); break;
            case 4: same("has " + machine + "," + field, () -> x.has(machine, field), () -> m.has(machine, field)); break;
            case 5: same("ofCommit " + commit + "," + field, () -> x.ofCommit(commit, field), () -> m.ofCommit(commit, field)); break;
            case 6: same("house " + whatOfHouse, () -> x.house(whatOfHouse), () -> m.house(whatOfHouse)); break;
            case 7: same("value " + field, () -> x.value(field), () -> m.value(field)); break;
            case 8: same("reason " + reasonOf, () -> x.reason(reasonOf), () -> m.reason(reasonOf)); break;
            case 9: same("met " + lines + "," + field, () -> x.met(lines, field), () -> m.met(lines, field)); break;
            case 10: same("choices " + field + "," + number, () -> x.choices(field, number), () -> m.choices(field, number)); break;
            default:
                same("isNarrower " + field + "," + other, () -> x.isNarrower(field, other), () -> m.isNarrower(field, other));
                same("isSound", x::isSound, m::isSound);
                break;
        }
    }

    private void same(String call, Supplier<Object> ofHouse, Supplier<Object> ofModel) {
        calls++;
        c.due("run " + run + ": " + call, answer(ofHouse), answer(ofModel));
    }

    private static Object answer(Supplier<Object> call) {
        try {
            return call.get();
        } catch (RuntimeException e) {
            return "throws." + e.getClass().getName();
        }
    }
}
