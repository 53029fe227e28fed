import java.util.function.Supplier;

/** A house as a tale tells it. It is told anew for each question, so that no object comes to its 512th call. */
final class Scene {
    /** The calls by which a house comes to be what it is in a scene. */
    interface Tale {
        void tell(Meetjoin x);
    }

    /** The call that is asked for. */
    interface Call {
        Object of(Meetjoin x);
    }

    private final Check c;
    private final String name;
    private final Tale tale;
    private final String asTold;
    private final String lateron;

    Scene(Check c, String name, Tale tale) {
        this.c = c;
        this.name = name;
        this.tale = tale;
        asTold = Snapshot.of(this::house);
        lateron = goneOn(this::house);
    }

    Meetjoin house() {
        Meetjoin x = new Meetjoin();
        tale.tell(x);
        return x;
    }

    void answers(Object want, String what, Call call) {
        c.due(name + ": " + what, answer(house(), call), want);
    }

    /**
     * The call throws just this, and changes nothing: all that can be asked answers as without it,
     * and so it does behind further calls (which would show what can't be asked for at once).
     */
    void refuses(Class<? extends RuntimeException> want, String what, Call call) {
        c.due(name + ": " + what, answer(house(), call), "throws " + want.getName());
        c.due(name + ": what is behind " + what, Snapshot.of(() -> behind(call)), asTold);
        c.due(name + ": what comes behind " + what, goneOn(() -> behind(call)), lateron);
    }

    private Meetjoin behind(Call call) {
        Meetjoin x = house();
        answer(x, call);
        return x;
    }

    static Object answer(Meetjoin x, Call call) {
        try {
            return call.of(x);
        } catch (RuntimeException e) {
            return "throws " + e.getClass().getName();
        }
    }

    /** What calls behind the tale, and behind this call, answer, and all that can be asked behind them. */
    private String goneOn(Supplier<Meetjoin> made) {
        return goOn(made.get()) + Snapshot.of(() -> {
            Meetjoin x = made.get();
            goOn(x);
            return x;
        });
    }

    private static String goOn(Meetjoin x) {
        Call[] calls = {
            it -> it.oneOf(3, 0, 0b11011010),
            it -> it.ofLine(it.house(1) - 1, 5),
            it -> it.approve(it.house(1) - 1, true),
            it -> it.field(2),
            it -> it.ofField(it.house(0) - 1, 4),
            it -> it.unlike(2, 0, it.house(0) - 1),
            it -> it.preset(0, 0, 6, 9),
            it -> it.ofLine(it.house(1) - 1, 5),
            it -> it.withdraw(0, true),
            it -> it.weight(0, 4),
            it -> it.commit(),
            it -> it.wave(it.house(5) - 1, 0b010110),
            it -> it.patch(2, 0, 1),
            it -> it.absorb(2, 0),
            it -> it.knock()
        };
        StringBuilder all = new StringBuilder();
        for (Call call : calls) {
            all.append(answer(x, call)).append(' ');
        }
        return all.toString();
    }

    /** Just outside of a bound, and far outside. */
    static int[] outside(int least, int most) {
        return new int[] {least - 1, most + 1, Integer.MIN_VALUE, Integer.MAX_VALUE, least - 256, most + 256};
    }

    /** Just inside of each bound. */
    static int[] inside(int least, int most) {
        return new int[] {least, most};
    }
}
