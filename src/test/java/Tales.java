/** What the tests of bounds tell a house first: each of these ends at a bound, or near to none. */
final class Tales {
    private Tales() {
    }

    /** 3 fields of the teams 0, 1, 2; 6 lines of all kinds; 2 commits; field 0 drifts on machine 1. */
    static void middle(Meetjoin x) {
        x.field(0);
        x.field(1);
        x.field(2);
        x.bound(0, 0, 1, false);
        x.unlike(1, 1, 0);
        x.more(3, 2, 1, 1);
        x.preset(0, 0, 4, 3);
        x.oneOf(2, 1, 12);
        x.approve(2, true);
        x.weight(1, 3);
        x.commit();
        x.preset(1, 1, 2, 0);
        x.commit();
        x.wave(0, 0b000011);
        x.wave(1, 0b000100);
        x.patch(1, 0, 6);
        x.patch(5, 1, 2);
        x.knock();
    }

    static void fourFields(Meetjoin x) {
        middle(x);
        x.field(3);
    }

    static void fiveFields(Meetjoin x) {
        fourFields(x);
        x.field(1);
    }

    static void linesUpTo(Meetjoin x, int lines) {
        middle(x);
        for (int line = 6; line < lines; line++) {
            x.bound(line % 4, line % 3, 7 - line % 2, true);
        }
    }

    static void commitsUpTo(Meetjoin x, int commits) {
        middle(x);
        for (int commit = 2; commit < commits; commit++) {
            x.withdraw(3, commit % 2 == 0);
            x.commit();
        }
    }

    static void contradiction(Meetjoin x) {
        middle(x);
        x.oneOf(0, 0, 1);
    }
}
