import java.util.function.Supplier;

/** All that can be asked of a house, as one text. */
final class Snapshot {
    private Snapshot() {
    }

    /** Asks a house made anew for each part, so that none of them comes to its 512th call. */
    static String of(Supplier<Meetjoin> made) {
        return ofFields(made.get()) + ofLines(made.get()) + ofMachinesAndCommits(made.get()) + ofWhatWouldBe(made.get());
    }

    private static String ofFields(Meetjoin x) {
        StringBuilder all = new StringBuilder("house");
        for (int what = 0; what <= 8; what++) {
            all.append(' ').append(x.house(what));
        }
        for (int field = 0; field < x.house(0); field++) {
            all.append("\nfield ").append(field).append(": ").append(x.value(field)).append(" reason ").append(x.reason(field));
            for (int what = 0; what <= 6; what++) {
                all.append(' ').append(x.ofField(field, what));
            }
            for (int number = 0; number <= 7; number++) {
                all.append(" c").append(x.choices(field, number));
            }
        }
        return all.append("\nreason ").append(x.reason(-1)).append(" sound ").append(x.isSound())
            .append(" digest ").append(x.digest()).toString();
    }

    private static String ofLines(Meetjoin x) {
        StringBuilder all = new StringBuilder();
        for (int line = 0; line < x.house(1); line++) {
            all.append("\nline ").append(line).append(':');
            for (int what = 0; what <= 6; what++) {
                all.append(' ').append(x.ofLine(line, what));
            }
        }
        return all.toString();
    }

    private static String ofMachinesAndCommits(Meetjoin x) {
        StringBuilder all = new StringBuilder();
        for (int machine = 0; machine < 6; machine++) {
            all.append("\nmachine ").append(machine).append(':');
            for (int what = 0; what <= 2; what++) {
                all.append(' ').append(x.ofMachine(machine, what));
            }
            for (int field = 0; field < x.house(0); field++) {
                all.append(" h").append(x.has(machine, field));
            }
        }
        for (int commit = 0; commit < x.house(5); commit++) {
            all.append("\ncommit ").append(commit).append(':');
            for (int field = 0; field < x.house(0); field++) {
                all.append(' ').append(x.ofCommit(commit, field));
            }
        }
        return all.toString();
    }

    private static String ofWhatWouldBe(Meetjoin x) {
        StringBuilder all = new StringBuilder();
        int fields = x.house(0);
        int lines = x.house(1);
        for (int field = 0; field < fields; field++) {
            all.append("\nmet ").append(field).append(':').append(x.met((1 << lines) - 1, field));
            for (int line = 0; line < lines; line++) {
                all.append(' ').append(x.met(1 << line, field));
            }
            all.append(" narrower than");
            for (int other = 0; other < fields; other++) {
                all.append(x.isNarrower(field, other) ? " " + other : "");
            }
        }
        return all.toString();
    }
}
