/** All that can be asked of a house, as one text. */
final class Snapshot {
    private Snapshot() {
    }

    static String of(Meetjoin x) {
        StringBuilder all = new StringBuilder();
        for (int what = 0; what <= 8; what++) {
            all.append(x.house(what)).append(' ');
        }
        for (int field = 0; field < x.house(0); field++) {
            all.append("\nfield ").append(field).append(": ").append(x.value(field)).append(" reason ").append(x.reason(field));
            for (int what = 0; what <= 6; what++) {
                all.append(' ').append(x.ofField(field, what));
            }
            for (int number = 0; number <= 7; number++) {
                all.append(" c").append(x.choices(field, number));
            }
        }
        all.append("\nreason ").append(x.reason(-1));
        for (int line = 0; line < x.house(1); line++) {
            all.append("\nline ").append(line).append(':');
            for (int what = 0; what <= 6; what++) {
                all.append(' ').append(x.ofLine(line, what));
            }
        }
        addMachinesAndCommits(all, x);
        return all.append("\nsound ").append(x.isSound()).append(" digest ").append(x.digest()).toString();
    }

    private static void addMachinesAndCommits(StringBuilder all, Meetjoin x) {
        for (int machine = 0; machine < 6; machine++) {
            all.append("\nmachine ").append(machine).append(':');
            for (int what = 0; what <= 2; what++) {
                all.append(' ').append(x.ofMachine(machine, what));
            }
            for (int field = 0; field < x.house(0); field++) {
                all.append(" h").append(x.has(machine, field));
            }
        }
        for (int commit = 0; commit < x.house(5); commit++) {
            all.append("\ncommit ").append(commit).append(':');
            for (int field = 0; field < x.house(0); field++) {
                all.append(' ').append(x.ofCommit(commit, field));
            }
        }
    }
}
