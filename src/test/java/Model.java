import java.util.ArrayList;
import java.util.Arrays;
import java.util.List;
import java.util.TreeSet;

/** The document once more, word by word and without regard to speed; nothing of Meetjoin is used in it. */
final class Model {
    private record Line(int kind, int team, int field, int a, int b) {
    }

    private final List<Integer> teams = new ArrayList<>();
    private final List<Integer> weights = new ArrayList<>();
    private final List<Line> lines = new ArrayList<>();
    private final TreeSet<Integer> approved = new TreeSet<>();
    private final TreeSet<Integer> withdrawn = new TreeSet<>();
    private final List<List<Integer>> commits = new ArrayList<>();
    private final int[] commitOf = {-1, -1, -1, -1, -1, -1};
    private final int[][] had = new int[6][5];
    private int refused = 0;
    private List<int[]> choicesKept = null;

    Model() {
        for (int[] row : had) {
            Arrays.fill(row, -1);
        }
    }

    private static void index(boolean isRight) {
        if (!isRight) {
            throw new IndexOutOfBoundsException();
        }
    }

    private static void argument(boolean isRight) {
        if (!isRight) {
            throw new IllegalArgumentException();
        }
    }

    private static void state(boolean isRight) {
        if (!isRight) {
            throw new IllegalStateException();
        }
    }

    private static boolean in(int x, int from, int to) {
        return from <= x && x <= to;
    }

    private boolean isField(int field) {
        return in(field, 0, teams.size() - 1);
    }

    private int add(Line line) {
        state(lines.size() < 30);
        lines.add(line);
        choicesKept = null;
        return lines.size() - 1;
    }

    int field(int team) {
        argument(in(team, 0, 3));
        state(teams.size() < 5);
        teams.add(team);
        weights.add(1);
        choicesKept = null;
        return teams.size() - 1;
    }

    int oneOf(int team, int field, int set) {
        index(isField(field));
        argument(in(team, 0, 3) && in(set, 1, 255));
        return add(new Line(0, team, field, set, 0));
    }

    int bound(int team, int field, int number, boolean isMost) {
        index(isField(field));
        argument(in(team, 0, 3) && in(number, 0, 7));
        return add(new Line(isMost ? 2 : 1, team, field, number, 0));
    }

    int more(int team, int field, int other, int by) {
        index(isField(field) && isField(other));
        argument(in(team, 0, 3) && field != other && in(by, -7, 7));
        return add(new Line(3, team, field, other, by));
    }

    int unlike(int team, int field, int other) {
        index(isField(field) && isField(other));
        argument(in(team, 0, 3) && field != other);
        return add(new Line(4, team, field, other, 0));
    }

    int preset(int team, int field, int number, int rank) {
        index(isField(field));
        argument(in(team, 0, 3) && in(number, 0, 7) && in(rank, 0, 9));
        return add(new Line(5, team, field, number, rank));
    }

    boolean approve(int line, boolean is) {
        index(in(line, 0, lines.size() - 1));
        choicesKept = null;
        if (is) {
            approved.add(line);
        } else {
            approved.remove(line);
        }
        return counts(line);
    }

    boolean withdraw(int line, boolean is) {
        index(in(line, 0, lines.size() - 1));
        choicesKept = null;
        if (is) {
            withdrawn.add(line);
        } else {
            withdrawn.remove(line);
        }
        return counts(line);
    }

    int weight(int field, int weight) {
        index(isField(field));
        argument(in(weight, 0, 9));
        return weights.set(field, weight);
    }

    private boolean counts(int line) {
        boolean own = lines.get(line).team() == teams.get(lines.get(line).field());
        return !withdrawn.contains(line) && (own || approved.contains(line));
    }

    private List<Line> counting() {
        List<Line> all = new ArrayList<>();
        for (int line = 0; line < lines.size(); line++) {
            if (counts(line)) {
                all.add(lines.get(line));
            }
        }
        return all;
    }

    // ---- to meet

    /** What each field may be by these lines; null with a contradiction. The last line begins, unlike in Meetjoin. */
    private List<TreeSet<Integer>> meet(List<Line> set) {
        List<TreeSet<Integer>> may = new ArrayList<>();
        for (int field = 0; field < teams.size(); field++) {
            may.add(new TreeSet<>(List.of(0, 1, 2, 3, 4, 5, 6, 7)));
        }
        boolean less = true;
        while (less) {
            less = false;
            for (int k = set.size() - 1; k >= 0; k--) {
                less |= take(set.get(k), may);
            }
        }
        for (TreeSet<Integer> one : may) {
            if (one.isEmpty()) {
                return null;
            }
        }
        return may;
    }

    private static boolean take(Line line, List<TreeSet<Integer>> may) {
        TreeSet<Integer> mine = may.get(line.field());
        switch (line.kind()) {
            case 0: return mine.removeIf(n -> (line.a() & 1 << n) == 0);
            case 1: return mine.removeIf(n -> n < line.a());
            case 2: return mine.removeIf(n -> n > line.a());
            case 3: {
                TreeSet<Integer> others = may.get(line.a());
                boolean one = mine.removeIf(n -> !others.contains(n - line.b()));
                return others.removeIf(n -> !mine.contains(n + line.b())) || one;
            }
            case 4: {
                TreeSet<Integer> others = may.get(line.a());
                boolean one = others.size() == 1 && mine.remove(others.first());
                return mine.size() == 1 && others.remove(mine.first()) || one;
            }
            default: return false;
        }
    }

    private static int setOf(List<TreeSet<Integer>> may, int field) {
        int set = 0;
        if (may != null) {
            for (int n : may.get(field)) {
                set += 1 << n;
            }
        }
        return set;
    }

    private int may(int field) {
        return setOf(meet(counting()), field);
    }

    private boolean isContradiction() {
        return meet(counting()) == null;
    }

    private int is(int field) {
        List<Line> with = counting();
        if (meet(with) == null) {
            return -1;
        }
        for (int f = 0; f < teams.size(); f++) {
            if (meet(with).get(f).size() > 1) {
                settle(f, with);
            }
        }
        TreeSet<Integer> end = meet(with).get(field);
        return end.size() == 1 ? end.first() : -1;
    }

    /** Tries the defaults of a field in their order; the one that is taken is added to the lines as ONE OF. */
    private void settle(int field, List<Line> with) {
        List<Line> defaults = counting();
        defaults.removeIf(line -> line.kind() != 5 || line.field() != field);
        defaults.sort((p, q) -> p.b() != q.b() ? q.b() - p.b() : p.a() - q.a());
        for (Line one : defaults) {
            if (meet(with).get(field).contains(one.a())) {
                List<Line> tried = new ArrayList<>(with);
                tried.add(new Line(0, 0, field, 1 << one.a(), 0));
                if (meet(tried) != null) {
                    with.add(tried.get(tried.size() - 1));
                    return;
                }
            }
        }
    }

    // ---- reasons and choices

    int reason(int field) {
        index(field == -1 || isField(field));
        boolean isAll = isContradiction();
        if (!isAll && field == -1) {
            return 0;
        }
        TreeSet<Integer> stays = new TreeSet<>();
        for (int line = 0; line < lines.size(); line++) {
            if (counts(line) && lines.get(line).kind() != 5) {
                stays.add(line);
            }
        }
        int due = isAll ? 0 : may(field);
        for (int line = 0; line < lines.size(); line++) {
            List<Line> rest = new ArrayList<>();
            for (int stay : stays) {
                if (stay != line) {
                    rest.add(lines.get(stay));
                }
            }
            List<TreeSet<Integer>> left = meet(rest);
            if (isAll ? left == null : setOf(left, field) == due) {
                stays.remove(line);
            }
        }
        int set = 0;
        for (int stay : stays) {
            set += 1 << stay;
        }
        return set;
    }

    private static boolean holds(Line line, int[] choice) {
        int number = choice[line.field()];
        switch (line.kind()) {
            case 0: return (line.a() & 1 << number) != 0;
            case 1: return number >= line.a();
            case 2: return number <= line.a();
            case 3: return number == choice[line.a()] + line.b();
            case 4: return number != choice[line.a()];
            default: return true;
        }
    }

    /** All choices, that with the smaller number at the first field in which two differ first. */
    private List<int[]> all() {
        if (choicesKept != null) {
            return choicesKept;
        }
        choicesKept = new ArrayList<>();
        List<Line> with = counting();
        int fields = teams.size();
        for (int code = 0; fields > 0 && code < 1 << 3 * fields; code++) {
            int[] choice = new int[fields];
            for (int field = 0; field < fields; field++) {
                choice[field] = code >> 3 * (fields - 1 - field) & 7;
            }
            boolean all = true;
            for (int k = 0; all && k < with.size(); k++) {
                all = holds(with.get(k), choice);
            }
            if (all) {
                choicesKept.add(choice);
            }
        }
        return choicesKept;
    }

    private int cost(int[] choice) {
        int sum = 0;
        for (int field = 0; field < choice.length; field++) {
            sum += weights.get(field) * choice[field];
        }
        return sum;
    }

    private int[] best() {
        int[] best = null;
        for (int[] choice : all()) {
            if (best == null || cost(choice) < cost(best)) {
                best = choice;
            }
        }
        return best;
    }

    int choices(int field, int number) {
        index(isField(field));
        argument(in(number, 0, 7));
        int many = 0;
        for (int[] choice : all()) {
            many += choice[field] == number ? 1 : 0;
        }
        return Math.min(many, 500);
    }

    // ---- commits and machines

    int commit() {
        state(!isContradiction() && commits.size() < 12);
        List<Integer> now = new ArrayList<>();
        for (int field = 0; field < teams.size(); field++) {
            now.add(is(field));
        }
        commits.add(now);
        return commits.size() - 1;
    }

    private int kept(int commit, int field) {
        List<Integer> all = commits.get(commit);
        return field < all.size() ? all.get(field) : -1;
    }

    private boolean drifts(int machine, int field) {
        return commitOf[machine] != -1 && had[machine][field] != kept(commitOf[machine], field);
    }

    private int drifting(int machine) {
        int set = 0;
        for (int field = 0; field < teams.size(); field++) {
            set += drifts(machine, field) ? 1 << field : 0;
        }
        return set;
    }

    int wave(int commit, int machines) {
        index(in(commit, 0, commits.size() - 1));
        argument(in(machines, 0, 63));
        int many = 0;
        for (int machine = 0; machine < 6; machine++) {
            if ((machines & 1 << machine) != 0) {
                many += drifting(machine) != 0 || commitOf[machine] != commit ? 1 : 0;
                commitOf[machine] = commit;
                for (int field = 0; field < 5; field++) {
                    had[machine][field] = kept(commit, field);
                }
            }
        }
        return many;
    }

    int patch(int machine, int field, int number) {
        index(in(machine, 0, 5) && isField(field));
        argument(in(number, 0, 7));
        int before = had[machine][field];
        had[machine][field] = number;
        return before;
    }

    int absorb(int machine, int field) {
        index(in(machine, 0, 5) && isField(field));
        state(drifts(machine, field));
        return add(new Line(0, teams.get(field), field, 1 << had[machine][field], 0));
    }

    int knock() {
        return ++refused;
    }

    // ---- what is asked

    int ofField(int field, int what) {
        index(isField(field));
        argument(in(what, 0, 6));
        switch (what) {
            case 0: return teams.get(field);
            case 1: return may(field);
            case 2: return Integer.bitCount(may(field));
            case 3: return is(field);
            case 4: return weights.get(field);
            case 5: return best() == null ? -1 : best()[field];
            default:
                for (int commit = 1; commit < commits.size(); commit++) {
                    if (kept(commit, field) != kept(commit - 1, field)) {
                        return commit;
                    }
                }
                return -1;
        }
    }

    int ofLine(int line, int what) {
        index(in(line, 0, lines.size() - 1));
        argument(in(what, 0, 6));
        Line one = lines.get(line);
        switch (what) {
            case 0: return one.kind();
            case 1: return one.team();
            case 2: return one.field();
            case 3: return one.a();
            case 4: return one.b();
            case 5: return counts(line) ? 1 : 0;
            default: return (reason(-1) & 1 << line) != 0 ? 1 : 0;
        }
    }

    int ofMachine(int machine, int what) {
        index(in(machine, 0, 5));
        argument(in(what, 0, 2));
        int set = drifting(machine);
        return what == 0 ? commitOf[machine] : what == 1 ? Integer.bitCount(set) : set;
    }

    int has(int machine, int field) {
        index(in(machine, 0, 5) && isField(field));
        return had[machine][field];
    }

    int ofCommit(int commit, int field) {
        index(in(commit, 0, commits.size() - 1) && isField(field));
        return kept(commit, field);
    }

    int house(int what) {
        argument(in(what, 0, 8));
        int many = 0;
        switch (what) {
            case 0: return teams.size();
            case 1: return lines.size();
            case 2: return counting().size();
            case 3: return isContradiction() ? 1 : 0;
            case 4:
                for (int field = 0; field < teams.size(); field++) {
                    many += is(field) != -1 ? 1 : 0;
                }
                return many;
            case 5: return commits.size();
            case 6:
                for (int machine = 0; machine < 6; machine++) {
                    many += drifting(machine) != 0 ? 1 : 0;
                }
                return many;
            case 7: return best() == null ? -1 : cost(best());
            default: return refused;
        }
    }

    String value(int field) {
        index(isField(field));
        String text = isContradiction() ? "!" : "";
        for (int n = 0; n < 8; n++) {
            text += (may(field) & 1 << n) != 0 ? "" + n : "";
        }
        return is(field) == -1 ? text : text + "=" + is(field);
    }

    // ---- what would be

    int met(int set, int field) {
        index(isField(field));
        argument((set & 0xffffffffL) >> lines.size() == 0);
        List<Line> some = new ArrayList<>();
        for (int line = 0; line < lines.size(); line++) {
            if ((set & 1 << line) != 0) {
                some.add(lines.get(line));
            }
        }
        return setOf(meet(some), field);
    }

    boolean isNarrower(int one, int other) {
        index(isField(one) && isField(other));
        return (may(one) | may(other)) == may(other);
    }

    boolean isSound() {
        return true;
    }

    long digest() {
        long d = 7703;
        List<Integer> all = new ArrayList<>();
        for (int what = 0; what < 9; what++) {
            all.add(house(what));
        }
        for (int field = 0; field < teams.size(); field++) {
            for (int what = 0; what < 7; what++) {
                all.add(ofField(field, what));
            }
            all.add(reason(field));
        }
        all.add(reason(-1));
        for (int line = 0; line < lines.size(); line++) {
            all.add(ofLine(line, 5));
        }
        for (int machine = 0; machine < 6; machine++) {
            for (int what = 0; what < 3; what++) {
                all.add(ofMachine(machine, what));
            }
            for (int field = 0; field < teams.size(); field++) {
                all.add(has(machine, field));
            }
        }
        for (int commit = 0; commit < commits.size(); commit++) {
            for (int field = 0; field < teams.size(); field++) {
                all.add(ofCommit(commit, field));
            }
        }
        all.add(1);
        for (int v : all) {
            d = d * 31 + v;
        }
        return d;
    }
}
