import java.util.Arrays;

/** A house where settings are told as laws, and values meet. A set is the sum of 2^k for each number k. */
public final class Meetjoin {
    private static final int NONE = -1;
    private static final int TEAMS = 4;
    private static final int MAX_FIELDS = 5;
    private static final int MAX_LINES = 30;
    private static final int NUMBERS = 8;
    private static final int ALL_NUMBERS = 255;
    private static final int MOST_BY = 7;
    private static final int MOST_RANK = 9;
    private static final int MOST_WEIGHT = 9;
    private static final int MACHINES = 6;
    private static final int ALL_MACHINES = 63;
    private static final int MAX_COMMITS = 12;
    private static final int MOST_CHOICES = 500;

    private static final int ONE_OF = 0;
    private static final int AT_LEAST = 1;
    private static final int AT_MOST = 2;
    private static final int MORE = 3;
    private static final int UNLIKE = 4;
    private static final int DEFAULT = 5;

    private final Laws laws;
    private final Outlook outlook;
    private final Fleet fleet;
    private int refused;

    public Meetjoin() {
        laws = new Laws();
        outlook = new Outlook(laws);
        fleet = new Fleet();
        refused = 0;
    }

    // ---- fields and lines

    public int field(int team) throws IllegalArgumentException, IllegalStateException {
        if (!isTeam(team)) {
            throw new IllegalArgumentException("team is not 0 to 3");
        }
        if (laws.fields >= MAX_FIELDS) {
            throw new IllegalStateException("there are 5 fields");
        }
        int made = laws.makeField(team);
        outlook.renew();
        return made;
    }

    public int oneOf(int team, int field, int set)
            throws IndexOutOfBoundsException, IllegalArgumentException, IllegalStateException {
        if (!isField(field)) {
            throw new IndexOutOfBoundsException("no such field");
        }
        if (!isTeam(team) || set < 1 || set > ALL_NUMBERS) {
            throw new IllegalArgumentException("team is not 0 to 3, or set not 1 to 255");
        }
        if (laws.lines >= MAX_LINES) {
            throw new IllegalStateException("there are 30 lines");
        }
        return tell(ONE_OF, team, field, set, 0);
    }

    public int bound(int team, int field, int number, boolean isMost)
            throws IndexOutOfBoundsException, IllegalArgumentException, IllegalStateException {
        if (!isField(field)) {
            throw new IndexOutOfBoundsException("no such field");
        }
        if (!isTeam(team) || !isNumber(number)) {
            throw new IllegalArgumentException("team is not 0 to 3, or number not 0 to 7");
        }
        if (laws.lines >= MAX_LINES) {
            throw new IllegalStateException("there are 30 lines");
        }
        return tell(isMost ? AT_MOST : AT_LEAST, team, field, number, 0);
    }

    public int more(int team, int field, int other, int by)
            throws IndexOutOfBoundsException, IllegalArgumentException, IllegalStateException {
        if (!isField(field) || !isField(other)) {
            throw new IndexOutOfBoundsException("no such field");
        }
        if (!isTeam(team) || field == other || by < -MOST_BY || by > MOST_BY) {
            throw new IllegalArgumentException("team is not 0 to 3, both are the same, or by is not -7 to 7");
        }
        if (laws.lines >= MAX_LINES) {
            throw new IllegalStateException("there are 30 lines");
        }
        return tell(MORE, team, field, other, by);
    }

    public int unlike(int team, int field, int other)
            throws IndexOutOfBoundsException, IllegalArgumentException, IllegalStateException {
        if (!isField(field) || !isField(other)) {
            throw new IndexOutOfBoundsException("no such field");
        }
        if (!isTeam(team) || field == other) {
            throw new IllegalArgumentException("team is not 0 to 3, or both are the same");
        }
        if (laws.lines >= MAX_LINES) {
            throw new IllegalStateException("there are 30 lines");
        }
        return tell(UNLIKE, team, field, other, 0);
    }

    public int preset(int team, int field, int number, int rank)
            throws IndexOutOfBoundsException, IllegalArgumentException, IllegalStateException {
        if (!isField(field)) {
            throw new IndexOutOfBoundsException("no such field");
        }
        if (!isTeam(team) || !isNumber(number) || rank < 0 || rank > MOST_RANK) {
            throw new IllegalArgumentException("team is not 0 to 3, number not 0 to 7, or rank not 0 to 9");
        }
        if (laws.lines >= MAX_LINES) {
            throw new IllegalStateException("there are 30 lines");
        }
        return tell(DEFAULT, team, field, number, rank);
    }

    public boolean approve(int line, boolean is) throws IndexOutOfBoundsException {
        if (!isLine(line)) {
            throw new IndexOutOfBoundsException("no such line");
        }
        laws.approved[line] = is;
        outlook.renew();
        return laws.counts(line);
    }

    public boolean withdraw(int line, boolean is) throws IndexOutOfBoundsException {
        if (!isLine(line)) {
            throw new IndexOutOfBoundsException("no such line");
        }
        laws.withdrawn[line] = is;
        outlook.renew();
        return laws.counts(line);
    }

    public int weight(int field, int weight) throws IndexOutOfBoundsException, IllegalArgumentException {
        if (!isField(field)) {
            throw new IndexOutOfBoundsException("no such field");
        }
        if (weight < 0 || weight > MOST_WEIGHT) {
            throw new IllegalArgumentException("weight is not 0 to 9");
        }
        int before = laws.weight[field];
        laws.weight[field] = weight;
        outlook.renew();
        return before;
    }

    // ---- commits and machines

    public int commit() throws IllegalStateException {
        if (outlook.all.isContradiction || fleet.commits >= MAX_COMMITS) {
            throw new IllegalStateException("there is a contradiction, or there are 12 commits");
        }
        return fleet.keep(outlook.is);
    }

    public int wave(int commit, int machines) throws IndexOutOfBoundsException, IllegalArgumentException {
        if (!isCommit(commit)) {
            throw new IndexOutOfBoundsException("no such commit");
        }
        if (machines < 0 || machines > ALL_MACHINES) {
            throw new IllegalArgumentException("machines is not 0 to 63");
        }
        int changed = 0;
        for (int machine = 0; machine < MACHINES; machine++) {
            if (contains(machines, machine) && fleet.bring(machine, commit)) {
                changed++;
            }
        }
        return changed;
    }

    public int patch(int machine, int field, int number)
            throws IndexOutOfBoundsException, IllegalArgumentException {
        if (!isMachine(machine) || !isField(field)) {
            throw new IndexOutOfBoundsException("no such machine or field");
        }
        if (!isNumber(number)) {
            throw new IllegalArgumentException("number is not 0 to 7");
        }
        int before = fleet.had[machine][field];
        fleet.had[machine][field] = number;
        return before;
    }

    public int absorb(int machine, int field) throws IndexOutOfBoundsException, IllegalStateException {
        if (!isMachine(machine) || !isField(field)) {
            throw new IndexOutOfBoundsException("no such machine or field");
        }
        int number = fleet.had[machine][field];
        if (!fleet.drifts(machine, field) || !isNumber(number) || laws.lines >= MAX_LINES) {
            throw new IllegalStateException("that does not drift there, or there are 30 lines");
        }
        return tell(ONE_OF, laws.team[field], field, 1 << number, 0);
    }

    public int knock() {
        refused++;
        return refused;
    }

    // ---- what is asked

    public int ofField(int field, int what) throws IndexOutOfBoundsException, IllegalArgumentException {
        if (!isField(field)) {
            throw new IndexOutOfBoundsException("no such field");
        }
        switch (what) {
            case 0: return laws.team[field];
            case 1: return outlook.all.may[field];
            case 2: return Integer.bitCount(outlook.all.may[field]);
            case 3: return outlook.is[field];
            case 4: return laws.weight[field];
            case 5: return outlook.chooser.best[field];
            case 6: return fleet.find(field);
            default: throw new IllegalArgumentException("what is not 0 to 6");
        }
    }

    public int ofLine(int line, int what) throws IndexOutOfBoundsException, IllegalArgumentException {
        if (!isLine(line)) {
            throw new IndexOutOfBoundsException("no such line");
        }
        switch (what) {
            case 0: return laws.kind[line];
            case 1: return laws.by[line];
            case 2: return laws.about[line];
            case 3: return laws.said[line];
            case 4: return laws.besides[line];
            case 5: return laws.counts(line) ? 1 : 0;
            case 6: return contains(outlook.reasonOf(NONE), line) ? 1 : 0;
            default: throw new IllegalArgumentException("what is not 0 to 6");
        }
    }

    public int ofMachine(int machine, int what) throws IndexOutOfBoundsException, IllegalArgumentException {
        if (!isMachine(machine)) {
            throw new IndexOutOfBoundsException("machine is not 0 to 5");
        }
        switch (what) {
            case 0: return fleet.commitOf[machine];
            case 1: return Integer.bitCount(fleet.drifting(machine));
            case 2: return fleet.drifting(machine);
            default: throw new IllegalArgumentException("what is not 0 to 2");
        }
    }

    public int has(int machine, int field) throws IndexOutOfBoundsException {
        if (!isMachine(machine) || !isField(field)) {
            throw new IndexOutOfBoundsException("no such machine or field");
        }
        return fleet.had[machine][field];
    }

    public int ofCommit(int commit, int field) throws IndexOutOfBoundsException {
        if (!isCommit(commit) || !isField(field)) {
            throw new IndexOutOfBoundsException("no such commit or field");
        }
        return fleet.kept[commit][field];
    }

    public int house(int what) throws IllegalArgumentException {
        switch (what) {
            case 0: return laws.fields;
            case 1: return laws.lines;
            case 2: return laws.countingLines();
            case 3: return outlook.all.isContradiction ? 1 : 0;
            case 4: return outlook.settledFields();
            case 5: return fleet.commits;
            case 6: return fleet.driftingMachines();
            case 7: return outlook.chooser.bestCost;
            case 8: return refused;
            default: throw new IllegalArgumentException("what is not 0 to 8");
        }
    }

    public String value(int field) throws IndexOutOfBoundsException {
        if (!isField(field)) {
            throw new IndexOutOfBoundsException("no such field");
        }
        StringBuilder text = new StringBuilder();
        if (outlook.all.isContradiction) {
            text.append('!');
        }
        for (int number = 0; number < NUMBERS; number++) {
            if (contains(outlook.all.may[field], number)) {
                text.append(number);
            }
        }
        if (outlook.is[field] != NONE) {
            text.append('=').append(outlook.is[field]);
        }
        return text.toString();
    }

    public int reason(int field) throws IndexOutOfBoundsException {
        if (field != NONE && !isField(field)) {
            throw new IndexOutOfBoundsException("no such field");
        }
        return outlook.reasonOf(field);
    }

    // ---- what would be (nothing is changed)

    public int met(int lines, int field) throws IndexOutOfBoundsException, IllegalArgumentException {
        if (!isField(field)) {
            throw new IndexOutOfBoundsException("no such field");
        }
        if (lines < 0 || lines >> laws.lines != 0) {
            throw new IllegalArgumentException("lines is no set of lines that there are");
        }
        outlook.trial.begin(lines);
        return outlook.trial.may[field];
    }

    public int choices(int field, int number) throws IndexOutOfBoundsException, IllegalArgumentException {
        if (!isField(field)) {
            throw new IndexOutOfBoundsException("no such field");
        }
        if (!isNumber(number)) {
            throw new IllegalArgumentException("number is not 0 to 7");
        }
        return outlook.chooser.count(outlook.all, field, number);
    }

    public boolean isNarrower(int one, int other) throws IndexOutOfBoundsException {
        if (!isField(one) || !isField(other)) {
            throw new IndexOutOfBoundsException("no such field");
        }
        return (outlook.all.may[one] & ~outlook.all.may[other]) == 0;
    }

    public boolean isSound() {
        for (int field = 0; field < laws.fields; field++) {
            int may = outlook.all.may[field];
            int is = outlook.is[field];
            int best = outlook.chooser.best[field];
            if (is != NONE && !contains(may, is) || best != NONE && !contains(may, best)) {
                return false;
            }
        }
        for (int line = 0; line < laws.lines; line++) {
            if (laws.withdrawn[line] && laws.counts(line)) {
                return false;
            }
        }
        for (int machine = 0; machine < MACHINES; machine++) {
            if (fleet.commitOf[machine] == NONE && fleet.drifting(machine) != 0) {
                return false;
            }
        }
        if (!outlook.all.isContradiction) {
            return true;
        }
        outlook.trial.begin(outlook.reasonOf(NONE));
        return outlook.trial.isContradiction;
    }

    public long digest() {
        long sum = 7703;
        for (int what = 0; what <= 8; what++) {
            sum = sum * 31 + house(what);
        }
        for (int field = 0; field < laws.fields; field++) {
            for (int what = 0; what <= 6; what++) {
                sum = sum * 31 + ofField(field, what);
            }
            sum = sum * 31 + reason(field);
        }
        sum = sum * 31 + reason(NONE);
        for (int line = 0; line < laws.lines; line++) {
            sum = sum * 31 + ofLine(line, 5);
        }
        sum = sumOfCommits(sumOfMachines(sum));
        return sum * 31 + (isSound() ? 1 : 0);
    }

    private long sumOfMachines(long before) {
        long sum = before;
        for (int machine = 0; machine < MACHINES; machine++) {
            for (int what = 0; what <= 2; what++) {
                sum = sum * 31 + ofMachine(machine, what);
            }
            for (int field = 0; field < laws.fields; field++) {
                sum = sum * 31 + has(machine, field);
            }
        }
        return sum;
    }

    private long sumOfCommits(long before) {
        long sum = before;
        for (int commit = 0; commit < fleet.commits; commit++) {
            for (int field = 0; field < laws.fields; field++) {
                sum = sum * 31 + ofCommit(commit, field);
            }
        }
        return sum;
    }

    private int tell(int kind, int team, int field, int said, int besides) {
        int told = laws.makeLine(kind, team, field, said, besides);
        outlook.renew();
        return told;
    }

    private boolean isField(int field) {
        return field >= 0 && field < laws.fields;
    }

    private boolean isLine(int line) {
        return line >= 0 && line < laws.lines;
    }

    private boolean isCommit(int commit) {
        return commit >= 0 && commit < fleet.commits;
    }

    private static boolean isMachine(int machine) {
        return machine >= 0 && machine < MACHINES;
    }

    private static boolean isTeam(int team) {
        return team >= 0 && team < TEAMS;
    }

    private static boolean isNumber(int number) {
        return number >= 0 && number < NUMBERS;
    }

    private static boolean contains(int set, int element) {
        return (set >> element & 1) != 0;
    }

    /** What was told, and nothing that follows from it: so nothing here can be out of date. */
    private static final class Laws {
        final int[] team = new int[MAX_FIELDS];
        final int[] weight = new int[MAX_FIELDS];
        final int[] kind = new int[MAX_LINES];
        final int[] by = new int[MAX_LINES];
        final int[] about = new int[MAX_LINES];
        /** The set, the number, or the other field. */
        final int[] said = new int[MAX_LINES];
        /** The number of MORE, the rank of DEFAULT, 0 of all others. */
        final int[] besides = new int[MAX_LINES];
        final boolean[] approved = new boolean[MAX_LINES];
        final boolean[] withdrawn = new boolean[MAX_LINES];
        int fields;
        int lines;

        int makeField(int ofTeam) {
            if (fields >= MAX_FIELDS) {
                return NONE;
            }
            team[fields] = ofTeam;
            weight[fields] = 1;
            fields++;
            return fields - 1;
        }

        int makeLine(int ofKind, int byTeam, int field, int what, int more) {
            if (lines >= MAX_LINES) {
                return NONE;
            }
            kind[lines] = ofKind;
            by[lines] = byTeam;
            about[lines] = field;
            said[lines] = what;
            besides[lines] = more;
            lines++;
            return lines - 1;
        }

        boolean counts(int line) {
            return !withdrawn[line] && (approved[line] || by[line] == team[about[line]]);
        }

        int countingLines() {
            int many = 0;
            for (int line = 0; line < lines; line++) {
                if (counts(line)) {
                    many++;
                }
            }
            return many;
        }

        /** Without defaults, as these take nothing away when lines meet. */
        int strictLines() {
            int set = 0;
            for (int line = 0; line < lines; line++) {
                if (kind[line] != DEFAULT && counts(line)) {
                    set |= 1 << line;
                }
            }
            return set;
        }

        /** A set of numbers is enough: a second default of the same number and rank changes nothing. */
        int defaultsOf(int field, int rank) {
            int set = 0;
            for (int line = 0; line < lines; line++) {
                if (kind[line] == DEFAULT && about[line] == field && besides[line] == rank && counts(line)) {
                    set |= 1 << said[line];
                }
            }
            return set;
        }

        boolean isOfTwo(int line) {
            return kind[line] == MORE || kind[line] == UNLIKE;
        }

        int letsAlone(int line) {
            switch (kind[line]) {
                case ONE_OF: return said[line];
                case AT_LEAST: return ALL_NUMBERS << said[line] & ALL_NUMBERS;
                case AT_MOST: return ALL_NUMBERS >> NUMBERS - 1 - said[line];
                default: return ALL_NUMBERS;
            }
        }

        /**
         * What a line of two lets the field that it is about be, if the other one is of this set;
         * or what it lets that other one be, if the field that it is about is of this set.
         * To meet and to choose both go by this, so that a line means the same to both.
         */
        int letsByOther(int line, boolean isForOther, int set) {
            if (kind[line] == UNLIKE) {
                boolean isOneAtMost = (set & set - 1) == 0;
                return isOneAtMost ? ALL_NUMBERS & ~set : ALL_NUMBERS;
            }
            int by = isForOther ? -besides[line] : besides[line];
            return (by >= 0 ? set << by : set >> -by) & ALL_NUMBERS;
        }
    }

    private static final class Meeting {
        private final Laws laws;
        final int[] may = new int[MAX_FIELDS];
        boolean isContradiction;

        Meeting(Laws laws) {
            this.laws = laws;
        }

        void begin(int lines) {
            Arrays.fill(may, ALL_NUMBERS);
            goOn(lines);
        }

        void copy(Meeting other) {
            System.arraycopy(other.may, 0, may, 0, MAX_FIELDS);
            isContradiction = other.isContradiction;
        }

        /** Begins with what is left already: what is left in the end is the same as from all numbers on. */
        void goOn(int lines) {
            boolean isLess = true;
            // Each round but the last takes away one number at least, and there are no more than these.
            for (int round = 0; isLess && round <= MAX_FIELDS * NUMBERS; round++) {
                isLess = false;
                for (int line = 0; line < laws.lines; line++) {
                    if (contains(lines, line) && takesAway(line)) {
                        isLess = true;
                    }
                }
            }
            isContradiction = false;
            for (int field = 0; field < laws.fields; field++) {
                if (may[field] == 0) {
                    isContradiction = true;
                }
            }
            if (isContradiction) {
                Arrays.fill(may, 0);
            }
        }

        private boolean takesAway(int line) {
            int field = laws.about[line];
            int before = may[field];
            if (!laws.isOfTwo(line)) {
                may[field] = before & laws.letsAlone(line);
                return may[field] != before;
            }
            int other = laws.said[line];
            int otherBefore = may[other];
            may[field] = before & laws.letsByOther(line, false, otherBefore);
            may[other] = otherBefore & laws.letsByOther(line, true, may[field]);
            return may[field] != before || may[other] != otherBefore;
        }
    }

    /** What follows from the laws. */
    private static final class Outlook {
        private final Laws laws;
        final Meeting all;
        /** To try things out in: no method may count on what another one left in it. */
        final Meeting trial;
        private final Meeting settled;
        final Chooser chooser;
        final int[] is = new int[MAX_FIELDS];
        private int strict;

        Outlook(Laws laws) {
            this.laws = laws;
            all = new Meeting(laws);
            trial = new Meeting(laws);
            settled = new Meeting(laws);
            chooser = new Chooser(laws);
            Arrays.fill(is, NONE);
        }

        /** To be called by all that change the laws: what is asked is answered from what this works out. */
        void renew() {
            strict = laws.strictLines();
            all.begin(strict);
            chooser.findBest(all, strict);
            settled.copy(all);
            for (int field = 0; field < laws.fields; field++) {
                takeDefault(field);
            }
            for (int field = 0; field < laws.fields; field++) {
                is[field] = onlyNumber(settled.may[field]);
            }
        }

        private void takeDefault(int field) {
            if (Integer.bitCount(settled.may[field]) <= 1) {
                return;
            }
            for (int rank = MOST_RANK; rank >= 0; rank--) {
                int numbers = laws.defaultsOf(field, rank) & settled.may[field];
                for (int number = 0; number < NUMBERS; number++) {
                    if (contains(numbers, number)) {
                        trial.copy(settled);
                        trial.may[field] = 1 << number;
                        trial.goOn(strict);
                        if (!trial.isContradiction) {
                            settled.copy(trial);
                            return;
                        }
                    }
                }
            }
        }

        private static int onlyNumber(int set) {
            for (int number = 0; number < NUMBERS; number++) {
                if (set == 1 << number) {
                    return number;
                }
            }
            return NONE;
        }

        int settledFields() {
            int many = 0;
            for (int field = 0; field < laws.fields; field++) {
                if (is[field] != NONE) {
                    many++;
                }
            }
            return many;
        }

        int reasonOf(int field) {
            boolean isOfField = field >= 0 && field < laws.fields && !all.isContradiction;
            if (!isOfField && !all.isContradiction) {
                return 0;
            }
            int kept = strict;
            for (int line = 0; line < laws.lines; line++) {
                int without = kept & ~(1 << line);
                if (without != kept) {
                    trial.begin(without);
                    if (isOfField ? trial.may[field] == all.may[field] : trial.isContradiction) {
                        kept = without;
                    }
                }
            }
            return kept;
        }
    }

    /** Comes by smaller numbers at the first fields first: of several best ones the first that it finds is due. */
    private static final class Chooser {
        private final Laws laws;
        private final int[] from = new int[MAX_FIELDS];
        private final int[] chosen = new int[MAX_FIELDS];
        final int[] best = new int[MAX_FIELDS];
        int bestCost;
        private int lines;
        private int found;

        Chooser(Laws laws) {
            this.laws = laws;
            Arrays.fill(best, NONE);
            bestCost = NONE;
        }

        void findBest(Meeting all, int strict) {
            System.arraycopy(all.may, 0, from, 0, MAX_FIELDS);
            lines = strict;
            bestCost = NONE;
            Arrays.fill(best, NONE);
            if (laws.fields > 0) {
                chooseFrom(this, 0, 0);
            }
        }

        int count(Meeting all, int field, int number) {
            System.arraycopy(all.may, 0, from, 0, MAX_FIELDS);
            from[field] &= 1 << number;
            found = 0;
            countFrom(this, 0);
            return found;
        }

        private static void chooseFrom(Chooser it, int field, int cost) {
            if (it.bestCost != NONE && cost >= it.bestCost) {
                return;
            }
            if (field >= it.laws.fields) {
                it.bestCost = cost;
                System.arraycopy(it.chosen, 0, it.best, 0, it.laws.fields);
                return;
            }
            int fitting = it.fittingAt(field);
            for (int number = 0; number < NUMBERS; number++) {
                if (contains(fitting, number)) {
                    it.chosen[field] = number;
                    chooseFrom(it, field + 1, cost + it.laws.weight[field] * number);
                }
            }
        }

        private static void countFrom(Chooser it, int field) {
            if (field >= it.laws.fields) {
                it.found++;
                return;
            }
            int fitting = it.fittingAt(field);
            for (int number = 0; number < NUMBERS && it.found < MOST_CHOICES; number++) {
                if (contains(fitting, number)) {
                    it.chosen[field] = number;
                    countFrom(it, field + 1);
                }
            }
        }

        private int fittingAt(int field) {
            // Lines about one field alone need no look, as what a field may be holds to them already,
            // nor do lines with a field behind it: these are looked at when that one is chosen.
            int fitting = from[field];
            for (int line = 0; line < laws.lines; line++) {
                if (contains(lines, line) && laws.isOfTwo(line)) {
                    int about = laws.about[line];
                    int other = laws.said[line];
                    if (about == field && other < field) {
                        fitting &= laws.letsByOther(line, false, 1 << chosen[other]);
                    } else if (other == field && about < field) {
                        fitting &= laws.letsByOther(line, true, 1 << chosen[about]);
                    }
                }
            }
            return fitting;
        }
    }

    /** The commits, and the machines that get them. */
    private static final class Fleet {
        final int[][] kept = new int[MAX_COMMITS][MAX_FIELDS];
        final int[][] had = new int[MACHINES][MAX_FIELDS];
        final int[] commitOf = new int[MACHINES];
        int commits;

        Fleet() {
            for (int machine = 0; machine < MACHINES; machine++) {
                Arrays.fill(had[machine], NONE);
            }
            Arrays.fill(commitOf, NONE);
        }

        /** A field that there is not yet has to be NONE in what is kept: it stands in the commit like the others. */
        int keep(int[] is) {
            if (commits >= MAX_COMMITS) {
                return NONE;
            }
            System.arraycopy(is, 0, kept[commits], 0, MAX_FIELDS);
            commits++;
            return commits - 1;
        }

        /** Answers whether the machine had another commit, or a field drifted on it. */
        boolean bring(int machine, int commit) {
            boolean isNews = commitOf[machine] != commit || drifting(machine) != 0;
            commitOf[machine] = commit;
            System.arraycopy(kept[commit], 0, had[machine], 0, MAX_FIELDS);
            return isNews;
        }

        boolean drifts(int machine, int field) {
            int commit = commitOf[machine];
            return commit >= 0 && commit < commits && had[machine][field] != kept[commit][field];
        }

        int drifting(int machine) {
            int set = 0;
            for (int field = 0; field < MAX_FIELDS; field++) {
                if (drifts(machine, field)) {
                    set |= 1 << field;
                }
            }
            return set;
        }

        int driftingMachines() {
            int many = 0;
            for (int machine = 0; machine < MACHINES; machine++) {
                if (drifting(machine) != 0) {
                    many++;
                }
            }
            return many;
        }

        int find(int field) {
            for (int commit = 1; commit < commits; commit++) {
                if (kept[commit][field] != kept[commit - 1][field]) {
                    return commit;
                }
            }
            return NONE;
        }
    }
}
