/** Section 4, and promise 25: each sentence that names a boundary case of weights and choices. */
public final class ChoiceEdgesTest {
    private static final Check c = new Check("ChoiceEdgesTest");

    public static void main(String[] args) {
        weights();
        weightsOfAll();
        withoutFields();
        withoutAChoice();
        leastCost();
        smallerNumberAtTheFirstField();
        ofWeightZero();
        bothFieldsOfALine();
        linesThatCount();
        ofOneNumber();
        upTo500();
        c.end();
    }

    private static Meetjoin withFields(int fields) {
        Meetjoin x = new Meetjoin();
        for (int field = 0; field < fields; field++) {
            x.field(0);
        }
        return x;
    }

    /** The cost, and the numbers of the best choice. */
    private static String best(Meetjoin x) {
        StringBuilder all = new StringBuilder().append(x.house(7)).append(':');
        for (int field = 0; field < x.house(0); field++) {
            all.append(' ').append(x.ofField(field, 5));
        }
        return all.toString();
    }

    private static void weights() {
        c.at("Each FIELD has a WEIGHT (0 to 9; 1 at first)");
        Meetjoin x = withFields(5);
        for (int field = 0; field < 5; field++) {
            c.due("at first", x.ofField(field, 4), 1);
        }
        int before = 1;
        for (int weight = 9; weight >= 0; weight--) {
            c.due("that before", x.weight(4, weight), before);
            c.due("from now on", x.ofField(4, 4), weight);
            before = weight;
        }
        c.due("the same again", x.weight(4, 0), 0);
        c.due("the others", x.ofField(0, 4) + x.ofField(3, 4), 2);
        Meetjoin y = withFields(1);
        y.bound(0, 0, 7, false);
        for (int weight = 0; weight <= 9; weight++) {
            y.weight(0, weight);
            c.due("cost by weight " + weight, y.house(7), 7 * weight);
        }
    }

    private static void weightsOfAll() {
        c.at("Its COST is the sum of WEIGHT * number");
        Meetjoin x = withFields(5);
        c.due("the least of all", best(x), "0: 0 0 0 0 0");
        for (int field = 0; field < 5; field++) {
            x.bound(0, field, 7, false);
        }
        c.due("by weights of at first", best(x), "35: 7 7 7 7 7");
        for (int field = 0; field < 5; field++) {
            x.weight(field, 9);
        }
        c.due("the greatest of all", best(x), "315: 7 7 7 7 7");
        for (int field = 0; field < 5; field++) {
            x.weight(field, 0);
        }
        c.due("by weights of 0", best(x), "0: 7 7 7 7 7");
    }

    private static void withoutFields() {
        c.at("(without FIELDS there is none)");
        Meetjoin x = new Meetjoin();
        c.due("cost", x.house(7), -1);
        x.commit();
        c.due("cost", x.house(7), -1);
        x.field(0);
        c.due("cost with a field", best(x), "0: 0");
    }

    private static void withoutAChoice() {
        c.at("(NONE without one)");
        Meetjoin x = withFields(4);
        for (int field = 0; field < 3; field++) {
            x.oneOf(0, field, 129);
            x.unlike(0, field, (field + 1) % 3);
        }
        c.due("though there is no contradiction", best(x) + " " + x.house(3), "-1: -1 -1 -1 -1 0");
        for (int number = 0; number <= 7; number++) {
            c.due("choices", x.choices(0, number) + x.choices(3, number), 0);
        }
        c.due("sound", x.isSound(), true);
        x.withdraw(5, true);
        c.due("with one line less", best(x), "7: 0 7 0 0");
        x.oneOf(0, 3, 1);
        x.oneOf(0, 3, 2);
        c.due("with a contradiction", best(x), "-1: -1 -1 -1 -1");
        c.due("choices", x.choices(0, 0), 0);
    }

    private static void leastCost() {
        c.at("The BEST CHOICE has the least COST");
        Meetjoin x = withFields(2);
        x.oneOf(0, 0, 0b00000101);
        x.oneOf(0, 1, 0b00011001);
        x.unlike(0, 0, 1);
        c.due("the other field is dearer", best(x), "2: 2 0");
        x.weight(0, 2);
        c.due("2 * 2 against 3", best(x), "3: 0 3");
        x.weight(1, 2);
        c.due("2 * 2 against 3 * 2", best(x), "4: 2 0");
        x.weight(0, 3);
        c.due("3 * 2 against 2 * 3: the same, the smaller at the first", best(x), "6: 0 3");
        x.weight(0, 9);
        c.due("9 * 2 against 2 * 3", best(x), "6: 0 3");
        x.weight(1, 9);
        c.due("9 * 2 against 9 * 3", best(x), "18: 2 0");
        Meetjoin y = withFields(5);
        for (int field = 0; field < 4; field++) {
            y.more(0, field + 1, field, field % 2 == 0 ? 1 : -1);
        }
        y.oneOf(0, 2, 0b10100100);
        y.weight(2, 9);
        c.due("along a chain", best(y), "28: 2 3 2 3 2");
    }

    private static void smallerNumberAtTheFirstField() {
        c.at("of several that which has the smaller number at the first FIELD in which they differ");
        Meetjoin x = withFields(3);
        x.unlike(0, 1, 2);
        c.due("the first in which they differ is the second", best(x), "1: 0 0 1");
        x.unlike(0, 0, 1);
        c.due("one at the second", best(x), "1: 0 1 0");
        x.unlike(0, 0, 2);
        c.due("0, 1 and 2 in order", best(x), "3: 0 1 2");
        x.weight(0, 0);
        c.due("nothing for the first, so it is 2", best(x), "1: 2 0 1");
        x.bound(0, 0, 1, true);
        c.due("1 of weight 0", best(x), "2: 1 0 2");
        Meetjoin y = withFields(2);
        y.weight(0, 2);
        y.oneOf(0, 0, 0b00010001);
        y.oneOf(0, 1, 0b10000001 | 0b00000010);
        y.unlike(0, 0, 1);
        c.due("4 * 2 against 1", best(y), "1: 0 1");
        y.weight(1, 8);
        c.due("4 * 2 against 8: the same, though the second is greater", best(y), "8: 0 1");
        y.weight(1, 9);
        c.due("4 * 2 against 9", best(y), "8: 4 0");
    }

    private static void ofWeightZero() {
        c.at("a WEIGHT of 0: all numbers cost the same");
        Meetjoin x = withFields(3);
        for (int field = 0; field < 3; field++) {
            x.weight(field, 0);
        }
        x.unlike(0, 0, 1);
        x.unlike(0, 1, 2);
        c.due("the smallest at the first fields", best(x), "0: 0 1 0");
        x.bound(0, 0, 1, false);
        c.due("1, then 0, then 1", best(x), "0: 1 0 1");
    }

    private static void bothFieldsOfALine() {
        c.at("A CHOICE is a number for each FIELD by which all LINES that COUNT (but DEFAULTS) hold");
        for (int by = -7; by <= 7; by++) {
            Meetjoin x = withFields(2);
            x.more(0, 0, 1, by);
            int least = Math.max(by, 0);
            c.due("MORE about the first, by " + by, best(x), (2 * least - by) + ": " + least + " " + (least - by));
            Meetjoin y = withFields(2);
            y.more(0, 1, 0, by);
            c.due("MORE about the second, by " + by, best(y), (2 * least - by) + ": " + (least - by) + " " + least);
            int many = 0;
            for (int number = 0; number <= 7; number++) {
                many += x.choices(0, number);
            }
            c.due("choices, by " + by, many, 8 - Math.abs(by));
        }
        Meetjoin z = withFields(2);
        z.unlike(0, 1, 0);
        z.unlike(0, 0, 1);
        z.oneOf(0, 0, 0b11000000);
        z.oneOf(0, 1, 0b11000000);
        c.due("UNLIKE about both", best(z) + " " + z.choices(0, 6) + z.choices(1, 6), "13: 6 7 11");
    }

    private static void linesThatCount() {
        c.at("all LINES that COUNT (but DEFAULTS)");
        Meetjoin x = withFields(2);
        x.preset(0, 0, 5, 9);
        x.preset(0, 1, 6, 9);
        x.bound(3, 0, 7, false);
        c.due("defaults and another team's line do not bind it", best(x) + " " + x.choices(0, 0), "0: 0 0 8");
        x.approve(2, true);
        c.due("approved", best(x) + " " + x.choices(0, 0) + " " + x.choices(0, 7), "7: 7 0 0 8");
        x.withdraw(2, true);
        c.due("withdrawn", best(x) + " " + x.choices(0, 0), "0: 0 0 8");
    }

    private static void ofOneNumber() {
        c.at("promise 25: in how many CHOICES it is that number");
        Meetjoin x = withFields(3);
        x.oneOf(0, 0, 0b10000001);
        x.unlike(0, 0, 1);
        for (int number = 0; number <= 7; number++) {
            boolean isEnd = number == 0 || number == 7;
            c.due("of field 0, number " + number, x.choices(0, number), isEnd ? 56 : 0);
            c.due("of field 1, number " + number, x.choices(1, number), isEnd ? 8 : 16);
            c.due("of field 2, number " + number, x.choices(2, number), 14);
        }
    }

    /** Four fields of these sets, unlike in three pairs, and a fifth that no line is about. */
    private static Meetjoin fourUnlike(int[] sets, int[][] pairs) {
        Meetjoin x = withFields(5);
        for (int field = 0; field < 4; field++) {
            x.oneOf(0, field, sets[field]);
        }
        for (int[] pair : pairs) {
            x.unlike(0, pair[0], pair[1]);
        }
        return x;
    }

    private static void upTo500() {
        c.at("promise 25: (500 at most)");
        Meetjoin x = fourUnlike(new int[] {31, 62, 248, 252}, new int[][] {{1, 2}, {0, 3}, {0, 1}});
        Meetjoin y = withFields(5);
        y.bound(0, 0, 4, true);
        y.bound(0, 1, 4, true);
        y.bound(0, 2, 4, true);
        y.bound(0, 3, 3, true);
        Meetjoin z = fourUnlike(new int[] {254, 31, 248, 15}, new int[][] {{0, 2}, {2, 3}, {0, 1}});
        for (int number = 0; number <= 7; number++) {
            c.due("499", x.choices(4, number), 499);
            c.due("500", y.choices(4, number), 500);
            c.due("501", z.choices(4, number), 500);
        }
        c.due("of less", y.choices(0, 4) + " " + y.choices(0, 5), "500 0");
        y.oneOf(0, 4, 1);
        c.due("of 100", y.choices(0, 4), 100);
        Meetjoin free = withFields(3);
        c.due("64 of 3 fields", free.choices(2, 7), 64);
        free.field(0);
        c.due("512 of 4 fields", free.choices(3, 7), 500);
        free.field(0);
        c.due("4096 of 5 fields", free.choices(0, 0), 500);
        c.due("of the last one", free.choices(4, 7), 500);
        c.due("the best choice stays", best(free), "0: 0 0 0 0 0");
    }
}
