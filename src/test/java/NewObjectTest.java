/** Promise 1: a new object. */
public final class NewObjectTest {
    public static void main(String[] args) {
        Check c = new Check("NewObjectTest");
        Meetjoin x = new Meetjoin();
        int[] due = {0, 0, 0, 0, 0, 0, 0, -1, 0};
        for (int what = 0; what <= 8; what++) {
            c.due("house " + what, x.house(what), due[what]);
        }
        c.due("reason of none", x.reason(-1), 0);
        for (int machine = 0; machine < 6; machine++) {
            c.due("commit of machine", x.ofMachine(machine, 0), -1);
            c.due("drifts on machine", x.ofMachine(machine, 1), 0);
            c.due("drift set of machine", x.ofMachine(machine, 2), 0);
        }
        c.due("sound", x.isSound(), true);
        c.due("digest", x.digest(), 1010136648260447179L);
        x.field(0);
        c.due("another object is another house", new Meetjoin().house(0), 0);
        c.end();
    }
}
