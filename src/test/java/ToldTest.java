/** Promises 13 to 16: lamp, taken, mind, air. */
public final class ToldTest {
    private static final int UNKNOWN = -1, OUTSIDE = -2, NONE = -6;
    private static final int[] NO_LAMPS = {-1, 10, Integer.MIN_VALUE, Integer.MAX_VALUE};

    public static void main(String[] args) {
        lamp();
        taken();
        mind();
        air();
        Check.end();
    }

    private static void lamp() {
        MeshLamps x = new MeshLamps();
        x.link(1, 0, 1);
        x.link(1, 2, 1);
        x.link(1, 3, 1);
        x.link(1, 4, 1);
        x.friend(1, 2);
        x.set(1, 2, 2);
        for (int n = 1; n <= 5; n++) {
            x.tell(0, 1, 10 + n, 2);
            x.settle();
        }
        x.replay(1, 0, 5);
        x.settle();
        // 2, 3 and 4 have forgotten the first letter as well, and speak it to 1 again.
        x.replay(1, 0, 1);
        x.settle();
        x.tell(1, 0, 9, 1);
        x.phase();
        x.give(0);
        x.phase();
        for (int n = 6; n <= 8; n++) {
            x.tell(0, 1, 10 + n, 1);
        }
        x.settle();
        x.sleep(1, 1);
        x.replay(2, 0, 2);
        x.replay(2, 0, 3);
        x.settle();
        int[] due = {15, 1, 2, 1, 5, 1, 3, 4, 6, 7, 2, 2, 4};
        for (int what = 0; what < due.length; what++) {
            Check.due("lamp(1, " + what + ")", x.lamp(1, what), due[what]);
        }
        for (int bad : NO_LAMPS) {
            Check.due("lamp: no lamp", x.lamp(bad, 0), UNKNOWN);
            Check.due("lamp: UNKNOWN before OUTSIDE", x.lamp(bad, 13), UNKNOWN);
        }
        for (int bad : new int[] {-1, 13, Integer.MIN_VALUE, Integer.MAX_VALUE}) {
            Check.due("lamp: what", x.lamp(0, bad), OUTSIDE);
        }
    }

    private static void taken() {
        MeshLamps x = new MeshLamps();
        x.link(9, 0, 1);
        x.link(9, 8, 1);
        x.tell(0, 9, 1, 1);
        x.tell(0, 8, 1, 1);
        x.tell(8, 9, 1, 1);
        x.settle();
        Check.due("taken", x.taken(9, 0), 1);
        Check.due("taken", x.taken(9, 8), 1);
        Check.due("not meant", x.taken(9, 7), 0);
        x.tell(0, 7, 2, 1);
        x.tell(0, 9, 2, 1);
        x.settle();
        Check.due("numbers between are left out", x.taken(9, 0), 4);
        Check.due("not the other way", x.taken(0, 9), 0);
        for (int bad : NO_LAMPS) {
            Check.due("taken: no lamp", x.taken(bad, 0), UNKNOWN);
            Check.due("taken: no source", x.taken(0, bad), UNKNOWN);
        }
    }

    private static void mind() {
        MeshLamps x = new MeshLamps();
        x.link(3, 1, 1);
        x.link(3, 2, 1);
        x.tell(2, 3, 1, 1);
        x.tell(1, 0, 1, 1);
        x.settle();
        x.tell(3, 0, 1, 1);
        int[] sources = {2, 1, 3};
        for (int i = 0; i < 3; i++) {
            Check.due("source " + i, x.mind(3, i, 0), sources[i]);
            Check.due("number " + i, x.mind(3, i, 1), 1);
        }
        x.replay(3, 2, 1);
        x.settle();
        Check.due("stale ones do not become the latest", x.mind(3, 0, 0), 2);
        x.tell(1, 0, 1, 1);
        x.tell(1, 0, 1, 1);
        x.settle();
        Check.due("four at most", x.lamp(3, 11), 4);
        Check.due("the oldest went", x.mind(3, 0, 0), 1);
        Check.due("the latest", x.mind(3, 3, 1), 3);
        for (int bad : new int[] {-1, 4, 8, Integer.MIN_VALUE, Integer.MAX_VALUE}) {
            Check.due("mind: none such", x.mind(3, bad, 0), NONE);
            Check.due("mind: none such", x.mind(3, bad, 1), NONE);
            Check.due("mind: OUTSIDE before NONE", x.mind(3, bad, 2), OUTSIDE);
        }
        Check.due("mind: what", x.mind(3, 0, -1), OUTSIDE);
        for (int bad : NO_LAMPS) {
            Check.due("mind: UNKNOWN before OUTSIDE", x.mind(bad, 0, 2), UNKNOWN);
            Check.due("mind: UNKNOWN before NONE", x.mind(bad, -1, 0), UNKNOWN);
        }
    }

    private static void air() {
        MeshLamps x = new MeshLamps();
        x.pass(4);
        x.tell(6, 1, 1, 3);
        x.replay(9, 6, 1);
        int[][] due = {{6, 5, 6, 1, 3}, {19, 5, 6, 1, 7}};
        for (int i = 0; i < 2; i++) {
            for (int what = 0; what <= 4; what++) {
                Check.due("air(" + i + ", " + what + ")", x.air(i, what), due[i][what]);
            }
        }
        for (int bad : new int[] {-1, 2, 64, Integer.MIN_VALUE, Integer.MAX_VALUE}) {
            for (int what = 0; what <= 4; what++) {
                Check.due("air: none such", x.air(bad, what), NONE);
            }
            Check.due("air: OUTSIDE before NONE", x.air(bad, 5), OUTSIDE);
        }
        Check.due("air: what", x.air(0, -1), OUTSIDE);
        Check.due("air: what", x.air(0, 5), OUTSIDE);
        x.pass(1);
        Check.due("what was spoken is out", x.air(0, 0), 9);
        Check.due("passed on", x.air(0, 4), 6);
        Check.due("nothing else", x.air(1, 0), NONE);
    }
}
