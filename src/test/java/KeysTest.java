/** Promises 6 to 8: phase, give, has; and what is told by which KEY. */
public final class KeysTest {
    private static final int UNKNOWN = -1, OUTSIDE = -2, STATE = -3, NO = -5;
    private static final int[] NO_LAMPS = {-1, 10, Integer.MIN_VALUE, Integer.MAX_VALUE};

    public static void main(String[] args) {
        phase();
        give();
        has();
        whoHadNextHasKey();
        keyToTell();
        knowsAsItIsWhenAsked();
        Check.end();
    }

    private static void phase() {
        MeshLamps x = new MeshLamps();
        for (int key = 0; key < 5; key++) {
            Check.due("KEY", x.count(1), key);
            Check.due("to 1", x.phase(), 1);
            Check.due("PHASE", x.count(2), 1);
            Check.due("to 2", x.phase(), 2);
            Check.due("PHASE", x.count(2), 2);
            Check.due("KEY till PHASE 2 ends", x.count(1), key);
            Check.due("to 0", x.phase(), 0);
            Check.due("PHASE", x.count(2), 0);
        }
    }

    private static void give() {
        MeshLamps x = new MeshLamps();
        Check.due("give in PHASE 0", x.give(0), STATE);
        for (int bad : NO_LAMPS) {
            Check.due("give: UNKNOWN before STATE", x.give(bad), UNKNOWN);
        }
        x.phase();
        Check.due("give", x.give(0), 1);
        Check.due("give again", x.give(0), 1);
        Check.due("give another", x.give(9), 2);
        for (int bad : NO_LAMPS) {
            Check.due("give: no lamp", x.give(bad), UNKNOWN);
        }
        x.phase();
        Check.due("give in PHASE 2", x.give(4), 3);
        x.phase();
        Check.due("give in PHASE 0 again", x.give(4), STATE);
        x.phase();
        Check.due("as PHASE 1 begins none has it", x.give(4), 1);
    }

    private static void has() {
        MeshLamps x = new MeshLamps();
        for (int bad : NO_LAMPS) {
            Check.due("has: no lamp", x.has(bad, 0), UNKNOWN);
            Check.due("has: UNKNOWN before OUTSIDE", x.has(bad, 2), UNKNOWN);
        }
        Check.due("has: what", x.has(0, 2), OUTSIDE);
        Check.due("has: what", x.has(0, -1), OUTSIDE);
        x.phase();
        x.give(3);
        Check.due("has NEXT", x.has(3, 1), 1);
        Check.due("has KEY still", x.has(3, 0), 1);
        Check.due("has no NEXT", x.has(4, 1), 0);
        Check.due("has KEY", x.has(4, 0), 1);
    }

    private static void whoHadNextHasKey() {
        MeshLamps x = new MeshLamps();
        x.phase();
        x.give(3);
        x.phase();
        x.give(7);
        x.phase();
        for (int lamp = 0; lamp < 10; lamp++) {
            Check.due("has KEY " + lamp, x.has(lamp, 0), lamp == 3 || lamp == 7 ? 1 : 0);
            Check.due("has NEXT " + lamp, x.has(lamp, 1), 0);
        }
        Check.due("no KEY, no letter", x.tell(0, 1, 1, 1), NO);
        Check.due("with KEY", x.tell(3, 1, 1, 1), 1);
        x.phase();
        x.give(0);
        Check.due("NEXT alone tells nothing in PHASE 1", x.tell(0, 1, 1, 1), NO);
        x.phase();
        Check.due("NEXT alone tells in PHASE 2", x.tell(0, 1, 1, 1), 1);
        x.phase();
        Check.due("who did not get it again has none", x.tell(3, 1, 1, 1), NO);
    }

    /** 0 speaks to 1, which HAS only KEY, and to 2, which HAS only the NEXT one; 3 HAS neither. */
    private static MeshLamps keys() {
        MeshLamps x = new MeshLamps();
        x.phase();
        x.give(0);
        x.give(1);
        x.phase();
        x.phase();
        x.phase();
        x.give(2);
        for (int lamp = 1; lamp <= 3; lamp++) {
            x.link(0, lamp, 1);
        }
        return x;
    }

    private static void keyToTell() {
        MeshLamps x = keys();
        x.give(0);
        x.tell(0, 9, 1, 1);
        x.settle();
        Check.due("by KEY in PHASE 1", x.lamp(1, 8), 1);
        Check.due("strange to NEXT alone", x.lamp(2, 6), 1);
        x.phase();
        x.tell(0, 9, 1, 1);
        x.settle();
        Check.due("by NEXT in PHASE 2: strange to KEY alone", x.lamp(1, 6), 1);
        Check.due("new to NEXT alone", x.lamp(2, 8), 1);
        Check.due("both strange to one that has neither", x.lamp(3, 6), 2);
        MeshLamps y = keys();
        y.phase();
        y.tell(0, 9, 1, 1);
        y.settle();
        Check.due("by KEY in PHASE 2, without NEXT", y.lamp(1, 8), 1);
        Check.due("strange to NEXT alone", y.lamp(2, 6), 1);
    }

    private static void knowsAsItIsWhenAsked() {
        MeshLamps x = keys();
        x.give(0);
        x.phase();
        x.tell(0, 1, 50, 1);
        x.give(1);
        x.settle();
        Check.due("given after it was told", x.lamp(1, 0), 50);
        x.tell(0, 1, 60, 1);
        x.phase();
        x.settle();
        Check.due("the NEXT one is KEY then", x.lamp(1, 0), 60);
        x.tell(0, 1, 70, 1);
        x.phase();
        x.phase();
        x.phase();
        x.settle();
        Check.due("told by a KEY that is gone", x.lamp(1, 0), 60);
        Check.due("strange", x.lamp(1, 6), 1);
        Check.due("strange letters are not in mind", x.lamp(1, 11), 2);
    }
}
