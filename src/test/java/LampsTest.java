/** Promises 1 to 5: a new object, link, set, friend, sleep. */
public final class LampsTest {
    private static final int UNKNOWN = -1, OUTSIDE = -2, STATE = -3, NO = -5, NONE = -6;
    private static final int[] NO_LAMPS = {-1, 10, -6, Integer.MIN_VALUE, Integer.MAX_VALUE};

    public static void main(String[] args) {
        newObject();
        link();
        linkRefused();
        set();
        setRefused();
        mindShrinks();
        friend();
        sleep();
        sleepRefused();
        wakeTakesInOrder();
        wakeRefusesOldAndStrange();
        wakeAsksOnlyForTheKey();
        Check.end();
    }

    private static void newObject() {
        MeshLamps x = new MeshLamps();
        for (int what = 0; what <= 9; what++) {
            Check.due("new: count(" + what + ")", x.count(what), 0);
        }
        for (int lamp = 0; lamp < 10; lamp++) {
            for (int what = 0; what <= 12; what++) {
                Check.due("new: lamp(" + lamp + ", " + what + ")", x.lamp(lamp, what), what == 2 ? NONE : 0);
            }
            for (int source = 0; source < 10; source++) {
                Check.due("new: taken", x.taken(lamp, source), 0);
            }
            Check.due("new: has KEY", x.has(lamp, 0), 1);
            Check.due("new: has NEXT", x.has(lamp, 1), 0);
            Check.due("new: mind", x.mind(lamp, 0, 0), NONE);
            Check.due("new: WAIT", x.set(lamp, 0, 1), 1);
            Check.due("new: PASSES", x.set(lamp, 1, 1), 1);
            Check.due("new: MIND", x.set(lamp, 2, 4), 4);
            Check.due("new: GROUPS", x.set(lamp, 3, 0), 0);
        }
        Check.due("new: air", x.air(0, 0), NONE);
        Check.due("new: restore(0)", x.restore(0), STATE);
        Check.due("new: restore(1)", x.restore(1), STATE);
    }

    private static void link() {
        MeshLamps x = new MeshLamps();
        for (int other = 1; other < 10; other++) {
            Check.due("link(0, other, 1)", x.link(0, other, 1), other);
            Check.due("linked both ways", x.lamp(other, 12), 1);
        }
        Check.due("link again", x.link(0, 5, 1), 9);
        Check.due("link from the other side", x.link(5, 0, 1), 1);
        Check.due("unlink from the other side", x.link(5, 0, 0), 0);
        Check.due("unlinked on this side", x.lamp(0, 12), 8);
        Check.due("unlink what is not linked", x.link(0, 5, 0), 8);
        x.tell(0, 5, 7, 1);
        x.settle();
        Check.due("one that is not linked hears nothing", x.lamp(5, 8), 0);
        Check.due("one that is linked does", x.lamp(6, 8), 1);
    }

    private static void linkRefused() {
        MeshLamps x = new MeshLamps();
        for (int bad : NO_LAMPS) {
            Check.due("link: no first lamp", x.link(bad, 1, 1), UNKNOWN);
            Check.due("link: no other lamp", x.link(1, bad, 1), UNKNOWN);
            Check.due("link: UNKNOWN before OUTSIDE", x.link(bad, bad, 7), UNKNOWN);
        }
        Check.due("link: one", x.link(3, 3, 1), OUTSIDE);
        Check.due("link: one, off", x.link(3, 3, 0), OUTSIDE);
        Check.due("link: on 2", x.link(3, 4, 2), OUTSIDE);
        Check.due("link: on -1", x.link(3, 4, -1), OUTSIDE);
        Check.due("link: nothing changed", x.lamp(3, 12) + x.lamp(4, 12) + x.lamp(1, 12), 0);
    }

    private static void set() {
        int[] least = {1, 0, 0, 0};
        int[] most = {9, 1, 8, 15};
        int[] first = {1, 1, 4, 0};
        MeshLamps x = new MeshLamps();
        for (int what = 0; what < 4; what++) {
            int was = first[what];
            for (int n = least[what]; n <= most[what]; n++) {
                Check.due("set(9, " + what + ", " + n + ")", x.set(9, what, n), was);
                was = n;
            }
            Check.due("set below", x.set(9, what, least[what] - 1), OUTSIDE);
            Check.due("set above", x.set(9, what, most[what] + 1), OUTSIDE);
            Check.due("refused, it stays", x.set(9, what, least[what]), most[what]);
            Check.due("another lamp has its own", x.set(8, what, first[what]), first[what]);
        }
    }

    private static void setRefused() {
        MeshLamps x = new MeshLamps();
        for (int bad : NO_LAMPS) {
            Check.due("set: no lamp", x.set(bad, 0, 1), UNKNOWN);
            Check.due("set: UNKNOWN before OUTSIDE", x.set(bad, 9, 99), UNKNOWN);
        }
        for (int bad : new int[] {-1, 4, Integer.MIN_VALUE, Integer.MAX_VALUE}) {
            Check.due("set: what", x.set(0, bad, 1), OUTSIDE);
        }
        for (int what = 0; what < 4; what++) {
            Check.due("set: n", x.set(0, what, Integer.MIN_VALUE), OUTSIDE);
            Check.due("set: n", x.set(0, what, Integer.MAX_VALUE), OUTSIDE);
        }
    }

    private static void mindShrinks() {
        MeshLamps x = new MeshLamps();
        x.set(0, 2, 8);
        for (int n = 1; n <= 9; n++) {
            x.tell(0, 1, n, 1);
        }
        Check.due("a full mind", x.lamp(0, 11), 8);
        Check.due("the oldest went", x.mind(0, 0, 1), 2);
        Check.due("set MIND 3", x.set(0, 2, 3), 8);
        Check.due("three stay", x.lamp(0, 11), 3);
        Check.due("the oldest of these", x.mind(0, 0, 1), 7);
        Check.due("the latest", x.mind(0, 2, 1), 9);
        Check.due("set MIND 8", x.set(0, 2, 8), 3);
        Check.due("what went stays away", x.lamp(0, 11), 3);
        Check.due("set MIND 0", x.set(0, 2, 0), 8);
        Check.due("none stays", x.lamp(0, 11), 0);
    }

    private static void friend() {
        MeshLamps x = new MeshLamps();
        Check.due("friend(4, 5)", x.friend(4, 5), NONE);
        Check.due("lamp(4, 2)", x.lamp(4, 2), 5);
        Check.due("not the other way", x.lamp(5, 2), NONE);
        Check.due("friend(4, 0)", x.friend(4, 0), 5);
        Check.due("friend(4, NONE)", x.friend(4, NONE), 0);
        Check.due("no friend", x.lamp(4, 2), NONE);
        Check.due("no friend, no sleep", x.sleep(4, 1), NO);
        for (int bad : NO_LAMPS) {
            Check.due("friend: no lamp", x.friend(bad, 1), UNKNOWN);
            Check.due("friend: no lamp, nor other", x.friend(bad, bad), UNKNOWN);
            if (bad != NONE) {
                Check.due("friend: no such other", x.friend(1, bad), OUTSIDE);
            }
        }
        Check.due("friend: one", x.friend(1, 1), OUTSIDE);
        x.friend(4, 5);
        x.sleep(4, 1);
        Check.due("friend: sleeps", x.friend(4, 6), STATE);
        Check.due("friend: sleeps, none", x.friend(4, NONE), STATE);
        Check.due("friend: OUTSIDE before STATE", x.friend(4, 4), OUTSIDE);
        Check.due("friend: it stays", x.lamp(4, 2), 5);
        x.sleep(4, 0);
        Check.due("friend: awake again", x.friend(4, 6), 5);
    }

    private static void sleep() {
        MeshLamps x = new MeshLamps();
        x.friend(1, 2);
        Check.due("sleep", x.sleep(1, 1), 0);
        Check.due("sleep again", x.sleep(1, 1), 0);
        Check.due("sleeps", x.lamp(1, 1), 1);
        Check.due("one sleeps", x.count(4), 1);
        Check.due("wake", x.sleep(1, 0), 0);
        Check.due("wake again", x.sleep(1, 0), 0);
        Check.due("does not sleep", x.lamp(1, 1), 0);
        Check.due("none sleeps", x.count(4), 0);
    }

    private static void sleepRefused() {
        MeshLamps x = new MeshLamps();
        for (int bad : NO_LAMPS) {
            Check.due("sleep: no lamp", x.sleep(bad, 1), UNKNOWN);
            Check.due("sleep: UNKNOWN before OUTSIDE", x.sleep(bad, 2), UNKNOWN);
        }
        Check.due("sleep: on", x.sleep(0, 2), OUTSIDE);
        Check.due("sleep: on", x.sleep(0, -1), OUTSIDE);
        Check.due("sleep: no friend", x.sleep(0, 1), NO);
        Check.due("wake needs none", x.sleep(0, 0), 0);
        Check.due("sleep: nobody does", x.count(4), 0);
    }

    /** Lamp 1 sleeps with friend 2; lamps 0 and 3 are heard by 2. */
    private static MeshLamps sleeper() {
        MeshLamps x = new MeshLamps();
        x.link(0, 2, 1);
        x.link(3, 2, 1);
        x.friend(1, 2);
        x.sleep(1, 1);
        return x;
    }

    private static void wakeTakesInOrder() {
        MeshLamps x = sleeper();
        for (int n = 1; n <= 4; n++) {
            x.tell(0, 1, 10 + n, 1);
        }
        x.tell(3, 1, 77, 1);
        x.tell(3, 2, 78, 1);
        x.settle();
        Check.due("three are kept", x.lamp(1, 10), 3);
        Check.due("the friend took its own alone", x.lamp(2, 0), 78);
        Check.due("wake takes three", x.sleep(1, 0), 3);
        Check.due("the latest one is the light", x.lamp(1, 0), 77);
        Check.due("taken of 0", x.taken(1, 0), 4);
        Check.due("taken of 3", x.taken(1, 3), 1);
        Check.due("took", x.lamp(1, 4), 3);
        Check.due("none is kept", x.lamp(1, 10), 0);
        Check.due("not in mind", x.lamp(1, 11), 0);
        Check.due("not new", x.lamp(1, 8), 0);
        x.sleep(1, 1);
        Check.due("nothing twice", x.sleep(1, 0), 0);
        Check.due("nothing refused", x.lamp(1, 5), 0);
    }

    private static void wakeRefusesOldAndStrange() {
        MeshLamps x = sleeper();
        x.set(2, 2, 0);
        x.set(3, 1, 0);
        x.tell(0, 1, 5, 1);
        x.settle();
        x.replay(2, 0, 1);
        x.settle();
        Check.due("kept twice, as the friend has no mind", x.lamp(1, 10), 2);
        Check.due("one of them is taken", x.sleep(1, 0), 1);
        Check.due("one is old", x.lamp(1, 5), 1);
        x.sleep(1, 1);
        x.tell(0, 1, 6, 1);
        x.settle();
        x.phase();
        x.give(2);
        x.give(0);
        x.phase();
        x.tell(0, 1, 7, 1);
        x.settle();
        Check.due("kept, whatever the sleeper knows", x.lamp(1, 10), 2);
        Check.due("the one by KEY is taken", x.sleep(1, 0), 1);
        Check.due("the one by NEXT is strange", x.lamp(1, 6), 1);
        Check.due("its light", x.lamp(1, 0), 6);
        Check.due("none is kept any more", x.lamp(1, 10), 0);
    }

    private static void wakeAsksOnlyForTheKey() {
        MeshLamps x = sleeper();
        x.set(1, 3, 4);
        x.tell(0, 12, 9, 1);
        x.settle();
        x.set(1, 3, 0);
        Check.due("kept by a group that it has no more", x.lamp(1, 10), 1);
        Check.due("and taken", x.sleep(1, 0), 1);
        Check.due("light", x.lamp(1, 0), 9);
    }
}
