/** Each sentence of Terms 1 and of promises 1 to 5 that names a boundary, with a test of its own. */
public final class LampEdgesTest {
    private static final int UNKNOWN = -1, OUTSIDE = -2, STATE = -3, NO = -5, NONE = -6;

    public static void main(String[] args) throws IllegalAccessException {
        Check.sentences(LampEdgesTest.class);
        Check.end();
    }

    // ---- terms 1: what a lamp has

    @Says(in = "Terms 1", text = "LAMPS are 0 to 9.")
    private static void t1LampsAreTen() {
        MeshLamps x = new MeshLamps();
        x.phase();
        Check.due("link(0, 9, 1)", x.link(0, 9, 1), 1);
        for (int lamp = 0; lamp < 10; lamp++) {
            Check.due("set", x.set(lamp, 0, 1), 1);
            Check.due("friend", x.friend(lamp, 9 - lamp), NONE);
            Check.due("sleep", x.sleep(lamp, 0), 0);
            Check.due("give", x.give(lamp), lamp + 1);
            Check.due("has", x.has(lamp, 0), 1);
            Check.due("tell", x.tell(lamp, lamp, 0, 1), 1);
            Check.due("replay", x.replay(lamp, lamp, 1), 2 * lamp + 2);
            Check.due("lamp", x.lamp(lamp, 0), 0);
            Check.due("taken", x.taken(lamp, lamp), 0);
            Check.due("mind", x.mind(lamp, 0, 0), lamp);
        }
        for (int bad : Check.NO_LAMPS) {
            Check.due("no lamp " + bad, x.lamp(bad, 0), UNKNOWN);
        }
    }

    @Says(in = "Terms 1", text = "Two LAMPS are LINKED, or not (none are at first).")
    private static void t1NoneAreLinkedAtFirst() {
        for (int lamp = 0; lamp < 10; lamp++) {
            MeshLamps x = new MeshLamps();
            Check.due("linked to", x.lamp(lamp, 12), 0);
            x.tell(lamp, (lamp + 1) % 10, 5, 1);
            x.settle();
            for (int other = 0; other < 10; other++) {
                Check.due("nobody hears " + lamp, x.lamp(other, 8) + x.lamp(other, 7), 0);
            }
        }
    }

    /** Lamp 0 is linked to lamp 1, which has heard one letter of two steps; the tick is 1. */
    private static MeshLamps oneHeard(int wait) {
        MeshLamps x = new MeshLamps();
        x.link(0, 1, 1);
        if (wait != 0) {
            x.set(1, 0, wait);
        }
        x.tell(0, 5, 1, 2);
        x.pass(1);
        return x;
    }

    @Says(in = "Terms 1", text = "A LAMP has a WAIT, 1 to 9 (1 at first)")
    private static void t1Wait() {
        Check.due("1 at first", oneHeard(0).air(0, 1), 1 + 1);
        Check.due("1", oneHeard(1).air(0, 1), 1 + 1);
        Check.due("9", oneHeard(9).air(0, 1), 1 + 9);
        for (int lamp = 0; lamp < 10; lamp++) {
            Check.due("1 at first, each", new MeshLamps().set(lamp, 0, 9), 1);
        }
    }

    @Says(in = "Terms 1", text = "PASSES letters on, or not (all do at first)")
    private static void t1Passes() {
        MeshLamps x = Scenes.star();
        x.tell(0, 0, 1, 2);
        x.pass(1);
        Check.due("all nine that heard it pass it on", x.count(3), 9);
        x.settle();
        for (int lamp = 1; lamp < 10; lamp++) {
            x.set(lamp, 1, 0);
        }
        x.tell(0, 0, 1, 2);
        x.pass(1);
        Check.due("none does any more", x.count(3), 0);
        Check.due("lamp 0 did at first", x.set(0, 1, 0), 1);
    }

    @Says(in = "Terms 1", text = "a MIND, 0 to 8 (4 at first)")
    private static void t1Mind() {
        for (int lamp = 0; lamp < 10; lamp++) {
            MeshLamps x = new MeshLamps();
            for (int n = 1; n <= 10; n++) {
                x.tell(lamp, 0, 0, 1);
            }
            Check.due("4 at first", x.lamp(lamp, 11), 4);
            Check.due("set to 8", x.set(lamp, 2, 8), 4);
            for (int n = 1; n <= 10; n++) {
                x.tell(lamp, 0, 0, 1);
            }
            Check.due("8 at most", x.lamp(lamp, 11), 8);
            x.set(lamp, 2, 0);
            x.tell(lamp, 0, 0, 1);
            Check.due("0 at least", x.lamp(lamp, 11), 0);
        }
    }

    @Says(in = "Terms 1", text = "a set of GROUPS, of 0 to 3 (empty at first)")
    private static void t1Groups() {
        MeshLamps x = Scenes.star();
        for (int g = 0; g < 4; g++) {
            x.tell(0, 10 + g, 50 + g, 1);
        }
        x.settle();
        for (int lamp = 0; lamp < 10; lamp++) {
            Check.due("of no group at first", x.lamp(lamp, 4), 0);
            Check.due("empty at first", x.set(lamp, 3, 15), 0);
        }
        for (int g = 0; g < 4; g++) {
            x.tell(0, 10 + g, 50 + g, 1);
        }
        x.settle();
        Check.due("of all four then", x.lamp(9, 4), 4);
    }

    @Says(in = "Terms 1", text = "a LIGHT, 0 to 99 (0 at first)")
    private static void t1Light() {
        MeshLamps x = new MeshLamps();
        x.link(0, 1, 1);
        for (int lamp = 0; lamp < 10; lamp++) {
            Check.due("0 at first", x.lamp(lamp, 0), 0);
        }
        x.tell(0, 1, 99, 1);
        x.settle();
        Check.due("99", x.lamp(1, 0), 99);
        x.tell(0, 1, 0, 1);
        x.settle();
        Check.due("0 again", x.lamp(1, 0), 0);
        Check.due("it was taken", x.lamp(1, 4), 2);
    }

    @Says(in = "Terms 1", text = "may SLEEP (none does at first)")
    private static void t1NoneSleepsAtFirst() {
        MeshLamps x = new MeshLamps();
        for (int lamp = 0; lamp < 10; lamp++) {
            Check.due("awake at first", x.lamp(lamp, 1), 0);
            Check.due("and may tell", x.tell(lamp, 0, 0, 1), 1);
        }
        Check.due("none sleeps", x.count(4), 0);
    }

    @Says(in = "Terms 1", text = "has a FRIEND, a LAMP other than itself, or none (at first)")
    private static void t1NoFriendAtFirst() {
        MeshLamps x = new MeshLamps();
        for (int lamp = 0; lamp < 10; lamp++) {
            Check.due("none at first", x.lamp(lamp, 2), NONE);
            Check.due("not itself", x.friend(lamp, lamp), OUTSIDE);
            Check.due("still none", x.friend(lamp, 9 - lamp), NONE);
            Check.due("another one", x.lamp(lamp, 2), 9 - lamp);
        }
    }

    @Says(in = "Terms 1", text = "TICK is 0 at first.")
    private static void t1TickIsZeroAtFirst() {
        MeshLamps x = new MeshLamps();
        Check.due("TICK", x.count(0), 0);
        x.tell(0, 1, 1, 1);
        Check.due("the next one is 1", x.air(0, 1), 1);
    }

    @Says(in = "Terms 1", text = "an AIM (a LAMP 0 to 9, or GROUP g: 10 and g)")
    private static void t1Aims() {
        for (int aim = 0; aim <= 13; aim++) {
            MeshLamps x = Scenes.star();
            x.link(9, 8, 1);
            for (int g = 0; g < 4; g++) {
                x.set(g + 1, 3, 1 << g);
            }
            Check.due("tell", x.tell(9, aim, 70, 7), 1);
            x.settle();
            int meant = aim < 10 ? aim : aim - 10 + 1;
            for (int lamp = 0; lamp < 9; lamp++) {
                Check.due("AIM " + aim + ": light of " + lamp, x.lamp(lamp, 0), lamp == meant ? 70 : 0);
            }
        }
    }

    @Says(in = "Terms 1", text = "a VALUE, 0 to 99")
    private static void t1Values() {
        MeshLamps x = new MeshLamps();
        x.link(0, 1, 1);
        for (int value : new int[] {1, 0, 99, 98}) {
            x.tell(0, 1, value, 1);
            x.settle();
            Check.due("VALUE", x.lamp(1, 0), value);
        }
        Check.due("-1", x.tell(0, 1, -1, 1), OUTSIDE);
        Check.due("100", x.tell(0, 1, 100, 1), OUTSIDE);
    }

    @Says(in = "Terms 1", text = "Two LETTERS are the same, if SOURCE and NUMBER are.")
    private static void t1SameLetters() {
        MeshLamps x = new MeshLamps();
        x.tell(1, 5, 1, 1);
        x.tell(1, 5, 1, 1);
        x.tell(2, 5, 1, 1);
        x.settle();
        x.replay(0, 1, 1);
        x.replay(0, 1, 2);
        x.replay(0, 2, 1);
        x.pass(1);
        Check.due("another NUMBER or another SOURCE: not the same", x.lamp(0, 8), 3);
        x.replay(0, 2, 1);
        x.pass(1);
        Check.due("both: the same", x.lamp(0, 7), 1);
        MeshLamps y = Scenes.toldTwoHundred();
        y.tell(1, 5, 1, 1);
        y.settle();
        y.replay(5, 0, 200);
        y.replay(5, 1, 1);
        y.pass(1);
        Check.due("the last one of a lamp and the first one of the next", y.lamp(5, 8), 2);
        Check.due("the last one", y.mind(5, 0, 0) * 1000 + y.mind(5, 0, 1), 200);
        Check.due("the first one", y.mind(5, 1, 0) * 1000 + y.mind(5, 1, 1), 1001);
    }

    @Says(in = "Terms 1", text = "A LAMP is MEANT by a LETTER, if it is the AIM, or has the GROUP that is the AIM.")
    private static void t1Meant() {
        MeshLamps x = Scenes.star();
        x.set(1, 3, 15 - 1);
        x.set(2, 3, 1);
        x.set(3, 3, 15 - 8);
        x.set(4, 3, 8);
        x.tell(0, 10, 30, 1);
        x.settle();
        Check.due("all groups but 0", x.lamp(1, 0), 0);
        Check.due("group 0 alone", x.lamp(2, 0), 30);
        x.tell(0, 13, 33, 1);
        x.settle();
        Check.due("all groups but 3", x.lamp(3, 0), 30);
        Check.due("group 3 alone", x.lamp(4, 0), 33);
        Check.due("no group", x.lamp(5, 0), 0);
        x.tell(0, 4, 44, 1);
        x.settle();
        Check.due("the AIM itself", x.lamp(4, 0), 44);
        Check.due("not the next one", x.lamp(5, 0), 0);
    }

    @Says(in = "Terms 1", text = "Each LAMP counts its LETTERS; the NUMBER of the first one is 1.")
    private static void t1NumbersBeginAtOne() {
        MeshLamps x = new MeshLamps();
        for (int lamp = 0; lamp < 10; lamp++) {
            Check.due("the first of " + lamp, x.tell(lamp, 0, 0, 1), 1);
            Check.due("the second of " + lamp, x.tell(lamp, 0, 0, 1), 2);
            Check.due("it has told", x.lamp(lamp, 3), 2);
        }
    }

    // ---- promise 1: a new object

    @Says(in = "Promise 1", text = "Ten LAMPS")
    private static void p01TenLamps() {
        MeshLamps x = new MeshLamps();
        for (int lamp = 0; lamp < 10; lamp++) {
            for (int what = 0; what <= 12; what++) {
                Check.due("lamp(" + lamp + ", " + what + ")", x.lamp(lamp, what), what == 2 ? NONE : 0);
            }
        }
        Check.due("no lamp -1", x.lamp(-1, 0), UNKNOWN);
        Check.due("no lamp 10", x.lamp(10, 0), UNKNOWN);
    }

    @Says(in = "Promise 1", text = "none LINKED")
    private static void p01NoneLinked() {
        MeshLamps x = new MeshLamps();
        for (int one = 0; one < 10; one++) {
            Check.due("linked to", x.lamp(one, 12), 0);
            Check.due("nothing to take away", x.link(one, 9 - one, 0), 0);
        }
    }

    @Says(in = "Promise 1", text = "THE AIR is empty")
    private static void p01AirIsEmpty() {
        MeshLamps x = new MeshLamps();
        Check.due("in the air", x.count(3), 0);
        for (int what = 0; what <= 4; what++) {
            Check.due("air(0, " + what + ")", x.air(0, what), NONE);
        }
        Check.due("settle", x.settle(), 0);
        Check.due("pass(100)", x.pass(100), 0);
    }

    @Says(in = "Promise 1", text = "no IMAGE is kept.")
    private static void p01NoImage() {
        MeshLamps x = new MeshLamps();
        Check.due("images", x.count(9), 0);
        Check.due("restore(0)", x.restore(0), STATE);
        Check.due("restore(1)", x.restore(1), STATE);
    }

    // ---- promise 2: link

    @Says(in = "Promise 2", text = "Two LAMPS are LINKED (on = 1), or not (0)")
    private static void p02BothWaysOrNot() {
        MeshLamps x = new MeshLamps();
        x.link(9, 0, 1);
        Check.due("the first", x.lamp(9, 12), 1);
        Check.due("the other", x.lamp(0, 12), 1);
        x.tell(0, 9, 11, 1);
        x.tell(9, 0, 12, 1);
        x.settle();
        Check.due("0 is heard by 9", x.lamp(9, 0), 11);
        Check.due("9 is heard by 0", x.lamp(0, 0), 12);
        x.link(0, 9, 0);
        Check.due("not linked: the first", x.lamp(0, 12), 0);
        Check.due("not linked: the other", x.lamp(9, 12), 0);
        x.tell(0, 9, 21, 1);
        x.tell(9, 0, 22, 1);
        x.settle();
        Check.due("0 is not heard by 9", x.lamp(9, 0), 11);
        Check.due("9 is not heard by 0", x.lamp(0, 0), 12);
    }

    @Says(in = "Promise 2", text = "to how many the first one is LINKED.")
    private static void p02HowMany() {
        MeshLamps x = new MeshLamps();
        Check.due("not linked, taken away: none", x.link(4, 0, 0), 0);
        int many = 0;
        for (int other = 0; other < 10; other++) {
            if (other != 4) {
                many++;
                Check.due("one more", x.link(4, other, 1), many);
                Check.due("again: no more", x.link(4, other, 1), many);
                Check.due("of the first one, not of the other", x.link(other, 4, 1), 1);
            }
        }
        Check.due("nine at most", many, 9);
        for (int other = 0; other < 10; other++) {
            if (other != 4) {
                many--;
                Check.due("one less", x.link(4, other, 0), many);
                Check.due("again: no less", x.link(4, other, 0), many);
            }
        }
    }

    @Says(in = "Promise 2", text = "UNKNOWN: both")
    private static void p02Unknown() {
        MeshLamps x = new MeshLamps();
        for (int bad : Check.NO_LAMPS) {
            for (int on = 0; on <= 1; on++) {
                Check.due("the first is " + bad, x.link(bad, 5, on), UNKNOWN);
                Check.due("the other is " + bad, x.link(5, bad, on), UNKNOWN);
                Check.due("both are " + bad, x.link(bad, bad, on), UNKNOWN);
            }
        }
        Check.due("0 and 9 are lamps", x.link(0, 9, 1), 1);
        Check.due("9 and 0 are lamps", x.link(9, 0, 0), 0);
    }

    @Says(in = "Promise 2", text = "OUTSIDE: they are one, on.")
    private static void p02OutsideTheyAreOne() {
        MeshLamps x = new MeshLamps();
        for (int lamp = 0; lamp < 10; lamp++) {
            Check.due("link", x.link(lamp, lamp, 1), OUTSIDE);
            Check.due("unlink", x.link(lamp, lamp, 0), OUTSIDE);
        }
    }

    @Says(in = "Promise 2", text = "OUTSIDE: they are one, on.")
    private static void p02OutsideOn() {
        MeshLamps x = new MeshLamps();
        for (int bad : Check.beside(0, 1)) {
            Check.due("on is " + bad, x.link(3, 4, bad), OUTSIDE);
            Check.due("not linked by that", x.lamp(3, 12), 0);
        }
        Check.due("on is 1", x.link(3, 4, 1), 1);
        Check.due("on is 0", x.link(3, 4, 0), 0);
    }

    // ---- promise 3: set

    private static void range(int what, int least, int most, int first) {
        for (int lamp = 0; lamp < 10; lamp++) {
            MeshLamps x = new MeshLamps();
            Check.due("the least", x.set(lamp, what, least), first);
            Check.due("the most", x.set(lamp, what, most), least);
            for (int bad : Check.beside(least, most)) {
                Check.due("n is " + bad, x.set(lamp, what, bad), OUTSIDE);
            }
            Check.due("refused, it stays", x.set(lamp, what, least), most);
        }
    }

    @Says(in = "Promise 3", text = "WAIT (what = 0)")
    private static void p03Wait() {
        range(0, 1, 9, 1);
    }

    @Says(in = "Promise 3", text = "whether it PASSES letters on (1: 0, 1)")
    private static void p03Passes() {
        range(1, 0, 1, 1);
    }

    @Says(in = "Promise 3", text = "MIND (2; the oldest ones go, if there are more)")
    private static void p03Mind() {
        range(2, 0, 8, 4);
    }

    /** Lamp 0 has a MIND of 8, and eight letters of its own in it. */
    private static MeshLamps fullMind() {
        MeshLamps x = new MeshLamps();
        x.set(0, 2, 8);
        for (int n = 1; n <= 8; n++) {
            x.tell(0, 1, 0, 1);
        }
        return x;
    }

    @Says(in = "Promise 3", text = "MIND (2; the oldest ones go, if there are more)")
    private static void p03MindOldestGo() {
        for (int most = 0; most <= 8; most++) {
            MeshLamps x = fullMind();
            Check.due("it was 8", x.set(0, 2, most), 8);
            Check.due("so many stay", x.lamp(0, 11), most);
            for (int i = 0; i < most; i++) {
                Check.due("the latest ones, the oldest first", x.mind(0, i, 1), 8 - most + 1 + i);
            }
            Check.due("no more", x.mind(0, most, 1), NONE);
        }
    }

    @Says(in = "Promise 3", text = "MIND (2; the oldest ones go, if there are more)")
    private static void p03MindNoneGoIfThereAreNoMore() {
        MeshLamps x = new MeshLamps();
        x.tell(0, 1, 0, 1);
        x.tell(0, 1, 0, 1);
        x.set(0, 2, 2);
        Check.due("just as many: both stay", x.mind(0, 0, 1) * 10 + x.mind(0, 1, 1), 12);
        x.set(0, 2, 8);
        Check.due("more room: both stay", x.mind(0, 0, 1) * 10 + x.mind(0, 1, 1), 12);
        x.set(0, 2, 0);
        x.set(0, 2, 8);
        Check.due("what went does not come back", x.lamp(0, 11), 0);
        x.tell(0, 1, 0, 1);
        x.set(0, 0, 1);
        x.set(0, 1, 0);
        x.set(0, 3, 0);
        Check.due("another setting makes none go", x.lamp(0, 11), 1);
    }

    @Says(in = "Promise 3", text = "GROUPS (3: 0 to 15)")
    private static void p03Groups() {
        range(3, 0, 15, 0);
    }

    @Says(in = "Terms for Promise 3",
        text = "Sets are numbers: bit i (of the value 1 shifted left by i) tells whether i is in it.")
    private static void p03GroupsAreBits() {
        for (int set = 0; set <= 15; set++) {
            MeshLamps x = new MeshLamps();
            x.link(0, 1, 1);
            x.set(1, 3, set);
            for (int g = 0; g < 4; g++) {
                int before = x.lamp(1, 4);
                x.tell(0, 10 + g, 0, 1);
                x.settle();
                Check.due("group " + g + " in set " + set, x.lamp(1, 4) - before, set >> g & 1);
            }
        }
    }

    @Says(in = "Promise 3", text = "is n: which it was.")
    private static void p03WhichItWas() {
        int[] first = {1, 1, 4, 0};
        int[] other = {9, 0, 8, 15};
        MeshLamps x = new MeshLamps();
        for (int what = 0; what < 4; what++) {
            Check.due("at first", x.set(7, what, other[what]), first[what]);
        }
        for (int what = 0; what < 4; what++) {
            Check.due("each has its own", x.set(7, what, other[what]), other[what]);
            Check.due("the same again", x.set(7, what, first[what]), other[what]);
            Check.due("and each lamp", x.set(6, what, first[what]), first[what]);
        }
    }

    @Says(in = "Promise 3", text = "UNKNOWN; OUTSIDE: both.")
    private static void p03Unknown() {
        MeshLamps x = new MeshLamps();
        for (int bad : Check.NO_LAMPS) {
            for (int what = 0; what < 4; what++) {
                Check.due("lamp " + bad, x.set(bad, what, 1), UNKNOWN);
            }
        }
    }

    @Says(in = "Promise 3", text = "UNKNOWN; OUTSIDE: both.")
    private static void p03OutsideWhat() {
        MeshLamps x = new MeshLamps();
        for (int bad : Check.beside(0, 3)) {
            Check.due("what is " + bad, x.set(0, bad, 1), OUTSIDE);
        }
        Check.due("what is 4, n is 0", x.set(0, 4, 0), OUTSIDE);
        Check.due("what is -1, n is 0", x.set(0, -1, 0), OUTSIDE);
    }

    // ---- promise 4: friend

    @Says(in = "Promise 4", text = "A LAMP has another one as FRIEND (NONE: none)")
    private static void p04NoneIsNone() {
        MeshLamps x = new MeshLamps();
        x.friend(0, 9);
        Check.due("lamp 9", x.lamp(0, 2), 9);
        Check.due("and may sleep", x.sleep(0, 1) + x.sleep(0, 0), 0);
        x.friend(0, NONE);
        Check.due("none", x.lamp(0, 2), NONE);
        Check.due("and may not sleep", x.sleep(0, 1), NO);
        x.friend(9, 0);
        Check.due("lamp 0", x.lamp(9, 2), 0);
        Check.due("not the other way", x.lamp(0, 2), NONE);
    }

    @Says(in = "Promise 4", text = "what is KEPT for it is no more")
    private static void p04KeptIsNoMore() {
        MeshLamps x = Scenes.sleeper();
        x.tell(0, 1, 44, 1);
        x.settle();
        Check.due("kept", x.lamp(1, 10), 1);
        Check.due("refused while it sleeps", x.friend(1, 3), STATE);
        Check.due("so it stays kept", x.lamp(1, 10), 1);
        x.sleep(1, 0);
        Check.due("friend", x.friend(1, 3), 2);
        Check.due("none is kept", x.lamp(1, 10), 0);
        x.sleep(1, 1);
        Check.due("nor after sleep", x.lamp(1, 10), 0);
        Check.due("nothing to take", x.sleep(1, 0), 0);
    }

    @Says(in = "Promise 4", text = "which it had (NONE).")
    private static void p04WhichItHad() {
        MeshLamps x = new MeshLamps();
        Check.due("none, set to none", x.friend(5, NONE), NONE);
        Check.due("none", x.friend(5, 0), NONE);
        Check.due("lamp 0", x.friend(5, 0), 0);
        Check.due("lamp 0", x.friend(5, 9), 0);
        Check.due("lamp 9", x.friend(5, NONE), 9);
        Check.due("none again", x.friend(5, 1), NONE);
    }

    @Says(in = "Promise 4", text = "UNKNOWN: the LAMP")
    private static void p04Unknown() {
        MeshLamps x = new MeshLamps();
        for (int bad : Check.NO_LAMPS) {
            Check.due("lamp " + bad, x.friend(bad, 5), UNKNOWN);
            Check.due("lamp " + bad + ", NONE", x.friend(bad, NONE), UNKNOWN);
        }
        Check.due("NONE is no lamp here", x.friend(NONE, 5), UNKNOWN);
    }

    @Says(in = "Promise 4", text = "OUTSIDE: the other one is no LAMP, nor NONE, or they are one")
    private static void p04OutsideNoLamp() {
        MeshLamps x = new MeshLamps();
        for (int bad : Check.NO_LAMPS) {
            Check.due("the other is " + bad, x.friend(5, bad), OUTSIDE);
        }
        Check.due("just below NONE", x.friend(5, NONE - 1), OUTSIDE);
        Check.due("just above NONE", x.friend(5, NONE + 1), OUTSIDE);
        Check.due("NONE itself", x.friend(5, NONE), NONE);
    }

    @Says(in = "Promise 4", text = "OUTSIDE: the other one is no LAMP, nor NONE, or they are one")
    private static void p04OutsideTheyAreOne() {
        MeshLamps x = new MeshLamps();
        for (int lamp = 0; lamp < 10; lamp++) {
            Check.due("itself", x.friend(lamp, lamp), OUTSIDE);
        }
    }

    @Says(in = "Promise 4", text = "STATE: it SLEEPS.")
    private static void p04State() {
        MeshLamps x = Scenes.sleeper();
        Check.due("another one", x.friend(1, 3), STATE);
        Check.due("the same one", x.friend(1, 2), STATE);
        Check.due("none", x.friend(1, NONE), STATE);
        Check.due("the friend itself is awake", x.friend(2, 1), NONE);
        x.sleep(1, 0);
        Check.due("awake again", x.friend(1, 3), 2);
    }

    // ---- promise 5: sleep

    @Says(in = "Promise 5", text = "A LAMP SLEEPS (on = 1), or wakes (0)")
    private static void p05SleepsOrWakes() {
        MeshLamps x = new MeshLamps();
        for (int lamp = 0; lamp < 10; lamp++) {
            x.friend(lamp, 9 - lamp);
            x.sleep(lamp, 1);
            Check.due("sleeps", x.lamp(lamp, 1), 1);
            Check.due("even if all do", x.count(4), lamp + 1);
        }
        for (int lamp = 0; lamp < 10; lamp++) {
            x.sleep(lamp, 0);
            Check.due("wakes", x.lamp(lamp, 1), 0);
            Check.due("down to none", x.count(4), 9 - lamp);
        }
    }

    @Says(in = "Promise 5", text = "how many LETTERS it TOOK by that, not refused")
    private static void p05HowManyItTook() {
        for (int many = 0; many <= 4; many++) {
            MeshLamps x = Scenes.sleeper();
            for (int n = 1; n <= many; n++) {
                x.tell(0, 1, n, 1);
            }
            x.settle();
            Check.due("it falls asleep and takes none", x.sleep(1, 1), 0);
            Check.due("it takes what is kept, three at most", x.sleep(1, 0), Math.min(many, 3));
            Check.due("it took", x.lamp(1, 4), Math.min(many, 3));
        }
    }

    @Says(in = "Promise 5", text = "how many LETTERS it TOOK by that, not refused")
    private static void p05RefusedAreNotCounted() {
        MeshLamps x = Scenes.sleeper();
        x.set(2, 2, 0);
        x.set(3, 1, 0);
        x.tell(0, 1, 7, 1);
        x.settle();
        x.replay(2, 0, 1);
        x.settle();
        Check.due("kept twice", x.lamp(1, 10), 2);
        Check.due("one is OLD then", x.sleep(1, 0), 1);
        x.sleep(1, 1);
        x.replay(2, 0, 1);
        x.settle();
        Check.due("kept", x.lamp(1, 10), 1);
        Check.due("all are OLD", x.sleep(1, 0), 0);
        x.sleep(1, 1);
        x.tell(0, 1, 7, 1);
        x.settle();
        x.phase();
        x.phase();
        x.phase();
        Check.due("kept", x.lamp(1, 10), 1);
        Check.due("all are STRANGE", x.sleep(1, 0), 0);
    }

    @Says(in = "Promise 5", text = "(0, if it was so before)")
    private static void p05ItWasSoBefore() {
        MeshLamps x = Scenes.sleeper();
        x.tell(0, 1, 7, 1);
        x.settle();
        Check.due("it sleeps already", x.sleep(1, 1), 0);
        Check.due("and goes on sleeping", x.lamp(1, 1), 1);
        Check.due("and what is kept stays", x.lamp(1, 10), 1);
        Check.due("it wakes", x.sleep(1, 0), 1);
        Check.due("it is awake already", x.sleep(1, 0), 0);
        Check.due("and took nothing more", x.lamp(1, 4) * 10 + x.lamp(1, 5), 10);
        Check.due("awake without a friend", x.sleep(5, 0), 0);
    }

    @Says(in = "Promise 5", text = "UNKNOWN; OUTSIDE: on")
    private static void p05Unknown() {
        MeshLamps x = new MeshLamps();
        for (int bad : Check.NO_LAMPS) {
            Check.due("lamp " + bad, x.sleep(bad, 1), UNKNOWN);
            Check.due("lamp " + bad, x.sleep(bad, 0), UNKNOWN);
        }
    }

    @Says(in = "Promise 5", text = "UNKNOWN; OUTSIDE: on")
    private static void p05OutsideOn() {
        MeshLamps x = Scenes.sleeper();
        for (int bad : Check.beside(0, 1)) {
            Check.due("a sleeper, on is " + bad, x.sleep(1, bad), OUTSIDE);
            Check.due("one that is awake, on is " + bad, x.sleep(2, bad), OUTSIDE);
        }
        Check.due("it sleeps on", x.lamp(1, 1), 1);
    }

    @Says(in = "Promise 5", text = "NO: it has no FRIEND (on = 1).")
    private static void p05NoFriend() {
        MeshLamps x = new MeshLamps();
        for (int lamp = 0; lamp < 10; lamp++) {
            Check.due("no friend", x.sleep(lamp, 1), NO);
            Check.due("waking needs none", x.sleep(lamp, 0), 0);
        }
        x.friend(3, 4);
        Check.due("a friend", x.sleep(3, 1), 0);
        Check.due("to be a friend is not to have one", x.sleep(4, 1), NO);
        x.sleep(3, 0);
        x.friend(3, NONE);
        Check.due("no more", x.sleep(3, 1), NO);
    }
}
