/** Each sentence of promises 13 to 16 that names a boundary, with a test of its own. */
public final class ToldEdgesTest {
    private static final int UNKNOWN = -1, OUTSIDE = -2, FULL = -4, NONE = -6;

    public static void main(String[] args) throws IllegalAccessException {
        Check.sentences(ToldEdgesTest.class);
        Check.end();
    }

    // ---- promise 13: lamp

    @Says(in = "Promise 13", text = "LIGHT (what = 0)")
    private static void p13Light() {
        MeshLamps x = Scenes.star();
        for (int value : new int[] {99, 0}) {
            x.tell(0, 9, value, 1);
            x.settle();
            Check.due("LIGHT", x.lamp(9, 0), value);
            Check.due("of another one", x.lamp(8, 0), 0);
        }
    }

    @Says(in = "Promise 13", text = "whether it SLEEPS (1)")
    private static void p13Sleeps() {
        MeshLamps x = Scenes.sleeper();
        Check.due("sleeps", x.lamp(1, 1), 1);
        Check.due("its friend does not", x.lamp(2, 1), 0);
        x.sleep(1, 0);
        Check.due("awake", x.lamp(1, 1), 0);
    }

    @Says(in = "Promise 13", text = "FRIEND (2; NONE)")
    private static void p13Friend() {
        MeshLamps x = new MeshLamps();
        Check.due("none", x.lamp(5, 2), NONE);
        x.friend(5, 0);
        Check.due("lamp 0", x.lamp(5, 2), 0);
        x.friend(5, 9);
        Check.due("lamp 9", x.lamp(5, 2), 9);
        x.friend(5, NONE);
        Check.due("none again", x.lamp(5, 2), NONE);
    }

    @Says(in = "Promise 13", text = "how many LETTERS it told (3)")
    private static void p13Told() {
        MeshLamps x = Scenes.toldTwoHundred();
        Check.due("200", x.lamp(0, 3), 200);
        Check.due("refused", x.tell(0, 1, 1, 1), FULL);
        Check.due("200 still", x.lamp(0, 3), 200);
        Check.due("none", x.lamp(1, 3), 0);
        x.replay(1, 0, 1);
        x.settle();
        Check.due("those who listen tell none", x.lamp(1, 3) + x.lamp(0, 3), 200);
    }

    /** Lamp 1 keeps nothing in mind and passes nothing on; lamp 0 told it two letters, and it heard the second. */
    private static MeshLamps forgetful() {
        MeshLamps x = new MeshLamps();
        x.set(1, 2, 0);
        x.set(1, 1, 0);
        x.tell(0, 1, 10, 1);
        x.tell(0, 1, 20, 1);
        x.settle();
        x.replay(1, 0, 2);
        x.pass(1);
        return x;
    }

    @Says(in = "Promise 13", text = "TOOK, not refused (4), refused as OLD (5)")
    private static void p13TookAndOld() {
        MeshLamps x = forgetful();
        Check.due("took", x.lamp(1, 4), 1);
        Check.due("none is old", x.lamp(1, 5), 0);
        x.replay(1, 0, 2);
        x.pass(1);
        Check.due("the same again: old", x.lamp(1, 5), 1);
        x.replay(1, 0, 1);
        x.pass(1);
        Check.due("the one before: old", x.lamp(1, 5), 2);
        Check.due("took no more", x.lamp(1, 4), 1);
    }

    @Says(in = "Promise 13", text = "TOOK, not refused (4), refused as OLD (5)")
    private static void p13TookAndOldByWaking() {
        MeshLamps x = Scenes.sleeper();
        x.set(2, 2, 0);
        x.set(3, 1, 0);
        x.tell(0, 1, 5, 1);
        x.pass(1);
        x.replay(2, 0, 1);
        x.settle();
        Check.due("none while it sleeps", x.lamp(1, 4) + x.lamp(1, 5), 0);
        x.sleep(1, 0);
        Check.due("took one", x.lamp(1, 4), 1);
        Check.due("one is old", x.lamp(1, 5), 1);
    }

    @Says(in = "Promise 13", text = "had STRANGE (6), STALE (7), NEW (8)")
    private static void p13StrangeStaleNew() {
        MeshLamps x = new MeshLamps();
        x.link(0, 1, 1);
        x.tell(0, 5, 0, 1);
        x.pass(1);
        Check.due("new", x.lamp(1, 8) * 100 + x.lamp(1, 7) * 10 + x.lamp(1, 6), 100);
        x.replay(1, 0, 1);
        x.pass(1);
        Check.due("stale", x.lamp(1, 8) * 100 + x.lamp(1, 7) * 10 + x.lamp(1, 6), 110);
        Check.due("stale to its source, too", x.lamp(0, 8) * 100 + x.lamp(0, 7) * 10 + x.lamp(0, 6), 10);
        x.phase();
        x.phase();
        x.phase();
        x.replay(1, 0, 1);
        x.pass(1);
        Check.due("strange", x.lamp(1, 8) * 100 + x.lamp(1, 7) * 10 + x.lamp(1, 6), 111);
        Check.due("strange to its source, too", x.lamp(0, 8) * 100 + x.lamp(0, 7) * 10 + x.lamp(0, 6), 11);
    }

    @Says(in = "Promise 13", text = "how many times it SPOKE, LETTERS of its own, too (9)")
    private static void p13Spoke() {
        MeshLamps x = new MeshLamps();
        x.link(0, 1, 1);
        x.tell(0, 5, 0, 2);
        Check.due("told, not spoken yet", x.lamp(0, 9), 0);
        x.pass(1);
        Check.due("its own", x.lamp(0, 9), 1);
        Check.due("not yet passed on", x.lamp(1, 9), 0);
        x.pass(1);
        Check.due("another one's", x.lamp(1, 9), 1);
        x.replay(3, 0, 1);
        x.settle();
        Check.due("beside it was spoken, and passed on by it once", x.lamp(3, 9), 1);
        x.friend(0, 1);
        x.tell(0, 5, 0, 2);
        x.sleep(0, 1);
        x.settle();
        Check.due("what is lost is not spoken", x.lamp(0, 9), 1);
    }

    @Says(in = "Promise 13", text = "how many are KEPT for it (10)")
    private static void p13Kept() {
        MeshLamps x = Scenes.sleeper();
        for (int many = 0; many <= 5; many++) {
            Check.due("kept, three at most", x.lamp(1, 10), Math.min(many, 3));
            Check.due("none for its friend", x.lamp(2, 10), 0);
            x.tell(0, 1, 1, 1);
            x.pass(1);
        }
        x.sleep(1, 0);
        Check.due("none", x.lamp(1, 10), 0);
    }

    @Says(in = "Promise 13", text = "are in its MIND (11)")
    private static void p13Mind() {
        for (int most = 0; most <= 8; most++) {
            MeshLamps x = new MeshLamps();
            x.set(0, 2, most);
            for (int many = 0; many <= 10; many++) {
                Check.due("in mind", x.lamp(0, 11), Math.min(many, most));
                x.tell(0, 1, 1, 1);
            }
        }
    }

    @Says(in = "Promise 13", text = "to how many it is LINKED (12)")
    private static void p13Linked() {
        MeshLamps x = new MeshLamps();
        for (int many = 0; many < 10; many++) {
            Check.due("linked to", x.lamp(9, 12), many);
            x.link(many, 9, 1);
        }
        Check.due("nine at most", x.lamp(9, 12), 9);
        x.link(0, 9, 0);
        Check.due("one less", x.lamp(9, 12), 8);
        Check.due("none", x.lamp(0, 12), 0);
    }

    @Says(in = "Promise 13", text = "UNKNOWN; OUTSIDE.")
    private static void p13Unknown() {
        MeshLamps x = Scenes.busy();
        for (int bad : Check.NO_LAMPS) {
            for (int what = 0; what <= 12; what++) {
                Check.due("lamp " + bad, x.lamp(bad, what), UNKNOWN);
            }
        }
    }

    @Says(in = "Promise 13", text = "UNKNOWN; OUTSIDE.")
    private static void p13Outside() {
        MeshLamps x = Scenes.busy();
        for (int lamp = 0; lamp < 10; lamp++) {
            for (int bad : Check.beside(0, 12)) {
                Check.due("what is " + bad, x.lamp(lamp, bad), OUTSIDE);
            }
        }
    }

    // ---- promise 14: taken

    @Says(in = "Promise 14", text = "The greatest NUMBER that a LAMP has TAKEN of a SOURCE; 0: none.")
    private static void p14Greatest() {
        MeshLamps x = forgetful();
        Check.due("the second alone", x.taken(1, 0), 2);
        x.replay(1, 0, 1);
        x.pass(1);
        Check.due("not a smaller one later", x.taken(1, 0), 2);
        for (int source = 1; source < 10; source++) {
            Check.due("none", x.taken(1, source), 0);
        }
        Check.due("none by another one", x.taken(0, 0) + x.taken(2, 0), 0);
        x.tell(0, 2, 30, 1);
        x.settle();
        x.replay(1, 0, 3);
        x.pass(1);
        Check.due("heard, but not meant", x.taken(1, 0), 2);
    }

    @Says(in = "Promise 14", text = "The greatest NUMBER that a LAMP has TAKEN of a SOURCE; 0: none.")
    private static void p14FromOneToTwoHundred() {
        MeshLamps x = Scenes.toldTwoHundred();
        x.set(1, 2, 0);
        for (int number : new int[] {1, 2, 199, 200}) {
            Check.due("there is room", x.replay(1, 0, number), 1);
            x.settle();
            Check.due("the greatest", x.taken(1, 0), number);
        }
    }

    @Says(in = "Promise 14", text = "UNKNOWN: both.")
    private static void p14Unknown() {
        MeshLamps x = Scenes.busy();
        for (int bad : Check.NO_LAMPS) {
            Check.due("lamp " + bad, x.taken(bad, 5), UNKNOWN);
            Check.due("source " + bad, x.taken(5, bad), UNKNOWN);
            Check.due("both " + bad, x.taken(bad, bad), UNKNOWN);
        }
        Check.due("0 and 9 are lamps", x.taken(0, 9), 0);
        Check.due("9 and 0 are lamps", x.taken(9, 0), 0);
    }

    // ---- promise 15: mind

    /** Lamp 9 has a MIND of 8 and heard the letters of lamps 0 to 7, of each one the second. */
    private static MeshLamps fullMind() {
        MeshLamps x = new MeshLamps();
        x.set(9, 2, 8);
        for (int source = 0; source < 8; source++) {
            x.tell(source, 5, 0, 1);
            x.tell(source, 5, 0, 1);
        }
        x.settle();
        for (int source = 0; source < 8; source++) {
            x.replay(9, source, 2);
        }
        x.pass(1);
        return x;
    }

    @Says(in = "Promise 15",
        text = "Of the i-th LETTER in MIND of a LAMP, the oldest first, from 0 on: SOURCE (what = 0), NUMBER (1)")
    private static void p15FromTheOldestOn() {
        MeshLamps x = fullMind();
        for (int i = 0; i < 8; i++) {
            Check.due("SOURCE " + i, x.mind(9, i, 0), i);
            Check.due("NUMBER " + i, x.mind(9, i, 1), 2);
        }
    }

    @Says(in = "Promise 15", text = "NONE: there is none such (i below 0, too).")
    private static void p15NoneBelowZero() {
        MeshLamps x = fullMind();
        for (int what = 0; what <= 1; what++) {
            Check.due("i is -1", x.mind(9, -1, what), NONE);
            Check.due("i is the least int", x.mind(9, Integer.MIN_VALUE, what), NONE);
            Check.due("i is 0", x.mind(9, 0, what), 2 * what);
        }
    }

    @Says(in = "Promise 15", text = "NONE: there is none such (i below 0, too).")
    private static void p15NoneBehindTheLast() {
        MeshLamps x = fullMind();
        for (int what = 0; what <= 1; what++) {
            Check.due("a full mind", x.mind(9, 8, what), NONE);
            Check.due("i is the greatest int", x.mind(9, Integer.MAX_VALUE, what), NONE);
            Check.due("an empty mind", x.mind(8, 0, what), NONE);
        }
        x.tell(8, 5, 0, 1);
        Check.due("one in mind", x.mind(8, 0, 0), 8);
        Check.due("and no second", x.mind(8, 1, 0), NONE);
        x.set(9, 2, 3);
        Check.due("three are left", x.mind(9, 2, 0), 7);
        Check.due("what has gone", x.mind(9, 3, 0), NONE);
    }

    @Says(in = "Promise 15", text = "UNKNOWN; OUTSIDE.")
    private static void p15Unknown() {
        MeshLamps x = fullMind();
        for (int bad : Check.NO_LAMPS) {
            Check.due("lamp " + bad, x.mind(bad, 0, 0), UNKNOWN);
            Check.due("lamp " + bad, x.mind(bad, 0, 1), UNKNOWN);
        }
    }

    @Says(in = "Promise 15", text = "UNKNOWN; OUTSIDE.")
    private static void p15Outside() {
        MeshLamps x = fullMind();
        for (int bad : Check.beside(0, 1)) {
            Check.due("what is " + bad, x.mind(9, 0, bad), OUTSIDE);
            Check.due("what is " + bad, x.mind(9, 7, bad), OUTSIDE);
        }
    }

    // ---- promise 16: air

    @Says(in = "Promise 16",
        text = "Of the i-th in THE AIR, as they came, from 0 on: the LAMP (what = 0;"
            + " for one who listens 10 and the LAMP beside), TICK (1), SOURCE (2), NUMBER (3), STEPS (4)")
    private static void p16AsTheyCame() {
        MeshLamps x = Scenes.inAir(64, 7);
        for (int i = 0; i < 64; i++) {
            int[] due = {i % 5, 1, i % 5, i / 5 + 1, 7};
            for (int what = 0; what <= 4; what++) {
                Check.due("air(" + i + ", " + what + ")", x.air(i, what), due[what]);
            }
        }
    }

    @Says(in = "Promise 16", text = "for one who listens 10 and the LAMP beside")
    private static void p16WhoListens() {
        MeshLamps x = new MeshLamps();
        x.tell(3, 5, 0, 2);
        for (int beside = 0; beside < 10; beside++) {
            x.replay(beside, 3, 1);
        }
        Check.due("the lamp itself", x.air(0, 0), 3);
        for (int beside = 0; beside < 10; beside++) {
            Check.due("10 and the lamp beside", x.air(1 + beside, 0), 10 + beside);
            Check.due("SOURCE", x.air(1 + beside, 2), 3);
            Check.due("STEPS", x.air(1 + beside, 4), 7);
        }
    }

    @Says(in = "Promise 16", text = "NONE: there is none such (i below 0, too).")
    private static void p16NoneBelowZero() {
        MeshLamps x = Scenes.inAir(64, 7);
        for (int what = 0; what <= 4; what++) {
            Check.due("i is -1", x.air(-1, what), NONE);
            Check.due("i is the least int", x.air(Integer.MIN_VALUE, what), NONE);
        }
    }

    @Says(in = "Promise 16", text = "NONE: there is none such (i below 0, too).")
    private static void p16NoneBehindTheLast() {
        MeshLamps full = Scenes.inAir(64, 7);
        MeshLamps one = Scenes.inAir(1, 7);
        MeshLamps empty = new MeshLamps();
        for (int what = 0; what <= 4; what++) {
            Check.due("64 in the air", full.air(64, what), NONE);
            Check.due("i is the greatest int", full.air(Integer.MAX_VALUE, what), NONE);
            Check.due("one in the air", one.air(1, what), NONE);
            Check.due("an empty air", empty.air(0, what), NONE);
        }
        full.settle();
        Check.due("what was spoken is out", full.air(0, 0), NONE);
    }

    @Says(in = "Promise 16", text = "OUTSIDE.")
    private static void p16Outside() {
        MeshLamps x = Scenes.inAir(64, 7);
        for (int bad : Check.beside(0, 4)) {
            Check.due("what is " + bad, x.air(0, bad), OUTSIDE);
            Check.due("what is " + bad, x.air(63, bad), OUTSIDE);
        }
    }
}
