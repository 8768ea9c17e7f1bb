/** Each sentence of promises 17 to 19 that names a boundary, with a test of its own. */
public final class ImageEdgesTest {
    private static final int OUTSIDE = -2, STATE = -3, FULL = -4, NO = -5;

    public static void main(String[] args) throws IllegalAccessException {
        Check.sentences(ImageEdgesTest.class);
        Check.end();
    }

    // ---- promise 17: image

    @Says(in = "Promise 17",
        text = "All but IMAGES is kept in an IMAGE (0, 1), in place of what was kept there: 1.")
    private static void p17TwoImages() {
        MeshLamps x = new MeshLamps();
        Check.due("image(0)", x.image(0), 1);
        x.pass(10);
        Check.due("image(1)", x.image(1), 1);
        x.pass(10);
        x.restore(0);
        Check.due("what is kept in 0", x.count(0), 0);
        x.restore(1);
        Check.due("what is kept in 1", x.count(0), 10);
    }

    @Says(in = "Promise 17",
        text = "All but IMAGES is kept in an IMAGE (0, 1), in place of what was kept there: 1.")
    private static void p17InPlaceOfWhatWasKept() {
        for (int k = 0; k <= 1; k++) {
            MeshLamps x = new MeshLamps();
            x.image(1 - k);
            x.pass(1);
            x.image(k);
            x.pass(1);
            Check.due("again", x.image(k), 1);
            x.pass(1);
            x.restore(k);
            Check.due("the later one", x.count(0), 2);
            Check.due("again, of what was restored", x.image(k), 1);
            x.restore(1 - k);
            Check.due("the other one stays", x.count(0), 0);
        }
    }

    @Says(in = "Promise 17",
        text = "All but IMAGES is kept in an IMAGE (0, 1), in place of what was kept there: 1.")
    private static void p17NothingElseIsChanged() {
        String was = State.of(ImageEdgesTest::busyWithBoth);
        MeshLamps x = busyWithBoth();
        int tick = x.count(0);
        x.image(0);
        Check.due("TICK stays", x.count(0), tick);
        Check.same("kept once more where it was kept", State.of(() -> {
            MeshLamps y = busyWithBoth();
            y.image(1);
            return y;
        }), was);
    }

    /** Busy; kept in image 0 somewhat before, and in image 1 as it is. */
    private static MeshLamps busyWithBoth() {
        MeshLamps x = Scenes.busyWithImage();
        x.image(1);
        return x;
    }

    @Says(in = "Promise 17", text = "OUTSIDE.")
    private static void p17Outside() {
        MeshLamps x = new MeshLamps();
        for (int bad : Check.beside(0, 1)) {
            Check.due("k is " + bad, x.image(bad), OUTSIDE);
        }
        Check.due("none is kept", x.count(9), 0);
    }

    // ---- promise 18: restore

    @Says(in = "Promise 18", text = "All but IMAGES is as it was when it was kept; the IMAGE stays: 1.")
    private static void p18AllIsAsItWas() {
        for (int k = 0; k <= 1; k++) {
            int image = k;
            String was = State.of(() -> kept(image));
            Check.same("changed in between", State.of(() -> {
                MeshLamps x = kept(image);
                change(x);
                Check.due("restore", x.restore(image), 1);
                return x;
            }), was);
            Check.due("the change can be seen", !State.of(() -> {
                MeshLamps x = kept(image);
                change(x);
                return x;
            }).equals(was));
        }
    }

    private static MeshLamps kept(int k) {
        MeshLamps x = Scenes.busy();
        x.image(k);
        return x;
    }

    private static void change(MeshLamps x) {
        for (int lamp = 0; lamp < 10; lamp++) {
            x.set(lamp, 0, 7);
            x.set(lamp, 1, lamp % 2);
            x.set(lamp, 2, lamp % 4);
            x.set(lamp, 3, 15 - lamp);
            x.link(lamp, (lamp + 3) % 10, 1);
            x.link(lamp, (lamp + 1) % 10, 0);
        }
        x.settle();
        x.sleep(1, 0);
        x.sleep(9, 0);
        x.friend(1, 5);
        x.friend(4, 5);
        x.sleep(4, 1);
        x.tell(3, 4, 98, 7);
        x.phase();
        x.phase();
        x.give(7);
        x.tell(2, 4, 99, 7);
        x.pass(5);
    }

    @Says(in = "Promise 18", text = "All but IMAGES is as it was when it was kept; the IMAGE stays: 1.")
    private static void p18EmptyAndFull() {
        MeshLamps x = new MeshLamps();
        x.image(0);
        for (int n = 1; n <= 64; n++) {
            x.tell(0, 1, 0, 1);
        }
        x.image(1);
        x.restore(0);
        Check.due("an empty air", x.count(3), 0);
        Check.due("nothing told", x.lamp(0, 3), 0);
        Check.due("nothing to replay", x.replay(1, 0, 1), OUTSIDE);
        x.restore(1);
        Check.due("a full air", x.count(3), 64);
        Check.due("full", x.tell(0, 1, 0, 1), FULL);
        Check.due("all told", x.lamp(0, 3), 64);
        x.restore(0);
        Check.due("empty again", x.count(3), 0);
        Check.due("numbers begin again", x.tell(0, 1, 0, 1), 1);
    }

    @Says(in = "Promise 18", text = "All but IMAGES is as it was when it was kept; the IMAGE stays: 1.")
    private static void p18TheImageStays() {
        MeshLamps x = new MeshLamps();
        x.pass(3);
        x.image(1);
        for (int times = 1; times <= 5; times++) {
            x.tell(0, 1, 0, 1);
            x.pass(times);
            Check.due("restore, the " + times + "th time", x.restore(1), 1);
            Check.due("TICK", x.count(0), 3);
            Check.due("nothing told", x.lamp(0, 3), 0);
            Check.due("it is kept still", x.count(9), 2);
        }
    }

    @Says(in = "Promise 18", text = "All but IMAGES is as it was when it was kept; the IMAGE stays: 1.")
    private static void p18ImagesAreNotRestored() {
        MeshLamps x = new MeshLamps();
        x.image(0);
        x.pass(4);
        x.image(1);
        x.restore(0);
        Check.due("the one kept later stays", x.count(9), 3);
        Check.due("and can be restored", x.restore(1), 1);
        Check.due("as it was", x.count(0), 4);
    }

    @Says(in = "Promise 18", text = "All but IMAGES is as it was when it was kept; the IMAGE stays: 1.")
    private static void p18KeysAreAsTheyWere() {
        MeshLamps x = new MeshLamps();
        x.phase();
        x.give(9);
        x.phase();
        x.image(0);
        x.phase();
        Check.due("lost its KEY", x.tell(0, 9, 0, 1), NO);
        x.restore(0);
        Check.due("PHASE", x.count(2), 2);
        Check.due("KEY", x.count(1), 0);
        Check.due("has KEY again", x.has(0, 0), 1);
        Check.due("has the NEXT one", x.has(9, 1), 1);
        Check.due("tells again", x.tell(0, 9, 0, 1), 1);
    }

    @Says(in = "Promise 18", text = "All but IMAGES is as it was when it was kept; the IMAGE stays: 1.")
    private static void p18LettersAreAsTheyWere() {
        MeshLamps x = new MeshLamps();
        x.image(0);
        x.tell(0, 8, 22, 1);
        x.image(1);
        x.restore(0);
        x.phase();
        x.give(0);
        x.phase();
        x.phase();
        Check.due("the same NUMBER, with another KEY, AIM and VALUE", x.tell(0, 9, 33, 1), 1);
        x.restore(1);
        x.replay(8, 0, 1);
        x.replay(9, 0, 1);
        x.settle();
        Check.due("the KEY of then", x.lamp(8, 8), 1);
        Check.due("the AIM of then", x.lamp(8, 4) * 10 + x.lamp(9, 4), 10);
        Check.due("the VALUE of then", x.lamp(8, 0), 22);
    }

    @Says(in = "Promise 18", text = "All but IMAGES is as it was when it was kept; the IMAGE stays: 1.")
    private static void p18LossesAreAsTheyWere() {
        MeshLamps x = Scenes.star();
        x.friend(5, 0);
        x.image(0);
        for (int n = 1; n <= 9; n++) {
            x.tell(0, 9, n, 2);
        }
        x.tell(5, 0, 1, 1);
        x.sleep(5, 1);
        x.settle();
        int full = x.count(7);
        Check.due("some were lost as the air had 64", full > 0);
        Check.due("one as its lamp slept", x.count(8), 1);
        x.image(1);
        x.restore(0);
        Check.due("none", x.count(7) + x.count(8), 0);
        x.restore(1);
        Check.due("as the air had 64", x.count(7), full);
        Check.due("as its lamp slept", x.count(8), 1);
    }

    @Says(in = "Promise 18", text = "All but IMAGES is as it was when it was kept; the IMAGE stays: 1.")
    private static void p18WhatWasTakenIsAsItWas() {
        MeshLamps x = new MeshLamps();
        for (int one = 0; one < 10; one++) {
            x.set(one, 3, 1);
            for (int other = 0; other < one; other++) {
                x.link(one, other, 1);
            }
        }
        x.image(0);
        for (int source = 0; source < 10; source++) {
            x.tell(source, 10, source, 1);
        }
        x.settle();
        x.image(1);
        for (int k = 0; k <= 1; k++) {
            x.restore(k);
            for (int lamp = 0; lamp < 10; lamp++) {
                for (int source = 0; source < 10; source++) {
                    Check.due("taken by " + lamp + " of " + source, x.taken(lamp, source), lamp == source ? 0 : k);
                }
            }
        }
    }

    @Says(in = "Promise 18", text = "OUTSIDE; STATE: nothing was kept in it.")
    private static void p18Outside() {
        MeshLamps x = busyWithBoth();
        for (int bad : Check.beside(0, 1)) {
            Check.due("k is " + bad, x.restore(bad), OUTSIDE);
        }
    }

    @Says(in = "Promise 18", text = "OUTSIDE; STATE: nothing was kept in it.")
    private static void p18State() {
        for (int k = 0; k <= 1; k++) {
            MeshLamps x = new MeshLamps();
            Check.due("nothing was kept", x.restore(k), STATE);
            x.image(1 - k);
            Check.due("nothing was kept in this one", x.restore(k), STATE);
            x.image(k);
            Check.due("something was", x.restore(k), 1);
        }
    }

    // ---- promise 19: count

    @Says(in = "Promise 19", text = "TICK (0), KEY (1), PHASE (2)")
    private static void p19TickKeyPhase() {
        MeshLamps x = new MeshLamps();
        Check.due("at first", x.count(0) + x.count(1) + x.count(2), 0);
        x.pass(100);
        x.pass(1);
        Check.due("TICK", x.count(0), 101);
        for (int times = 1; times <= 7; times++) {
            x.phase();
            Check.due("KEY", x.count(1), times / 3);
            Check.due("PHASE", x.count(2), times % 3);
        }
        Check.due("TICK does not go by that", x.count(0), 101);
    }

    @Says(in = "Promise 19", text = "how many are in THE AIR (3)")
    private static void p19InTheAir() {
        MeshLamps x = new MeshLamps();
        for (int many = 0; many < 64; many++) {
            Check.due("in the air", x.count(3), many);
            x.tell(many % 10, 0, 0, 1);
        }
        Check.due("64", x.count(3), 64);
        x.tell(0, 0, 0, 1);
        x.replay(0, 0, 1);
        Check.due("no more", x.count(3), 64);
        x.pass(1);
        Check.due("none", x.count(3), 0);
    }

    @Says(in = "Promise 19", text = "how many LAMPS SLEEP (4)")
    private static void p19Sleepers() {
        MeshLamps x = new MeshLamps();
        for (int lamp = 0; lamp < 10; lamp++) {
            Check.due("sleep", x.count(4), lamp);
            x.friend(lamp, 9 - lamp);
            x.sleep(lamp, 1);
            x.sleep(lamp, 1);
        }
        Check.due("all ten", x.count(4), 10);
        x.sleep(0, 0);
        x.sleep(0, 0);
        Check.due("nine", x.count(4), 9);
    }

    @Says(in = "Promise 19", text = "LIGHTS, all added (5)")
    private static void p19Lights() {
        MeshLamps x = Scenes.star();
        for (int lamp = 0; lamp < 10; lamp++) {
            Check.due("all added", x.count(5), 99 * lamp);
            x.tell(lamp == 0 ? 1 : 0, lamp, 99, 1);
            x.settle();
        }
        Check.due("all at their greatest", x.count(5), 990);
        x.tell(0, 9, 0, 1);
        x.settle();
        Check.due("one is out", x.count(5), 891);
    }

    @Says(in = "Promise 19", text = "how many times LETTERS were SPOKEN ever, by LAMPS and by those who listen (6)")
    private static void p19Spoken() {
        MeshLamps x = Scenes.star();
        Check.due("none", x.count(6), 0);
        x.tell(0, 5, 0, 2);
        Check.due("none yet", x.count(6), 0);
        x.settle();
        Check.due("by ten lamps", x.count(6), 10);
        x.replay(0, 0, 1);
        x.settle();
        Check.due("by one who listens", x.count(6), 11);
        x.friend(0, 5);
        x.tell(0, 5, 0, 2);
        x.sleep(0, 1);
        x.settle();
        Check.due("what is lost is not spoken", x.count(6), 11);
    }

    @Says(in = "Promise 19", text = "were lost as THE AIR had 64 (7)")
    private static void p19LostAsFull() {
        MeshLamps x = Scenes.star();
        for (int n = 1; n <= 7; n++) {
            x.tell(0, 5, 0, 2);
        }
        x.pass(1);
        Check.due("63 are passed on, none is lost", x.count(3) * 100 + x.count(7), 6300);
        x.settle();
        for (int n = 1; n <= 8; n++) {
            x.tell(0, 5, 0, 2);
        }
        x.pass(1);
        Check.due("64 of 72 are passed on", x.count(3), 64);
        Check.due("8 are lost", x.count(7), 8);
        x.tell(0, 5, 0, 2);
        x.replay(0, 0, 1);
        Check.due("what is refused is not lost", x.count(7), 8);
        x.settle();
        Check.due("ever", x.count(7), 8);
        Check.due("not as a lamp slept", x.count(8), 0);
    }

    @Says(in = "Promise 19", text = "as their LAMP SLEPT (8)")
    private static void p19LostAsleep() {
        MeshLamps x = new MeshLamps();
        x.friend(0, 1);
        for (int n = 1; n <= 64; n++) {
            x.tell(0, 5, 0, 1);
        }
        x.sleep(0, 1);
        Check.due("none yet", x.count(8), 0);
        x.pass(1);
        Check.due("64 at one TICK", x.count(8), 64);
        x.replay(0, 0, 1);
        x.pass(1);
        Check.due("not what one who listens beside it speaks", x.count(8), 64);
        Check.due("not as the air had 64", x.count(7), 0);
    }

    @Says(in = "Promise 19", text = "which IMAGES are kept, a set: bits 0, 1 (9)")
    private static void p19Images() {
        MeshLamps x = new MeshLamps();
        Check.due("none", x.count(9), 0);
        x.image(1);
        Check.due("1 alone", x.count(9), 2);
        x.image(1);
        Check.due("1 again", x.count(9), 2);
        x.image(0);
        Check.due("both", x.count(9), 3);
        MeshLamps y = new MeshLamps();
        y.image(0);
        Check.due("0 alone", y.count(9), 1);
        y.restore(0);
        Check.due("it stays", y.count(9), 1);
    }

    @Says(in = "Terms for Promise 19",
        text = "Sets are numbers: bit i (of the value 1 shifted left by i) tells whether i is in it.")
    private static void p19ImagesAreBits() {
        for (int set = 0; set <= 3; set++) {
            MeshLamps x = new MeshLamps();
            for (int k = 0; k <= 1; k++) {
                if ((set >> k & 1) == 1) {
                    x.image(k);
                }
            }
            Check.due("images", x.count(9), set);
        }
    }

    @Says(in = "Promise 19", text = "OUTSIDE.")
    private static void p19Outside() {
        MeshLamps x = busyWithBoth();
        for (int bad : Check.beside(0, 9)) {
            Check.due("what is " + bad, x.count(bad), OUTSIDE);
        }
    }
}
