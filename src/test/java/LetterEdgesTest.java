/** Each sentence of promises 9 to 12 that names a boundary, with a test of its own. */
public final class LetterEdgesTest {
    private static final int UNKNOWN = -1, OUTSIDE = -2, STATE = -3, FULL = -4, NO = -5, NONE = -6;

    public static void main(String[] args) throws IllegalAccessException {
        Check.sentences(LetterEdgesTest.class);
        Check.end();
    }

    @Says(in = "What it is", text = "An object is used for at most 512 calls after it has been made")
    private static void theLastCall() {
        MeshLamps x = new MeshLamps();
        for (int n = 1; n <= 511; n++) {
            x.pass(100);
        }
        Check.due("the 512th call answers as ever", x.count(0), 51100);
        MeshLamps y = new MeshLamps();
        for (int n = 1; n <= 511; n++) {
            y.phase();
        }
        Check.due("the 512th call answers as ever", y.phase(), 512 % 3);
    }

    // ---- promise 9: tell

    @Says(in = "Promise 9",
        text = "it comes into THE AIR, to be SPOKEN by it at the next TICK (TICK and 1) with so many STEPS: its NUMBER.")
    private static void p09IntoTheAir() {
        for (int steps = 1; steps <= 7; steps++) {
            MeshLamps x = new MeshLamps();
            x.set(8, 0, 9);
            x.tell(8, 0, 0, 1);
            x.pass(100);
            Check.due("its NUMBER", x.tell(8, 0, 0, steps), 2);
            int[] due = {8, 101, 8, 2, steps};
            for (int what = 0; what <= 4; what++) {
                Check.due("air(0, " + what + ")", x.air(0, what), due[what]);
            }
            Check.due("at that TICK", x.pass(1), 1);
            Check.due("by it", x.lamp(8, 9), 2);
        }
    }

    @Says(in = "Promise 9", text = "It comes into its MIND like a NEW one")
    private static void p09IntoItsMind() {
        for (int most = 1; most <= 8; most++) {
            MeshLamps x = new MeshLamps();
            x.set(0, 2, most);
            for (int n = 1; n <= most; n++) {
                x.tell(0, 0, 0, 1);
            }
            Check.due("just as many as MIND", x.lamp(0, 11), most);
            Check.due("none has gone", x.mind(0, 0, 1), 1);
            x.tell(0, 0, 0, 1);
            Check.due("the oldest goes", x.mind(0, 0, 1), 2);
            Check.due("the latest", x.mind(0, most - 1, 1), most + 1);
        }
    }

    @Says(in = "Promise 9", text = "It comes into its MIND like a NEW one")
    private static void p09WithAMindOfZero() {
        MeshLamps x = new MeshLamps();
        x.set(0, 2, 0);
        Check.due("told", x.tell(0, 0, 0, 1), 1);
        Check.due("none in mind", x.lamp(0, 11), 0);
        Check.due("but in the air", x.count(3), 1);
    }

    @Says(in = "Promise 9", text = "(it is not counted as NEW; nothing is TAKEN or KEPT by that)")
    private static void p09NotCountedAsNew() {
        MeshLamps x = new MeshLamps();
        x.set(0, 3, 1);
        x.set(1, 3, 1);
        x.friend(1, 0);
        x.sleep(1, 1);
        x.tell(0, 10, 44, 7);
        x.tell(0, 0, 45, 7);
        x.tell(0, 1, 46, 7);
        Check.due("not new", x.lamp(0, 8), 0);
        Check.due("not taken, though it is meant", x.lamp(0, 4) + x.lamp(0, 0) + x.taken(0, 0), 0);
        Check.due("not kept for one that has it as friend", x.lamp(1, 10), 0);
        Check.due("once in the air each", x.count(3), 3);
        x.settle();
        Check.due("nor later", x.lamp(0, 8) + x.lamp(0, 4) + x.lamp(1, 10), 0);
    }

    @Says(in = "Promise 9", text = "UNKNOWN; OUTSIDE: the AIM (0 to 13), the VALUE, the STEPS")
    private static void p09Unknown() {
        MeshLamps x = new MeshLamps();
        for (int bad : Check.NO_LAMPS) {
            Check.due("lamp " + bad, x.tell(bad, 0, 0, 1), UNKNOWN);
        }
    }

    @Says(in = "Promise 9", text = "UNKNOWN; OUTSIDE: the AIM (0 to 13), the VALUE, the STEPS")
    private static void p09OutsideAim() {
        MeshLamps x = new MeshLamps();
        for (int bad : Check.beside(0, 13)) {
            Check.due("AIM " + bad, x.tell(0, bad, 0, 1), OUTSIDE);
        }
        Check.due("AIM 0", x.tell(0, 0, 0, 1), 1);
        Check.due("AIM 13", x.tell(0, 13, 0, 1), 2);
    }

    @Says(in = "Promise 9", text = "UNKNOWN; OUTSIDE: the AIM (0 to 13), the VALUE, the STEPS")
    private static void p09OutsideValue() {
        MeshLamps x = new MeshLamps();
        for (int bad : Check.beside(0, 99)) {
            Check.due("VALUE " + bad, x.tell(0, 1, bad, 1), OUTSIDE);
        }
        Check.due("VALUE 0", x.tell(0, 1, 0, 1), 1);
        Check.due("VALUE 99", x.tell(0, 1, 99, 1), 2);
    }

    @Says(in = "Promise 9", text = "UNKNOWN; OUTSIDE: the AIM (0 to 13), the VALUE, the STEPS")
    private static void p09OutsideSteps() {
        MeshLamps x = new MeshLamps();
        for (int bad : Check.beside(1, 7)) {
            Check.due("STEPS " + bad, x.tell(0, 1, 0, bad), OUTSIDE);
        }
        Check.due("STEPS 1", x.tell(0, 1, 0, 1), 1);
        Check.due("STEPS 7", x.tell(0, 1, 0, 7), 2);
    }

    @Says(in = "Promise 9", text = "STATE: it SLEEPS")
    private static void p09State() {
        MeshLamps x = Scenes.sleeper();
        Check.due("a sleeper", x.tell(1, 0, 0, 1), STATE);
        Check.due("to itself", x.tell(1, 1, 0, 1), STATE);
        Check.due("its friend", x.tell(2, 1, 0, 1), 1);
        x.sleep(1, 0);
        Check.due("awake again: its first one", x.tell(1, 0, 0, 1), 1);
    }

    @Says(in = "Promise 9", text = "NO: it HAS no KEY for it")
    private static void p09No() {
        MeshLamps x = Scenes.onlyOneHasKey(3);
        for (int lamp = 0; lamp < 10; lamp++) {
            Check.due("lamp " + lamp, x.tell(lamp, 0, 0, 1), lamp == 3 ? 1 : NO);
        }
        x.phase();
        x.give(4);
        Check.due("the NEXT one is not for PHASE 1", x.tell(4, 0, 0, 1), NO);
        x.phase();
        Check.due("but for PHASE 2", x.tell(4, 0, 0, 1), 1);
        Check.due("KEY is for PHASE 2, too", x.tell(3, 0, 0, 1), 2);
        x.phase();
        Check.due("it is gone in PHASE 0", x.tell(3, 0, 0, 1), NO);
    }

    @Says(in = "Promise 9", text = "FULL: there are 64 in THE AIR, or it has told 200.")
    private static void p09FullAir() {
        MeshLamps x = Scenes.inAir(63, 1);
        Check.due("63: the 64th", x.tell(5, 0, 0, 1), 1);
        for (int lamp = 0; lamp < 9; lamp++) {
            Check.due("64", x.tell(lamp, 0, 0, 1), FULL);
        }
        MeshLamps y = Scenes.inAir(1, 1);
        for (int n = 2; n <= 64; n++) {
            y.replay(0, 0, 1);
        }
        Check.due("64, by those who listen, too", y.tell(5, 0, 0, 1), FULL);
        y.pass(1);
        Check.due("out of the air: room again", y.tell(5, 0, 0, 1), 1);
    }

    @Says(in = "Promise 9", text = "FULL: there are 64 in THE AIR, or it has told 200.")
    private static void p09ToldTwoHundred() {
        MeshLamps x = new MeshLamps();
        for (int n = 1; n <= 200; n++) {
            Check.due("the " + n + "th", x.tell(9, 0, 0, 1), n);
            if (n % 64 == 0) {
                x.settle();
            }
        }
        Check.due("the 201st", x.tell(9, 0, 0, 1), FULL);
        x.settle();
        Check.due("nor later", x.tell(9, 0, 0, 1), FULL);
        Check.due("it told", x.lamp(9, 3), 200);
        Check.due("another one may", x.tell(8, 0, 0, 1), 1);
    }

    // ---- promise 10: replay

    @Says(in = "Promise 10",
        text = "is to SPEAK at the next TICK a LETTER again that was told by tell(), with its KEY, AIM, VALUE,"
            + " and with 7 STEPS: it comes into THE AIR.")
    private static void p10IntoTheAir() {
        MeshLamps x = new MeshLamps();
        x.set(9, 0, 9);
        x.tell(0, 9, 77, 1);
        x.pass(100);
        x.replay(9, 0, 1);
        int[] due = {19, 101, 0, 1, 7};
        for (int what = 0; what <= 4; what++) {
            Check.due("air(0, " + what + ")", x.air(0, what), due[what]);
        }
        x.pass(1);
        Check.due("its AIM, its VALUE", x.lamp(9, 0), 77);
        Check.due("7 STEPS, though it was told with 1", x.air(0, 4), 6);
        MeshLamps y = new MeshLamps();
        y.tell(0, 9, 77, 1);
        y.phase();
        y.give(9);
        y.phase();
        y.phase();
        y.replay(9, 0, 1);
        y.pass(2);
        Check.due("its KEY of then", y.lamp(9, 6), 1);
    }

    @Says(in = "Promise 10",
        text = "that LAMP and all that are LINKED to it then, by rising numbers all together, HEAR it,"
            + " as far as they do not SLEEP.")
    private static void p10WhoHears() {
        MeshLamps x = new MeshLamps();
        x.link(5, 7, 1);
        x.link(5, 3, 1);
        x.link(5, 8, 1);
        x.link(5, 6, 1);
        x.friend(8, 5);
        x.sleep(8, 1);
        x.tell(0, 1, 1, 1);
        x.settle();
        x.replay(5, 0, 1);
        x.link(5, 9, 1);
        x.link(5, 6, 0);
        x.pass(1);
        Check.due("as many", x.count(3), 4);
        int[] hearers = {3, 5, 7, 9};
        for (int i = 0; i < 4; i++) {
            Check.due("by rising numbers " + i, x.air(i, 0), hearers[i]);
        }
        Check.due("not linked any more", x.lamp(6, 8), 0);
        Check.due("asleep", x.lamp(8, 8), 0);
    }

    @Says(in = "Promise 10",
        text = "that LAMP and all that are LINKED to it then, by rising numbers all together, HEAR it,"
            + " as far as they do not SLEEP.")
    private static void p10OneOrNobodyHears() {
        MeshLamps x = new MeshLamps();
        x.tell(0, 1, 1, 1);
        x.settle();
        x.replay(5, 0, 1);
        Check.due("linked to none: it is spoken", x.pass(1), 1);
        Check.due("that lamp alone hears it", x.lamp(5, 8) * 10 + x.count(3), 11);
        x.settle();
        x.friend(6, 5);
        x.sleep(6, 1);
        x.replay(6, 0, 1);
        Check.due("beside a sleeper: it is spoken", x.pass(1), 1);
        Check.due("nobody hears it", x.lamp(6, 8) + x.count(3), 0);
        Check.due("it is not lost", x.count(8), 0);
        Check.due("nor kept by the friend, which did not hear it", x.lamp(6, 10), 0);
        Check.due("no lamp spoke it", x.lamp(5, 9) * 10 + x.lamp(6, 9), 10);
        x.link(6, 7, 1);
        x.replay(6, 0, 1);
        x.pass(1);
        Check.due("those linked to the sleeper hear it", x.lamp(7, 8), 1);
    }

    @Says(in = "Promise 10", text = "How many are in THE AIR.")
    private static void p10HowMany() {
        MeshLamps x = new MeshLamps();
        x.tell(0, 1, 1, 1);
        x.settle();
        for (int many = 1; many <= 64; many++) {
            Check.due("so many", x.replay(many % 10, 0, 1), many);
        }
        Check.due("64", x.count(3), 64);
        Check.due("all are spoken", x.pass(1), 64);
    }

    @Says(in = "Promise 10", text = "UNKNOWN: both LAMPS")
    private static void p10Unknown() {
        MeshLamps x = new MeshLamps();
        x.tell(0, 1, 1, 1);
        for (int bad : Check.NO_LAMPS) {
            Check.due("beside " + bad, x.replay(bad, 0, 1), UNKNOWN);
            Check.due("source " + bad, x.replay(0, bad, 1), UNKNOWN);
            Check.due("both " + bad, x.replay(bad, bad, 1), UNKNOWN);
        }
        x.tell(9, 1, 1, 1);
        Check.due("0 and 9 are lamps", x.replay(0, 9, 1), 3);
        Check.due("9 and 0 are lamps", x.replay(9, 0, 1), 4);
    }

    @Says(in = "Promise 10", text = "OUTSIDE: no such LETTER was told")
    private static void p10Outside() {
        MeshLamps x = new MeshLamps();
        for (int number : new int[] {-1, 0, 1, 2, 200, 201, Integer.MIN_VALUE, Integer.MAX_VALUE}) {
            Check.due("none told: " + number, x.replay(0, 0, number), OUTSIDE);
        }
        x.tell(0, 1, 1, 1);
        x.tell(0, 1, 1, 1);
        for (int bad : Check.beside(1, 2)) {
            Check.due("two told: " + bad, x.replay(5, 0, bad), OUTSIDE);
        }
        Check.due("the first", x.replay(5, 0, 1), 3);
        Check.due("the second", x.replay(5, 0, 2), 4);
        Check.due("another one told none", x.replay(5, 1, 1), OUTSIDE);
        MeshLamps y = Scenes.toldTwoHundred();
        Check.due("200 told: the 200th", y.replay(5, 0, 200), 1);
        for (int bad : Check.beside(1, 200)) {
            Check.due("200 told: " + bad, y.replay(5, 0, bad), OUTSIDE);
        }
    }

    @Says(in = "Promise 10", text = "OUTSIDE: no such LETTER was told")
    private static void p10RefusedLettersWereNotTold() {
        MeshLamps x = Scenes.inAir(64, 1);
        x.tell(7, 0, 0, 1);
        x.pass(1);
        Check.due("a letter that was refused", x.replay(5, 7, 1), OUTSIDE);
    }

    @Says(in = "Promise 10", text = "FULL: there are 64.")
    private static void p10Full() {
        MeshLamps x = Scenes.inAir(63, 1);
        Check.due("63: the 64th", x.replay(5, 0, 1), 64);
        Check.due("64", x.replay(5, 0, 1), FULL);
        x.pass(1);
        Check.due("room again", x.replay(5, 0, 1), x.count(3));
    }

    // ---- promise 11: pass

    @Says(in = "Promise 11", text = "So many TICKS pass (1 to 100)")
    private static void p11SoMany() {
        for (int ticks = 1; ticks <= 100; ticks++) {
            MeshLamps x = new MeshLamps();
            Check.due("none is spoken", x.pass(ticks), 0);
            Check.due("TICK", x.count(0), ticks);
        }
    }

    @Says(in = "Promise 11", text = "how many times LETTERS were SPOKEN in these (by those who listen, too).")
    private static void p11HowManyTimes() {
        MeshLamps x = Scenes.star();
        Check.due("none", x.pass(1), 0);
        x.tell(0, 5, 1, 2);
        x.replay(0, 0, 1);
        Check.due("by the lamp and by one who listens", x.pass(1), 2);
        Check.due("by the nine that heard it", x.pass(1), 9);
        Check.due("none any more", x.pass(100), 0);
        Check.due("all of these", x.count(6), 11);
        x.tell(0, 5, 1, 2);
        Check.due("all at once", x.pass(2), 10);
        x.friend(0, 1);
        x.tell(0, 5, 1, 2);
        x.sleep(0, 1);
        Check.due("what is lost is not spoken", x.pass(2), 0);
    }

    @Says(in = "Promise 11", text = "OUTSIDE.")
    private static void p11Outside() {
        MeshLamps x = new MeshLamps();
        x.tell(0, 5, 1, 1);
        for (int bad : Check.beside(1, 100)) {
            Check.due("ticks " + bad, x.pass(bad), OUTSIDE);
        }
        Check.due("no tick has passed", x.count(0), 0);
        Check.due("none was spoken", x.count(3), 1);
    }

    // ---- promise 12: settle

    @Says(in = "Promise 12", text = "TICKS pass till THE AIR is empty: how many.")
    private static void p12Empty() {
        MeshLamps x = new MeshLamps();
        Check.due("empty at first: none", x.settle(), 0);
        Check.due("TICK", x.count(0), 0);
        x.pass(7);
        Check.due("empty: none", x.settle(), 0);
        Check.due("TICK", x.count(0), 7);
        x.tell(0, 5, 1, 7);
        Check.due("one", x.settle(), 1);
        Check.due("empty", x.count(3), 0);
        Check.due("air(0, 0)", x.air(0, 0), NONE);
        Check.due("TICK", x.count(0), 8);
    }

    @Says(in = "Promise 12", text = "TICKS pass till THE AIR is empty: how many.")
    private static void p12TheLongestWay() {
        MeshLamps x = new MeshLamps();
        for (int lamp = 0; lamp < 9; lamp++) {
            x.set(lamp, 0, 9);
            x.link(lamp, lamp + 1, 1);
        }
        x.tell(0, 5, 1, 7);
        Check.due("seven steps, six waits of 9", x.settle(), 1 + 6 * 9);
        x.replay(0, 0, 1);
        x.tell(1, 5, 1, 1);
        Check.due("till the last one is out", x.settle(), 1);
        x.tell(0, 5, 1, 3);
        x.pass(1);
        x.tell(0, 5, 1, 2);
        Check.due("the rest of the way", x.settle(), 2 * 9);
        Check.due("empty", x.count(3), 0);
    }

    @Says(in = "Promise 12", text = "TICKS pass till THE AIR is empty: how many.")
    private static void p12FullAir() {
        Check.due("64 at one TICK", Scenes.inAir(64, 7).settle(), 1);
        MeshLamps x = new MeshLamps();
        for (int one = 0; one < 10; one++) {
            x.set(one, 2, 0);
            for (int other = 0; other < one; other++) {
                x.link(one, other, 1);
            }
        }
        x.tell(0, 5, 1, 7);
        Check.due("full nearly all the way", x.settle(), 7);
        Check.due("empty", x.count(3), 0);
        MeshLamps y = Scenes.inAir(64, 7);
        for (int lamp = 0; lamp < 5; lamp++) {
            y.friend(lamp, 9);
            y.sleep(lamp, 1);
        }
        Check.due("what is lost goes out, too", y.settle(), 1);
        Check.due("lost", y.count(8), 64);
    }
}
