/** Each sentence of Terms 2 and of promises 6 to 8 that names a boundary, with a test of its own. */
public final class KeyEdgesTest {
    private static final int UNKNOWN = -1, OUTSIDE = -2, STATE = -3, NO = -5;

    public static void main(String[] args) throws IllegalAccessException {
        Check.sentences(KeyEdgesTest.class);
        Check.end();
    }

    /** How many have the key, or the next one. */
    private static int have(MeshLamps x, int what) {
        int many = 0;
        for (int lamp = 0; lamp < 10; lamp++) {
            many += x.has(lamp, what);
        }
        return many;
    }

    private static void give(MeshLamps x, int... lamps) {
        for (int lamp : lamps) {
            x.give(lamp);
        }
    }

    private static void phases(MeshLamps x, int many) {
        for (int i = 0; i < many; i++) {
            x.phase();
        }
    }

    // ---- terms 2: KEY and PHASE

    @Says(in = "Terms 2", text = "KEY is a number, 0 at first; PHASE is 0 at first.")
    private static void t2AtFirst() {
        MeshLamps x = new MeshLamps();
        Check.due("KEY", x.count(1), 0);
        Check.due("PHASE", x.count(2), 0);
    }

    @Says(in = "Terms 2", text = "In PHASES 1 and 2 there is a NEXT KEY, too, one greater.")
    private static void t2OneGreater() {
        MeshLamps x = new MeshLamps();
        for (int key = 0; key < 80; key++) {
            Check.due("KEY in PHASE 0", x.count(1), key);
            x.phase();
            Check.due("KEY in PHASE 1", x.count(1), key);
            x.phase();
            Check.due("KEY in PHASE 2", x.count(1), key);
            x.phase();
        }
        Check.due("one greater each time", x.count(1), 80);
    }

    @Says(in = "Terms 2", text = "In PHASES 1 and 2 there is a NEXT KEY, too, one greater.")
    private static void t2NoNextInPhaseZero() {
        MeshLamps x = new MeshLamps();
        Check.due("none to give in PHASE 0", x.give(0), STATE);
        x.phase();
        Check.due("one in PHASE 1", x.give(0), 1);
        x.phase();
        Check.due("the same one in PHASE 2", x.give(1), 2);
        x.phase();
        Check.due("none in PHASE 0", x.give(2), STATE);
        Check.due("none has it", have(x, 1), 0);
    }

    @Says(in = "Terms 2", text = "A LAMP HAS KEY, or not (at first all do)")
    private static void t2AllHaveKeyAtFirst() {
        MeshLamps x = new MeshLamps();
        for (int lamp = 0; lamp < 10; lamp++) {
            Check.due("has KEY " + lamp, x.has(lamp, 0), 1);
            Check.due("and tells by it", x.tell(lamp, 0, 0, 1), 1);
        }
    }

    @Says(in = "Terms 2", text = "in PHASES 1 and 2 it HAS the NEXT one, or not (as PHASE 1 begins none does)")
    private static void t2NoneHasNextAsPhaseOneBegins() {
        MeshLamps x = new MeshLamps();
        x.phase();
        Check.due("as PHASE 1 begins", have(x, 1), 0);
        give(x, 0, 1, 2, 3, 4, 5, 6, 7, 8, 9);
        Check.due("all ten", have(x, 1), 10);
        x.phase();
        Check.due("they have it in PHASE 2", have(x, 1), 10);
        phases(x, 2);
        Check.due("as PHASE 1 begins again", have(x, 1), 0);
        Check.due("the first one that is given it", x.give(9), 1);
    }

    @Says(in = "Terms 2",
        text = "When PHASE 2 ends, the NEXT one is KEY, and just those that had the NEXT one HAVE KEY.")
    private static void t2JustThoseHaveKey() {
        for (int lamp = 0; lamp < 10; lamp++) {
            MeshLamps x = new MeshLamps();
            x.phase();
            x.give(lamp);
            x.phase();
            Check.due("till then all have KEY", have(x, 0), 10);
            x.phase();
            Check.due("KEY", x.count(1), 1);
            Check.due("one alone", have(x, 0), 1);
            Check.due("that one", x.has(lamp, 0), 1);
        }
    }

    @Says(in = "Terms 2",
        text = "When PHASE 2 ends, the NEXT one is KEY, and just those that had the NEXT one HAVE KEY.")
    private static void t2NoneOrAllHaveKey() {
        MeshLamps x = new MeshLamps();
        phases(x, 3);
        Check.due("none had the NEXT one", have(x, 0), 0);
        x.phase();
        give(x, 0, 1, 2, 3, 4);
        x.phase();
        give(x, 5, 6, 7, 8, 9);
        Check.due("none has KEY still", have(x, 0), 0);
        x.phase();
        Check.due("all had the NEXT one, some from PHASE 2 on", have(x, 0), 10);
        phases(x, 3);
        Check.due("none again", have(x, 0), 0);
    }

    /** Lamp 1 has KEY alone and lamp 2 the NEXT one alone; lamp 0 is linked to both and has what it is given. */
    private static MeshLamps between(int phase, boolean key, boolean next) {
        MeshLamps x = new MeshLamps();
        x.link(0, 1, 1);
        x.link(0, 2, 1);
        x.phase();
        x.give(1);
        if (key) {
            x.give(0);
        }
        phases(x, 3);
        x.give(2);
        if (next) {
            x.give(0);
        }
        phases(x, phase - 1);
        return x;
    }

    /** To whom the letter that lamp 0 tells is new: lamp 1 (by KEY), lamp 2 (by the NEXT one). */
    private static void newTo(String what, MeshLamps x, int one, int two) {
        Check.due(what + ": it is told", x.tell(0, 9, 1, 1), 1);
        x.pass(1);
        Check.due(what + ": new to lamp 1", x.lamp(1, 8), one);
        Check.due(what + ": new to lamp 2", x.lamp(2, 8), two);
        Check.due(what + ": strange to the other", x.lamp(1, 6) * 10 + x.lamp(2, 6), (1 - one) * 10 + 1 - two);
    }

    @Says(in = "Terms 2", text = "The KEY of a LETTER is told as it is told")
    private static void t2KeyOfThen() {
        MeshLamps x = between(1, true, true);
        x.tell(0, 9, 1, 1);
        x.phase();
        x.pass(1);
        Check.due("told in PHASE 1, spoken in PHASE 2: by KEY", x.lamp(1, 8) * 10 + x.lamp(2, 6), 11);
        x.tell(0, 9, 1, 1);
        x.phase();
        x.pass(1);
        Check.due("told in PHASE 2, spoken in PHASE 0: by what was the NEXT one", x.lamp(1, 6) * 10 + x.lamp(2, 8), 11);
        x.replay(2, 0, 1);
        x.pass(1);
        Check.due("spoken again: by the KEY of then", x.lamp(2, 6), 2);
    }

    @Says(in = "Terms 2", text = "the NEXT one, in PHASE 2, if the SOURCE HAS that")
    private static void t2ToldByNext() {
        newTo("PHASE 2, both keys", between(2, true, true), 0, 1);
        newTo("PHASE 2, the NEXT one alone", between(2, false, true), 0, 1);
        newTo("PHASE 1, both keys", between(1, true, true), 1, 0);
    }

    @Says(in = "Terms 2", text = "else KEY, if it HAS that")
    private static void t2ToldByKey() {
        newTo("PHASE 2, KEY alone", between(2, true, false), 1, 0);
        newTo("PHASE 1, KEY alone", between(1, true, false), 1, 0);
        MeshLamps x = new MeshLamps();
        x.link(0, 1, 1);
        x.tell(0, 1, 5, 1);
        x.settle();
        Check.due("PHASE 0", x.lamp(1, 0), 5);
    }

    @Says(in = "Terms 2", text = "else it cannot be told.")
    private static void t2CannotBeTold() {
        Check.due("PHASE 1, neither", between(1, false, false).tell(0, 9, 1, 1), NO);
        Check.due("PHASE 1, the NEXT one alone", between(1, false, true).tell(0, 9, 1, 1), NO);
        Check.due("PHASE 2, neither", between(2, false, false).tell(0, 9, 1, 1), NO);
        Check.due("PHASE 0, none", Scenes.onlyOneHasKey(1).tell(0, 9, 1, 1), NO);
        Check.due("PHASE 0, the one that has it", Scenes.onlyOneHasKey(0).tell(0, 9, 1, 1), 1);
    }

    @Says(in = "Terms 2", text = "A LAMP KNOWS a LETTER, if this has KEY and the LAMP HAS KEY")
    private static void t2KnowsByKey() {
        MeshLamps x = Scenes.onlyOneHasKey(0);
        x.link(0, 1, 1);
        x.tell(0, 1, 5, 1);
        x.settle();
        Check.due("no KEY: strange", x.lamp(1, 6), 1);
        Check.due("no KEY: not taken", x.lamp(1, 0), 0);
        x.phase();
        x.give(1);
        x.tell(0, 1, 5, 1);
        x.settle();
        Check.due("the NEXT one does not open what has KEY", x.lamp(1, 6), 2);
        MeshLamps y = new MeshLamps();
        y.tell(0, 9, 5, 1);
        y.settle();
        y.phase();
        give(y, 0, 9);
        phases(y, 2);
        y.replay(9, 0, 1);
        y.pass(1);
        Check.due("KEY does not open what has the one before", y.lamp(9, 6), 1);
    }

    @Says(in = "Terms 2", text = "or it has the NEXT one (in PHASES 1 and 2) and the LAMP HAS that")
    private static void t2KnowsByNext() {
        MeshLamps x = new MeshLamps();
        x.link(0, 1, 1);
        x.link(0, 2, 1);
        x.phase();
        give(x, 0, 2);
        x.phase();
        x.tell(0, 9, 5, 1);
        x.pass(1);
        Check.due("KEY does not open what has the NEXT one", x.lamp(1, 6), 1);
        Check.due("the NEXT one does", x.lamp(2, 8), 1);
    }

    @Says(in = "Terms 2", text = "all as it is when that is asked.")
    private static void t2AsItIsWhenAsked() {
        MeshLamps x = new MeshLamps();
        x.link(0, 1, 1);
        x.phase();
        x.give(0);
        x.phase();
        x.tell(0, 1, 5, 1);
        x.give(1);
        x.pass(1);
        Check.due("given after it was told, before it is heard", x.lamp(1, 0), 5);
        x.tell(0, 1, 6, 1);
        x.phase();
        x.pass(1);
        Check.due("the NEXT one is KEY when it is heard", x.lamp(1, 0), 6);
        x.tell(0, 1, 7, 1);
        x.phase();
        give(x, 0, 1);
        phases(x, 2);
        x.pass(1);
        Check.due("KEY is gone when it is heard", x.lamp(1, 0), 6);
        Check.due("strange", x.lamp(1, 6), 1);
    }

    // ---- promise 6: phase

    @Says(in = "Promise 6", text = "From PHASE 0 to 1, 1 to 2, 2 to 0: the PHASE that it is then.")
    private static void p06RoundAndRound() {
        MeshLamps x = new MeshLamps();
        for (int times = 1; times <= 30; times++) {
            Check.due("phase, the " + times + "th time", x.phase(), times % 3);
            Check.due("PHASE", x.count(2), times % 3);
            Check.due("KEY", x.count(1), times / 3);
        }
    }

    // ---- promise 7: give

    @Says(in = "Promise 7", text = "A LAMP HAS the NEXT KEY: how many HAVE it.")
    private static void p07HowMany() {
        MeshLamps x = new MeshLamps();
        x.phase();
        for (int many = 1; many <= 10; many++) {
            if (many == 6) {
                x.phase();
            }
            Check.due("give", x.give(10 - many), many);
            Check.due("again: no more", x.give(10 - many), many);
            Check.due("it has it", x.has(10 - many, 1), 1);
        }
        Check.due("ten at most", x.give(5), 10);
    }

    @Says(in = "Promise 7", text = "UNKNOWN; STATE: PHASE is 0.")
    private static void p07Unknown() {
        MeshLamps x = new MeshLamps();
        for (int phase = 0; phase <= 2; phase++) {
            for (int bad : Check.NO_LAMPS) {
                Check.due("lamp " + bad + " in PHASE " + phase, x.give(bad), UNKNOWN);
            }
            x.phase();
        }
    }

    @Says(in = "Promise 7", text = "UNKNOWN; STATE: PHASE is 0.")
    private static void p07State() {
        MeshLamps x = new MeshLamps();
        for (int lamp = 0; lamp < 10; lamp++) {
            Check.due("PHASE 0", x.give(lamp), STATE);
        }
        x.phase();
        Check.due("PHASE 1", x.give(0), 1);
        x.phase();
        Check.due("PHASE 2", x.give(9), 2);
        x.phase();
        Check.due("PHASE 0 again", x.give(0), STATE);
    }

    // ---- promise 8: has

    @Says(in = "Promise 8", text = "Whether a LAMP HAS KEY (what = 0: 1, 0)")
    private static void p08Key() {
        for (int lamp = 0; lamp < 10; lamp++) {
            Check.due("at first", new MeshLamps().has(lamp, 0), 1);
            Check.due("none was given", Scenes.onlyOneHasKey(9 - lamp).has(lamp, 0), 0);
            Check.due("one was given", Scenes.onlyOneHasKey(lamp).has(lamp, 0), 1);
        }
    }

    @Says(in = "Promise 8", text = "the NEXT one (1: 1, 0; 0 in PHASE 0)")
    private static void p08Next() {
        for (int lamp = 0; lamp < 10; lamp++) {
            MeshLamps x = new MeshLamps();
            Check.due("PHASE 0", x.has(lamp, 1), 0);
            x.phase();
            Check.due("not given in PHASE 1", x.has(lamp, 1), 0);
            x.give(lamp);
            Check.due("given in PHASE 1", x.has(lamp, 1), 1);
            Check.due("another one has not", x.has(9 - lamp, 1), 0);
            x.phase();
            Check.due("PHASE 2", x.has(lamp, 1), 1);
            x.phase();
            Check.due("PHASE 0 again, though it has KEY", x.has(lamp, 1), 0);
            Check.due("it has KEY", x.has(lamp, 0), 1);
        }
    }

    @Says(in = "Promise 8", text = "UNKNOWN; OUTSIDE.")
    private static void p08Unknown() {
        for (int bad : Check.NO_LAMPS) {
            Check.due("lamp " + bad, new MeshLamps().has(bad, 0), UNKNOWN);
            Check.due("lamp " + bad, new MeshLamps().has(bad, 1), UNKNOWN);
        }
    }

    @Says(in = "Promise 8", text = "UNKNOWN; OUTSIDE.")
    private static void p08Outside() {
        for (int bad : Check.beside(0, 1)) {
            Check.due("what is " + bad, new MeshLamps().has(0, bad), OUTSIDE);
            Check.due("what is " + bad, new MeshLamps().has(9, bad), OUTSIDE);
        }
    }
}
