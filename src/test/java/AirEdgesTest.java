/** Each sentence of Terms 3 that names a boundary, with a test of its own, and the promise that it counts with. */
public final class AirEdgesTest {
    private static final int FULL = -4, NONE = -6;

    public static void main(String[] args) throws IllegalAccessException {
        Check.sentences(AirEdgesTest.class);
        Check.end();
    }

    /** Lamps 0, 1 and 2 in a row. */
    private static MeshLamps row() {
        MeshLamps x = new MeshLamps();
        x.link(0, 1, 1);
        x.link(1, 2, 1);
        return x;
    }

    /** One who listens beside a lamp speaks a letter again; ticks pass till the air is empty. */
    private static void hearAgain(MeshLamps x, int lamp, int source, int number) {
        x.replay(lamp, source, number);
        x.settle();
    }

    // ---- the air, and ticks

    @Says(in = "Terms 3 for Promise 9", text = "a LETTER with STEPS (1 to 7)")
    private static void t3Steps() {
        MeshLamps x = new MeshLamps();
        for (int lamp = 0; lamp < 9; lamp++) {
            x.link(lamp, lamp + 1, 1);
        }
        for (int steps = 1; steps <= 7; steps++) {
            x.tell(0, 9, 1, steps);
            Check.due("STEPS", x.air(0, 4), steps);
            Check.due("spoken once for each step", x.pass(20), steps);
            Check.due("heard as far as that", x.lamp(steps, 8), 1);
            Check.due("and no farther", x.lamp(steps + 1, 8), 0);
        }
    }

    @Says(in = "Terms 3 for Promise 9", text = "64 at most")
    private static void t3SixtyFourTold() {
        MeshLamps x = Scenes.inAir(63, 1);
        Check.due("63", x.count(3), 63);
        Check.due("one more", x.tell(5, 0, 0, 1), 1);
        Check.due("64", x.count(3), 64);
        Check.due("no more", x.tell(6, 0, 0, 1), FULL);
        Check.due("64 still", x.count(3), 64);
        Check.due("all are spoken", x.pass(1), 64);
        Check.due("none is left", x.count(3), 0);
        Check.due("there is room again", x.tell(6, 0, 0, 1), 1);
    }

    @Says(in = "Terms 3 for Promise 11", text = "TICKS pass one by one: TICK is one more")
    private static void t3OneByOne() {
        MeshLamps x = row();
        x.tell(0, 2, 5, 2);
        x.pass(1);
        Check.due("TICK", x.count(0), 1);
        Check.due("spoken by 0 at this TICK", x.lamp(1, 8), 1);
        Check.due("by 1 not before the next one", x.lamp(2, 8), 0);
        x.pass(1);
        Check.due("TICK", x.count(0), 2);
        Check.due("then", x.lamp(2, 8), 1);
        MeshLamps y = row();
        y.tell(0, 2, 5, 2);
        Check.due("both in one call", y.pass(2), 2);
        Check.due("the same", y.lamp(2, 8), 1);
    }

    @Says(in = "Terms 3 for Promise 11",
        text = "then all that is to be SPOKEN at that TICK is, in the order in which it came into THE AIR")
    private static void t3InTheOrderInWhichItCame() {
        MeshLamps x = new MeshLamps();
        x.link(9, 5, 1);
        x.link(1, 5, 1);
        x.link(4, 5, 1);
        x.tell(9, 0, 0, 1);
        x.tell(1, 0, 0, 1);
        x.replay(5, 9, 1);
        x.tell(4, 0, 0, 1);
        x.tell(1, 0, 0, 1);
        Check.due("all of them", x.pass(1), 5);
        int[] sources = {9, 1, 4, 1};
        for (int i = 0; i < 4; i++) {
            Check.due("heard in that order " + i, x.mind(5, i, 0), sources[i]);
        }
        Check.due("the latest of 1", x.mind(5, 3, 1), 2);
    }

    @Says(in = "Terms 3 for Promise 11",
        text = "then all that is to be SPOKEN at that TICK is, in the order in which it came into THE AIR")
    private static void t3WhatIsDueLaterStays() {
        MeshLamps x = new MeshLamps();
        x.link(0, 1, 1);
        x.set(1, 0, 9);
        x.tell(0, 5, 0, 2);
        x.pass(1);
        x.tell(2, 5, 0, 1);
        x.tell(3, 5, 0, 1);
        Check.due("two are due", x.pass(1), 2);
        Check.due("one stays", x.count(3), 1);
        Check.due("it is due at 10", x.air(0, 1), 10);
        Check.due("not before that", x.pass(7), 0);
        Check.due("the TICK before", x.count(0), 9);
        Check.due("at that TICK", x.pass(1), 1);
    }

    /** So many letters of lamp 0 with two steps in the air, and all others would pass each of them on. */
    private static MeshLamps crowdedStar(int many) {
        MeshLamps x = Scenes.star();
        for (int n = 1; n <= many; n++) {
            x.tell(0, 5, 1, 2);
        }
        return x;
    }

    @Says(in = "Terms 3 for Promise 11", text = "it goes out of THE AIR first")
    private static void t3GoesOutFirst() {
        MeshLamps x = crowdedStar(64);
        x.pass(1);
        Check.due("each leaves its place to one that is passed on", x.count(3), 64);
        Check.due("by the first one that hears it", x.air(0, 0) * 100 + x.air(0, 3), 101);
        Check.due("each time", x.air(63, 0) * 100 + x.air(63, 3), 164);
        Check.due("what the other eight would pass on is lost", x.count(7), 64 * 8);
    }

    @Says(in = "Terms 3 for Promise 11", text = "it goes out of THE AIR first")
    private static void t3OnlyItsOwnPlaceIsFree() {
        MeshLamps x = crowdedStar(56);
        x.pass(1);
        Check.due("56: the first letter is passed on by all nine", x.air(8, 0) * 100 + x.air(8, 3), 901);
        Check.due("the second by one", x.air(9, 3) * 100 + x.air(10, 3), 203);
        Check.due("lost", x.count(7), 55 * 8);
        MeshLamps y = crowdedStar(57);
        y.pass(1);
        Check.due("57: the first letter is passed on by eight", y.air(7, 0) * 100 + y.air(7, 3), 801);
        Check.due("the second by one", y.air(8, 3) * 100 + y.air(9, 3), 203);
        Check.due("lost", y.count(7), 1 + 56 * 8);
    }

    @Says(in = "Terms 3 for Promise 19", text = "by a LAMP that SLEEPS then it is not SPOKEN (it is lost)")
    private static void t3SleepersLetterIsLost() {
        MeshLamps x = row();
        x.friend(0, 1);
        x.tell(0, 1, 5, 7);
        x.sleep(0, 1);
        Check.due("not spoken", x.pass(1), 0);
        Check.due("nor counted", x.lamp(0, 9) + x.count(6), 0);
        Check.due("not heard", x.lamp(1, 8), 0);
        Check.due("out of the air", x.count(3), 0);
        Check.due("lost", x.count(8), 1);
        Check.due("not as the air had 64", x.count(7), 0);
        x.sleep(0, 0);
        Check.due("it does not come back", x.pass(10), 0);
    }

    @Says(in = "Terms 3 for Promise 19", text = "by a LAMP that SLEEPS then it is not SPOKEN (it is lost)")
    private static void t3OnlyWhoSleepsThen() {
        MeshLamps x = row();
        x.friend(0, 1);
        x.tell(0, 1, 5, 1);
        x.sleep(0, 1);
        x.sleep(0, 0);
        Check.due("awake again by then", x.pass(1), 1);
        Check.due("taken", x.lamp(1, 0), 5);
        Check.due("not lost", x.count(8), 0);
        x.friend(1, 2);
        x.tell(0, 2, 6, 2);
        x.pass(1);
        x.sleep(1, 1);
        Check.due("what it would pass on is lost, too", x.pass(1), 0);
        Check.due("lost", x.count(8), 1);
    }

    // ---- who hears

    @Says(in = "Terms 3 for Promise 11",
        text = "each LAMP that is LINKED to it, by rising numbers, and does not SLEEP, HEARS it at once")
    private static void t3WhoHears() {
        MeshLamps x = new MeshLamps();
        x.link(5, 9, 1);
        x.link(5, 0, 1);
        x.link(5, 4, 1);
        x.link(5, 6, 1);
        x.friend(4, 5);
        x.sleep(4, 1);
        x.tell(5, 1, 1, 2);
        x.pass(1);
        Check.due("three of the four", x.count(3), 3);
        Check.due("by rising numbers", x.air(0, 0) * 100 + x.air(1, 0) * 10 + x.air(2, 0), 69);
        Check.due("not who sleeps", x.lamp(4, 8) + x.lamp(4, 7) + x.lamp(4, 6), 0);
        Check.due("not itself", x.lamp(5, 8) + x.lamp(5, 7), 0);
        Check.due("not who is not linked", x.lamp(1, 8), 0);
    }

    @Says(in = "Terms 3 for Promise 11",
        text = "each LAMP that is LINKED to it, by rising numbers, and does not SLEEP, HEARS it at once")
    private static void t3NobodyHears() {
        MeshLamps x = new MeshLamps();
        x.tell(5, 1, 1, 7);
        Check.due("not linked to any: it is spoken all the same", x.pass(1), 1);
        x.link(5, 4, 1);
        x.friend(4, 3);
        x.sleep(4, 1);
        x.tell(5, 4, 1, 7);
        Check.due("all sleep: it is spoken all the same", x.pass(1), 1);
        Check.due("nobody passes it on", x.count(3), 0);
        Check.due("not lost", x.count(8) + x.count(7), 0);
        Check.due("it spoke", x.lamp(5, 9), 2);
    }

    @Says(in = "Terms 3 for Promise 13", text = "(a) it does not KNOW it: it is STRANGE to it, and that is all")
    private static void t3StrangeAndThatIsAll() {
        MeshLamps x = Scenes.onlyOneHasKey(0);
        x.link(0, 1, 1);
        x.friend(2, 1);
        x.set(1, 3, 1);
        x.set(2, 3, 1);
        x.sleep(2, 1);
        x.tell(0, 10, 5, 7);
        x.pass(1);
        Check.due("strange", x.lamp(1, 6), 1);
        Check.due("not new, not stale", x.lamp(1, 8) + x.lamp(1, 7), 0);
        Check.due("not in mind", x.lamp(1, 11), 0);
        Check.due("not taken, not old", x.lamp(1, 4) + x.lamp(1, 5) + x.lamp(1, 0), 0);
        Check.due("not kept", x.lamp(2, 10), 0);
        Check.due("not passed on", x.count(3), 0);
        Check.due("not lost", x.count(7), 0);
    }

    @Says(in = "Terms 3 for Promise 13", text = "(a) it does not KNOW it: it is STRANGE to it, and that is all")
    private static void t3StrangeBeforeStale() {
        MeshLamps x = row();
        x.tell(0, 5, 5, 1);
        x.settle();
        x.phase();
        x.give(0);
        x.phase();
        x.phase();
        hearAgain(x, 1, 0, 1);
        Check.due("in mind, but not known: strange", x.lamp(1, 6), 1);
        Check.due("not stale", x.lamp(1, 7), 0);
        Check.due("it stays in mind", x.lamp(1, 11), 1);
    }

    @Says(in = "Terms 3 for Promise 13",
        text = "(b) it is one of those that it has in MIND: it is STALE, and that is all")
    private static void t3StaleAndThatIsAll() {
        MeshLamps x = new MeshLamps();
        x.set(1, 2, 2);
        x.friend(2, 1);
        x.set(1, 3, 1);
        x.set(2, 3, 1);
        x.sleep(2, 1);
        x.tell(0, 10, 5, 1);
        x.tell(3, 10, 6, 1);
        x.settle();
        hearAgain(x, 1, 0, 1);
        hearAgain(x, 1, 3, 1);
        Check.due("both are new", x.lamp(1, 8), 2);
        x.replay(1, 0, 1);
        x.pass(1);
        Check.due("the oldest one in mind: stale", x.lamp(1, 7), 1);
        Check.due("it does not become the latest", x.mind(1, 0, 0) * 10 + x.mind(1, 1, 0), 3);
        Check.due("not new", x.lamp(1, 8), 2);
        Check.due("not taken again, not old", x.lamp(1, 4) * 10 + x.lamp(1, 5), 20);
        Check.due("not kept again", x.lamp(2, 10), 2);
        Check.due("not passed on", x.count(3), 0);
        x.replay(1, 3, 1);
        x.pass(1);
        Check.due("the latest one in mind: stale", x.lamp(1, 7), 2);
    }

    // ---- what is new

    @Says(in = "Terms 3 for Promise 13", text = "(c) else it is NEW.")
    private static void t3ElseItIsNew() {
        MeshLamps x = row();
        x.tell(2, 5, 0, 1);
        x.tell(0, 5, 0, 1);
        x.tell(0, 5, 0, 1);
        x.pass(1);
        Check.due("another source, another number: new each", x.lamp(1, 8), 3);
        Check.due("neither stale nor strange", x.lamp(1, 7) + x.lamp(1, 6), 0);
        x.set(1, 2, 2);
        hearAgain(x, 1, 2, 1);
        Check.due("not in mind any more: new again", x.lamp(1, 8), 4);
    }

    @Says(in = "Terms 3 for Promise 15",
        text = "It comes into its MIND as the latest one; if these are more than MIND, the oldest ones go")
    private static void t3OldestGo() {
        for (int most = 1; most <= 8; most++) {
            MeshLamps x = new MeshLamps();
            x.link(0, 1, 1);
            x.set(1, 2, most);
            for (int n = 1; n <= most; n++) {
                x.tell(0, 5, 0, 1);
            }
            x.settle();
            Check.due("just as many as MIND", x.lamp(1, 11), most);
            Check.due("none has gone", x.mind(1, 0, 1), 1);
            x.tell(0, 5, 0, 1);
            x.settle();
            Check.due("no more than MIND", x.lamp(1, 11), most);
            Check.due("the oldest has gone", x.mind(1, 0, 1), 2);
            Check.due("the latest", x.mind(1, most - 1, 1), most + 1);
            hearAgain(x, 1, 0, 1);
            Check.due("what has gone is new again", x.lamp(1, 8), most + 2);
            Check.due("and the latest", x.mind(1, most - 1, 1), 1);
        }
    }

    @Says(in = "Terms 3 for Promise 15", text = "(with a MIND of 0 that one itself)")
    private static void t3MindOfZero() {
        MeshLamps x = row();
        x.set(1, 2, 0);
        x.tell(0, 1, 5, 2);
        x.pass(1);
        Check.due("none in mind", x.lamp(1, 11), 0);
        Check.due("none such", x.mind(1, 0, 0), NONE);
        Check.due("but new, taken", x.lamp(1, 8) * 10 + x.lamp(1, 4), 11);
        Check.due("and passed on", x.count(3), 1);
        x.settle();
        hearAgain(x, 1, 0, 1);
        Check.due("new each time, never stale", x.lamp(1, 8) * 10 + x.lamp(1, 7), 20);
    }

    @Says(in = "Terms 3 for Promise 10", text = "If the LAMP is the SOURCE, that is all.")
    private static void t3SourceHearsItsOwn() {
        MeshLamps x = new MeshLamps();
        x.set(0, 3, 1);
        x.friend(1, 0);
        x.set(1, 3, 1);
        x.sleep(1, 1);
        x.set(0, 2, 0);
        x.tell(0, 10, 5, 7);
        x.settle();
        x.set(0, 2, 4);
        x.replay(0, 0, 1);
        x.pass(1);
        Check.due("forgotten, so new", x.lamp(0, 8), 1);
        Check.due("in mind", x.lamp(0, 11), 1);
        Check.due("not taken", x.lamp(0, 4) + x.lamp(0, 0) + x.taken(0, 0), 0);
        Check.due("not refused", x.lamp(0, 5), 0);
        Check.due("not kept", x.lamp(1, 10), 0);
        Check.due("not passed on", x.count(3), 0);
    }

    @Says(in = "Terms 3 for Promise 13", text = "If the LAMP is MEANT, it TAKES it.")
    private static void t3OnlyWhoIsMeantTakes() {
        MeshLamps x = Scenes.star();
        x.set(2, 3, 2);
        x.set(3, 3, 13);
        x.tell(0, 11, 5, 1);
        x.tell(0, 9, 6, 1);
        x.settle();
        Check.due("has the group", x.lamp(2, 0), 5);
        Check.due("has all others", x.lamp(3, 4), 0);
        Check.due("the last lamp", x.lamp(9, 0), 6);
        Check.due("the one before", x.lamp(8, 4), 0);
    }

    @Says(in = "Terms 3 for Promise 13",
        text = "For each LAMP that SLEEPS, has it as FRIEND, is MEANT, and is not the SOURCE, the LETTER is KEPT")
    private static void t3ForWhomItIsKept() {
        MeshLamps x = new MeshLamps();
        for (int lamp = 0; lamp < 10; lamp++) {
            x.set(lamp, 3, lamp == 6 ? 13 : 2);
            x.friend(lamp, lamp == 5 ? 3 : lamp == 2 ? 8 : 2);
        }
        x.tell(4, 11, 9, 1);
        x.settle();
        for (int lamp = 0; lamp < 10; lamp++) {
            x.sleep(lamp, lamp == 2 || lamp == 3 ? 0 : 1);
        }
        hearAgain(x, 2, 4, 1);
        Check.due("2, the friend, is awake and takes it itself", x.lamp(2, 10) * 10 + x.lamp(2, 4), 1);
        Check.due("not for 3, which is awake", x.lamp(3, 10), 0);
        Check.due("not for 4, the source", x.lamp(4, 10), 0);
        Check.due("not for 5, which has another friend", x.lamp(5, 10), 0);
        Check.due("not for 6, which is not meant", x.lamp(6, 10), 0);
        for (int lamp : new int[] {0, 1, 7, 8, 9}) {
            Check.due("for each other one: " + lamp, x.lamp(lamp, 10), 1);
        }
    }

    @Says(in = "Terms 3 for Promise 13",
        text = "as the latest of up to 3 for that LAMP; the oldest one goes, if there are more")
    private static void t3ThreeAreKept() {
        for (int many = 0; many <= 5; many++) {
            MeshLamps x = Scenes.sleeper();
            for (int n = 1; n <= many; n++) {
                x.tell(n % 2 == 0 ? 0 : 3, 1, 10 * n, 1);
            }
            x.settle();
            Check.due("kept of " + many, x.lamp(1, 10), Math.min(many, 3));
            x.sleep(1, 0);
            Check.due("taken", x.lamp(1, 4), Math.min(many, 3));
            Check.due("the latest is the light", x.lamp(1, 0), 10 * many);
        }
    }

    @Says(in = "Terms 3 for Promise 13",
        text = "as the latest of up to 3 for that LAMP; the oldest one goes, if there are more")
    private static void t3TheOldestOneGoes() {
        MeshLamps x = Scenes.sleeper();
        x.tell(3, 1, 30, 1);
        for (int n = 1; n <= 2; n++) {
            x.tell(0, 1, n, 1);
        }
        x.settle();
        MeshLamps y = Scenes.sleeper();
        y.tell(3, 1, 30, 1);
        for (int n = 1; n <= 3; n++) {
            y.tell(0, 1, n, 1);
        }
        y.settle();
        x.sleep(1, 0);
        y.sleep(1, 0);
        Check.due("the third from the end stays", x.taken(1, 3), 1);
        Check.due("the fourth from the end has gone", y.taken(1, 3), 0);
        Check.due("the others stay", y.taken(1, 0), 3);
    }

    @Says(in = "Terms 3 for Promise 11", text = "If STEPS are more than 1, and it PASSES letters on")
    private static void t3PassedOn() {
        MeshLamps x = row();
        x.tell(0, 5, 0, 1);
        x.pass(1);
        Check.due("one STEP: not passed on", x.count(3), 0);
        x.tell(0, 5, 0, 2);
        x.pass(1);
        Check.due("two STEPS: passed on", x.count(3), 1);
        x.settle();
        x.set(1, 1, 0);
        x.tell(0, 5, 0, 7);
        x.pass(1);
        Check.due("it does not pass letters on", x.count(3), 0);
        Check.due("but heard them all", x.lamp(1, 8), 3);
        Check.due("none is lost", x.count(7), 0);
    }

    @Says(in = "Terms 3 for Promise 16", text = "to be SPOKEN by it at TICK and WAIT, added, with one STEP less")
    private static void t3TickAndWaitAdded() {
        for (int wait = 1; wait <= 9; wait++) {
            for (int steps = 2; steps <= 7; steps++) {
                MeshLamps x = row();
                x.set(1, 0, wait);
                x.pass(50);
                x.tell(0, 5, 0, steps);
                x.pass(1);
                Check.due("by it", x.air(0, 0), 1);
                Check.due("at TICK and WAIT", x.air(0, 1), 51 + wait);
                Check.due("one STEP less", x.air(0, 4), steps - 1);
                Check.due("the same letter", x.air(0, 2) * 10 + x.air(0, 3), 1);
            }
        }
    }

    /** At tick 1, 60 are in the air that are due at tick 10; what lamp 0 tells is heard by 5, then by 6. */
    private static MeshLamps sixtyWait() {
        MeshLamps x = new MeshLamps();
        for (int lamp = 1; lamp <= 4; lamp++) {
            x.link(9, lamp, 1);
            x.set(lamp, 0, 9);
        }
        x.link(0, 5, 1);
        x.link(0, 6, 1);
        for (int n = 1; n <= 60 / 4; n++) {
            x.tell(9, 8, 0, 2);
        }
        x.pass(1);
        return x;
    }

    @Says(in = "Terms 3 for Promise 19", text = "(if there are 64 in THE AIR already, it is lost)")
    private static void t3TheLastPlaceIsGiven() {
        MeshLamps x = sixtyWait();
        Check.due("60 wait", x.count(3), 60);
        x.tell(0, 7, 0, 2);
        for (int n = 1; n <= 2; n++) {
            x.tell(7, 8, 0, 1);
        }
        Check.due("63 in the air", x.count(3), 63);
        x.pass(1);
        Check.due("62 when 5 hears it, 63 when 6 does: both pass it on", x.air(60, 0) * 10 + x.air(61, 0), 56);
        Check.due("none is lost", x.count(7), 0);
    }

    @Says(in = "Terms 3 for Promise 19", text = "(if there are 64 in THE AIR already, it is lost)")
    private static void t3LostBehindTheLastPlace() {
        MeshLamps x = sixtyWait();
        x.tell(0, 7, 0, 2);
        for (int n = 1; n <= 3; n++) {
            x.tell(7, 8, 0, 1);
        }
        Check.due("64 in the air", x.count(3), 64);
        x.pass(1);
        Check.due("63 when 5 hears it: it takes the last place", x.air(60, 0), 5);
        Check.due("64 when 6 hears it: lost", x.count(7), 1);
        Check.due("6 heard it all the same", x.lamp(6, 8), 1);
        Check.due("60 wait, and one", x.count(3), 61);
        Check.due("not lost as a lamp slept", x.count(8), 0);
    }

    // ---- to take a letter

    @Says(in = "Terms 3 for Promise 14",
        text = "if its NUMBER is no greater than the greatest one that the LAMP has TAKEN of this SOURCE (0: none yet),"
            + " it is OLD, and refused")
    private static void t3OldIsRefused() {
        MeshLamps x = new MeshLamps();
        x.set(1, 2, 0);
        for (int n = 1; n <= 3; n++) {
            x.tell(0, 1, 10 * n, 1);
        }
        x.tell(5, 1, 55, 1);
        x.settle();
        hearAgain(x, 1, 0, 2);
        Check.due("none yet: it takes the second", x.lamp(1, 0), 20);
        hearAgain(x, 1, 0, 2);
        Check.due("no greater: the same", x.lamp(1, 5), 1);
        hearAgain(x, 1, 0, 1);
        Check.due("no greater: one less", x.lamp(1, 5), 2);
        Check.due("the light stays", x.lamp(1, 0), 20);
        Check.due("the greatest stays", x.taken(1, 0), 2);
        Check.due("it took one", x.lamp(1, 4), 1);
        hearAgain(x, 1, 0, 3);
        Check.due("one greater", x.lamp(1, 0), 30);
        hearAgain(x, 1, 5, 1);
        Check.due("none yet of this source", x.lamp(1, 0), 55);
        Check.due("no more were old", x.lamp(1, 5), 2);
    }

    @Says(in = "Terms 3 for Promise 14", text = "else the LIGHT is the VALUE, and that is the greatest one then.")
    private static void t3LightIsTheValue() {
        MeshLamps x = new MeshLamps();
        x.link(0, 1, 1);
        int[] values = {99, 0, 1, 1};
        for (int n = 1; n <= 4; n++) {
            x.tell(0, 2, 50, 1);
            x.tell(0, 1, values[n - 1], 1);
            x.settle();
            Check.due("LIGHT", x.lamp(1, 0), values[n - 1]);
            Check.due("the greatest, others between left out", x.taken(1, 0), 2 * n);
            Check.due("taken, even if the LIGHT is the same", x.lamp(1, 4), n);
        }
    }

    // ---- waking

    @Says(in = "Terms 3 for Promise 5",
        text = "When a LAMP that SLEEPS wakes, it TAKES what is KEPT for it, in the order in which it came")
    private static void t3WakesAndTakesInOrder() {
        MeshLamps x = Scenes.sleeper();
        x.set(2, 2, 0);
        x.tell(0, 9, 0, 1);
        x.tell(0, 1, 22, 1);
        x.tell(0, 1, 33, 1);
        x.tell(3, 1, 44, 1);
        x.pass(1);
        Check.due("in the order in which they came: all three are taken", x.sleep(1, 0), 3);
        Check.due("the latest is the light", x.lamp(1, 0), 44);
        Check.due("none is old", x.lamp(1, 5), 0);
        x.sleep(1, 1);
        x.tell(0, 1, 55, 1);
        x.tell(0, 1, 66, 1);
        x.friend(0, 5);
        x.sleep(0, 1);
        x.pass(1);
        Check.due("both are lost when they are told", x.count(8), 2);
        x.replay(2, 0, 5);
        x.replay(2, 0, 4);
        x.pass(1);
        Check.due("both are kept", x.lamp(1, 10), 2);
        Check.due("the later number came first: the other one is old", x.sleep(1, 0), 1);
        Check.due("the light is that of the later number", x.lamp(1, 0), 66);
        Check.due("one is old", x.lamp(1, 5), 1);
    }

    @Says(in = "Terms 3 for Promise 5", text = "as far as it KNOWS that (else it is STRANGE)")
    private static void t3WakesAndFindsStrange() {
        MeshLamps x = Scenes.sleeper();
        x.tell(0, 1, 11, 1);
        x.pass(1);
        x.phase();
        x.give(0);
        x.give(2);
        x.phase();
        x.tell(0, 1, 22, 1);
        x.pass(1);
        Check.due("both are kept, by KEY and by the NEXT one", x.lamp(1, 10), 2);
        Check.due("the one by KEY is taken", x.sleep(1, 0), 1);
        Check.due("light", x.lamp(1, 0), 11);
        Check.due("the other one is strange", x.lamp(1, 6), 1);
        Check.due("not old", x.lamp(1, 5), 0);
        x.sleep(1, 1);
        x.tell(0, 1, 33, 1);
        x.pass(1);
        x.give(1);
        Check.due("as it is when it wakes", x.sleep(1, 0), 1);
        Check.due("light", x.lamp(1, 0), 33);
    }

    @Says(in = "Terms 3 for Promise 5", text = "and nothing is KEPT for it any more.")
    private static void t3NothingIsKeptAnyMore() {
        MeshLamps x = Scenes.sleeper();
        for (int n = 1; n <= 3; n++) {
            x.tell(0, 1, n, 1);
        }
        x.settle();
        x.sleep(1, 0);
        Check.due("none", x.lamp(1, 10), 0);
        x.sleep(1, 1);
        Check.due("none when it sleeps again", x.lamp(1, 10), 0);
        Check.due("nothing to take", x.sleep(1, 0), 0);
        Check.due("nor to refuse", x.lamp(1, 5), 0);
        x.sleep(1, 1);
        x.tell(0, 1, 9, 1);
        x.settle();
        x.phase();
        x.phase();
        x.phase();
        x.sleep(1, 0);
        Check.due("strange ones go, too", x.lamp(1, 10), 0);
        Check.due("strange", x.lamp(1, 6), 1);
        x.sleep(1, 1);
        x.sleep(1, 0);
        Check.due("strange once", x.lamp(1, 6), 1);
    }

    @Says(in = "Terms 3 for Promise 5", text = "These do not come into its MIND.")
    private static void t3NotIntoItsMind() {
        MeshLamps x = Scenes.sleeper();
        x.tell(0, 1, 5, 1);
        x.settle();
        Check.due("taken", x.sleep(1, 0), 1);
        Check.due("none in mind", x.lamp(1, 11), 0);
        Check.due("not new", x.lamp(1, 8), 0);
        hearAgain(x, 1, 0, 1);
        Check.due("heard then, it is new", x.lamp(1, 8), 1);
        Check.due("not stale", x.lamp(1, 7), 0);
        Check.due("but old", x.lamp(1, 5), 1);
    }
}
