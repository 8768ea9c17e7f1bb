/** Promises 9 to 12: tell, replay, pass, settle; and what happens as TICKS pass. */
public final class LettersTest {
    private static final int UNKNOWN = -1, OUTSIDE = -2, STATE = -3, FULL = -4, NO = -5, NONE = -6;
    private static final int[] NO_LAMPS = {-1, 10, Integer.MIN_VALUE, Integer.MAX_VALUE};

    public static void main(String[] args) {
        tell();
        tellRefused();
        tellFull();
        tellTwoHundred();
        tellIsRemembered();
        replay();
        replayRefused();
        replayHearers();
        replayKeepsTheKey();
        pass();
        settle();
        waits();
        steps();
        sourceHearsItself();
        takesOnlyNewer();
        groups();
        sleepersLoseWhatTheySpeak();
        keptForWhom();
        keptForEachLamp();
        lostAsFull();
        goesOutAtItsOwnTurn();
        dueCountsTillItsTurn();
        sleepersPlaceIsFreeAtItsTurn();
        laterOnesKeepTheirPlaces();
        orderOfHearing();
        Check.end();
    }

    private static void tell() {
        MeshLamps x = new MeshLamps();
        Check.due("tell", x.tell(4, 13, 99, 7), 1);
        Check.due("tell", x.tell(4, 0, 0, 1), 2);
        Check.due("each lamp counts its own", x.tell(5, 4, 0, 1), 1);
        Check.due("speaker", x.air(1, 0), 4);
        Check.due("tick", x.air(1, 1), 1);
        Check.due("source", x.air(1, 2), 4);
        Check.due("number", x.air(1, 3), 2);
        Check.due("steps", x.air(1, 4), 1);
        Check.due("told", x.lamp(4, 3), 2);
        Check.due("not new", x.lamp(4, 8), 0);
        Check.due("not spoken yet", x.lamp(4, 9), 0);
        x.set(4, 0, 9);
        x.pass(3);
        x.tell(4, 0, 0, 1);
        Check.due("at the next tick, whatever WAIT is", x.air(0, 1), 4);
        Check.due("an own letter for itself", x.tell(6, 6, 44, 1), 1);
        x.settle();
        Check.due("is not taken", x.lamp(6, 0), 0);
        Check.due("nor counted", x.taken(6, 6), 0);
    }

    private static void tellRefused() {
        MeshLamps x = new MeshLamps();
        for (int bad : NO_LAMPS) {
            Check.due("tell: no lamp", x.tell(bad, 0, 0, 1), UNKNOWN);
            Check.due("tell: UNKNOWN before OUTSIDE", x.tell(bad, 14, 100, 0), UNKNOWN);
        }
        for (int bad : new int[] {-1, 14, Integer.MIN_VALUE, Integer.MAX_VALUE}) {
            Check.due("tell: aim", x.tell(0, bad, 0, 1), OUTSIDE);
        }
        for (int bad : new int[] {-1, 100, Integer.MIN_VALUE, Integer.MAX_VALUE}) {
            Check.due("tell: value", x.tell(0, 0, bad, 1), OUTSIDE);
        }
        for (int bad : new int[] {0, 8, -1, Integer.MIN_VALUE, Integer.MAX_VALUE}) {
            Check.due("tell: steps", x.tell(0, 0, 0, bad), OUTSIDE);
        }
        x.friend(0, 1);
        x.sleep(0, 1);
        Check.due("tell: sleeps", x.tell(0, 0, 0, 1), STATE);
        Check.due("tell: OUTSIDE before STATE", x.tell(0, 0, 0, 0), OUTSIDE);
        x.phase();
        x.phase();
        x.phase();
        Check.due("tell: STATE before NO", x.tell(0, 0, 0, 1), STATE);
        x.sleep(0, 0);
        Check.due("tell: no KEY", x.tell(0, 0, 0, 1), NO);
        Check.due("tell: OUTSIDE before NO", x.tell(0, 14, 0, 1), OUTSIDE);
        Check.due("refused, not told", x.lamp(0, 3), 0);
        Check.due("refused, not in the air", x.count(3), 0);
        Check.due("refused, not in mind", x.lamp(0, 11), 0);
    }

    private static void tellFull() {
        MeshLamps x = new MeshLamps();
        x.friend(9, 0);
        x.sleep(9, 1);
        for (int n = 1; n <= 64; n++) {
            Check.due("tell", x.tell(n % 9, 9, 1, 1), (n + 8) / 9);
        }
        Check.due("64", x.count(3), 64);
        Check.due("tell: 64 in the air", x.tell(0, 9, 1, 1), FULL);
        Check.due("tell: STATE before FULL", x.tell(9, 0, 1, 1), STATE);
        Check.due("replay: 64 in the air", x.replay(9, 1, 1), FULL);
        Check.due("replay: OUTSIDE before FULL", x.replay(9, 1, 9), OUTSIDE);
        x.phase();
        x.phase();
        x.phase();
        Check.due("tell: NO before FULL", x.tell(0, 9, 1, 1), NO);
        Check.due("refused, not lost", x.count(7), 0);
        Check.due("refused, not told", x.lamp(0, 3), 7);
        Check.due("all are spoken", x.pass(1), 64);
    }

    private static void tellTwoHundred() {
        MeshLamps x = new MeshLamps();
        x.link(0, 1, 1);
        for (int n = 1; n <= 200; n++) {
            Check.due("tell", x.tell(0, 1, n % 100, 1), n);
            if (n % 50 == 0) {
                x.settle();
            }
        }
        Check.due("tell: told 200", x.tell(0, 1, 5, 1), FULL);
        Check.due("told", x.lamp(0, 3), 200);
        Check.due("taken", x.taken(1, 0), 200);
        Check.due("another one may", x.tell(1, 0, 5, 1), 1);
        Check.due("replay the 200th", x.replay(2, 0, 200), 2);
        Check.due("replay no 201st", x.replay(2, 0, 201), OUTSIDE);
        Check.due("no mixing with the next lamp's first", x.air(1, 2) * 1000 + x.air(1, 3), 200);
        x.settle();
        Check.due("mind", x.mind(2, 0, 0) * 1000 + x.mind(2, 0, 1), 200);
    }

    private static void tellIsRemembered() {
        MeshLamps x = new MeshLamps();
        x.set(0, 2, 2);
        for (int n = 1; n <= 3; n++) {
            x.tell(0, 1, 1, 1);
        }
        Check.due("two in mind", x.lamp(0, 11), 2);
        Check.due("the older", x.mind(0, 0, 1), 2);
        Check.due("the latest", x.mind(0, 1, 1), 3);
        x.set(0, 2, 0);
        x.tell(0, 1, 1, 1);
        Check.due("none with a MIND of 0", x.lamp(0, 11), 0);
    }

    private static void replay() {
        MeshLamps x = new MeshLamps();
        x.link(1, 2, 1);
        x.tell(0, 2, 33, 1);
        x.settle();
        Check.due("nobody heard it", x.lamp(1, 8), 0);
        Check.due("replay", x.replay(1, 0, 1), 1);
        Check.due("replay again", x.replay(3, 0, 1), 2);
        Check.due("speaker", x.air(0, 0), 11);
        Check.due("speaker", x.air(1, 0), 13);
        Check.due("tick", x.air(0, 1), 2);
        Check.due("source", x.air(0, 2), 0);
        Check.due("number", x.air(0, 3), 1);
        Check.due("steps", x.air(0, 4), 7);
        int before = x.count(6);
        Check.due("spoken by those who listen", x.pass(1), 2);
        Check.due("counted", x.count(6), before + 2);
        Check.due("not spoken by the lamp", x.lamp(1, 9), 0);
        Check.due("passed on with 6 steps", x.air(0, 4), 6);
        Check.due("taken with its value", x.lamp(2, 0), 33);
        Check.due("told once", x.lamp(0, 3), 1);
        Check.due("before it is spoken, too", x.tell(4, 5, 1, 1) + x.replay(5, 4, 1) - x.count(3), 1);
    }

    private static void replayRefused() {
        MeshLamps x = new MeshLamps();
        Check.due("replay: none told", x.replay(0, 0, 1), OUTSIDE);
        x.tell(0, 1, 1, 1);
        for (int bad : NO_LAMPS) {
            Check.due("replay: no lamp", x.replay(bad, 0, 1), UNKNOWN);
            Check.due("replay: no source", x.replay(0, bad, 1), UNKNOWN);
            Check.due("replay: UNKNOWN before OUTSIDE", x.replay(bad, 0, 0), UNKNOWN);
        }
        for (int bad : new int[] {0, 2, -1, 201, Integer.MIN_VALUE, Integer.MAX_VALUE}) {
            Check.due("replay: no such letter", x.replay(0, 0, bad), OUTSIDE);
        }
        Check.due("replay: of another", x.replay(0, 1, 1), OUTSIDE);
        Check.due("refused", x.count(3), 1);
    }

    private static void replayHearers() {
        MeshLamps x = new MeshLamps();
        x.link(5, 2, 1);
        x.link(5, 8, 1);
        x.link(5, 9, 1);
        x.friend(9, 5);
        x.sleep(9, 1);
        x.tell(0, 9, 1, 1);
        x.settle();
        x.replay(5, 0, 1);
        x.link(5, 7, 1);
        x.link(5, 8, 0);
        x.pass(1);
        Check.due("three heard it", x.count(3), 3);
        Check.due("by rising numbers", x.air(0, 0), 2);
        Check.due("the one beside among them", x.air(1, 0), 5);
        Check.due("those linked then", x.air(2, 0), 7);
        Check.due("not the one unlinked", x.lamp(8, 8), 0);
        Check.due("nor the sleeper", x.lamp(9, 8), 0);
        Check.due("kept for it", x.lamp(9, 10), 1);
        x.settle();
        x.friend(5, 2);
        x.sleep(5, 1);
        x.set(2, 2, 0);
        x.replay(5, 0, 1);
        Check.due("beside a sleeper it is spoken", x.pass(1), 1);
        Check.due("not heard by the sleeper", x.lamp(5, 8) + x.lamp(5, 7), 3);
        Check.due("but by the others", x.lamp(2, 8), 2);
        Check.due("not lost", x.count(8), 0);
    }

    private static void replayKeepsTheKey() {
        MeshLamps x = new MeshLamps();
        x.tell(0, 1, 42, 1);
        x.settle();
        x.phase();
        x.give(1);
        x.phase();
        x.replay(1, 0, 1);
        x.pass(1);
        Check.due("KEY is known in PHASE 2", x.lamp(1, 0), 42);
        x.phase();
        x.replay(1, 0, 1);
        x.pass(1);
        Check.due("no more in PHASE 0", x.lamp(1, 6), 1);
        Check.due("strange before stale", x.lamp(1, 7), 0);
    }

    private static void pass() {
        MeshLamps x = new MeshLamps();
        for (int bad : new int[] {0, 101, -1, Integer.MIN_VALUE, Integer.MAX_VALUE}) {
            Check.due("pass: ticks", x.pass(bad), OUTSIDE);
        }
        Check.due("no tick passed", x.count(0), 0);
        Check.due("pass(1)", x.pass(1), 0);
        Check.due("pass(100)", x.pass(100), 0);
        Check.due("tick", x.count(0), 101);
        x.link(0, 1, 1);
        x.set(1, 0, 9);
        x.tell(0, 1, 1, 2);
        Check.due("spoken once", x.pass(9), 1);
        Check.due("and once more at the tenth", x.pass(1), 1);
        Check.due("tick", x.count(0), 111);
    }

    private static void settle() {
        MeshLamps x = new MeshLamps();
        Check.due("settle, nothing in the air", x.settle(), 0);
        for (int lamp = 0; lamp < 9; lamp++) {
            x.link(lamp, lamp + 1, 1);
            x.set(lamp, 0, 9);
        }
        x.tell(0, 9, 1, 7);
        Check.due("the longest way", x.settle(), 1 + 6 * 9);
        Check.due("tick", x.count(0), 55);
        Check.due("the air is empty", x.count(3), 0);
        Check.due("seven lamps spoke", x.count(6), 7);
        Check.due("the eighth heard it", x.lamp(7, 8), 1);
        Check.due("the ninth did not", x.lamp(8, 8), 0);
    }

    private static void waits() {
        MeshLamps x = new MeshLamps();
        x.link(0, 1, 1);
        x.set(1, 0, 5);
        x.tell(0, 9, 1, 2);
        x.pass(1);
        Check.due("TICK and WAIT", x.air(0, 1), 6);
        x.set(1, 0, 1);
        Check.due("it stays as it came", x.air(0, 1), 6);
        Check.due("settle", x.settle(), 5);
    }

    private static void steps() {
        MeshLamps x = new MeshLamps();
        x.link(0, 1, 1);
        x.link(1, 2, 1);
        x.tell(0, 1, 5, 1);
        Check.due("one step is not passed on", x.settle(), 1);
        Check.due("but taken", x.lamp(1, 0), 5);
        x.set(1, 1, 0);
        x.tell(0, 2, 6, 7);
        Check.due("nor by one that does not pass on", x.settle(), 1);
        Check.due("heard it", x.lamp(1, 8), 2);
        x.tell(1, 2, 7, 1);
        x.settle();
        Check.due("it tells its own all the same", x.lamp(2, 0), 7);
    }

    private static void sourceHearsItself() {
        MeshLamps x = new MeshLamps();
        x.link(0, 1, 1);
        x.set(0, 2, 0);
        x.friend(2, 0);
        x.sleep(2, 1);
        x.set(2, 3, 1);
        x.set(0, 3, 1);
        x.tell(0, 10, 9, 7);
        x.settle();
        Check.due("new to the source itself", x.lamp(0, 8), 1);
        Check.due("it does not take it", x.lamp(0, 4), 0);
        Check.due("nor keep it", x.lamp(2, 10), 0);
        Check.due("nor pass it on", x.lamp(0, 9), 1);
        x.set(0, 2, 3);
        x.replay(0, 0, 1);
        x.settle();
        Check.due("but has it in mind", x.lamp(0, 11), 1);
    }

    private static void takesOnlyNewer() {
        MeshLamps x = new MeshLamps();
        x.link(0, 1, 1);
        x.set(1, 2, 1);
        x.tell(0, 1, 10, 1);
        x.tell(0, 1, 20, 1);
        x.settle();
        x.replay(1, 0, 1);
        x.settle();
        Check.due("old", x.lamp(1, 5), 1);
        Check.due("the light stays", x.lamp(1, 0), 20);
        Check.due("so does the greatest", x.taken(1, 0), 2);
        Check.due("took", x.lamp(1, 4), 2);
        x.replay(1, 0, 2);
        x.settle();
        Check.due("the same one is old, too", x.lamp(1, 5), 2);
        x.tell(2, 1, 30, 1);
        x.settle();
        x.replay(1, 2, 1);
        x.settle();
        Check.due("another source has its own", x.lamp(1, 0), 30);
    }

    private static void groups() {
        MeshLamps x = new MeshLamps();
        for (int lamp = 1; lamp <= 4; lamp++) {
            x.link(0, lamp, 1);
            x.set(lamp, 3, 1 << (lamp - 1));
        }
        x.set(5, 3, 15);
        x.link(0, 5, 1);
        for (int g = 0; g < 4; g++) {
            x.tell(0, 10 + g, 20 + g, 1);
            x.settle();
            Check.due("all groups", x.lamp(5, 0), 20 + g);
        }
        for (int lamp = 1; lamp <= 4; lamp++) {
            Check.due("its group alone", x.lamp(lamp, 0), 19 + lamp);
            Check.due("once", x.lamp(lamp, 4), 1);
        }
        x.tell(0, 11, 50, 1);
        x.set(3, 3, 2);
        x.settle();
        Check.due("meant as it is then", x.lamp(3, 0), 50);
    }

    private static void sleepersLoseWhatTheySpeak() {
        MeshLamps x = new MeshLamps();
        x.link(0, 1, 1);
        x.friend(0, 1);
        x.tell(0, 1, 5, 2);
        x.sleep(0, 1);
        Check.due("nothing is spoken", x.pass(1), 0);
        Check.due("lost", x.count(8), 1);
        Check.due("not in the air", x.count(3), 0);
        Check.due("not heard", x.lamp(1, 8), 0);
        Check.due("not spoken", x.lamp(0, 9) + x.count(6), 0);
        x.sleep(0, 0);
        x.tell(0, 1, 5, 2);
        x.sleep(0, 1);
        x.sleep(0, 0);
        Check.due("awake again in time", x.pass(1), 1);
    }

    private static void keptForWhom() {
        MeshLamps x = new MeshLamps();
        x.link(0, 1, 1);
        for (int lamp = 2; lamp <= 5; lamp++) {
            x.friend(lamp, lamp == 5 ? 0 : 1);
            x.set(lamp, 3, lamp == 4 ? 2 : 1);
            if (lamp != 3) {
                x.sleep(lamp, 1);
            }
        }
        x.tell(0, 10, 8, 1);
        x.settle();
        Check.due("kept for the sleeper that is meant", x.lamp(2, 10), 1);
        Check.due("not for one that is awake", x.lamp(3, 10), 0);
        Check.due("not for one that is not meant", x.lamp(4, 10), 0);
        Check.due("not by one that is not its friend", x.lamp(5, 10), 0);
        x.tell(0, 10, 9, 1);
        x.tell(1, 10, 9, 1);
        x.settle();
        Check.due("its friend's own letter is not kept", x.lamp(2, 10), 2);
        x.sleep(2, 0);
        x.tell(2, 10, 3, 1);
        x.sleep(2, 1);
        x.settle();
        x.replay(1, 2, 1);
        x.pass(1);
        Check.due("heard by the friend", x.lamp(1, 8), 3);
        Check.due("not kept for its source", x.lamp(2, 10), 0);
    }

    private static void keptForEachLamp() {
        for (int lamp = 0; lamp < 10; lamp++) {
            int friend = (lamp + 1) % 10;
            int source = (lamp + 2) % 10;
            MeshLamps x = new MeshLamps();
            x.link(source, friend, 1);
            x.friend(lamp, friend);
            x.sleep(lamp, 1);
            x.tell(source, lamp, 12, 1);
            x.settle();
            Check.due("kept for " + lamp, x.lamp(lamp, 10), 1);
            Check.due("taken by " + lamp, x.sleep(lamp, 0), 1);
        }
    }

    /** All ten linked with all, without minds. */
    private static MeshLamps crowd() {
        MeshLamps x = new MeshLamps();
        for (int one = 0; one < 10; one++) {
            x.set(one, 2, 0);
            for (int other = one + 1; other < 10; other++) {
                x.link(one, other, 1);
            }
        }
        return x;
    }

    private static void lostAsFull() {
        MeshLamps x = crowd();
        x.tell(0, 9, 1, 7);
        Check.due("one speaks", x.pass(1), 1);
        Check.due("nine will", x.count(3), 9);
        Check.due("nine speak", x.pass(1), 9);
        Check.due("64 of 72 will: the source passes nothing on", x.count(3), 64);
        Check.due("eight are lost", x.count(7), 8);
        Check.due("64 speak", x.pass(1), 64);
        Check.due("64 will", x.count(3), 64);
        Check.due("each is heard by eight that pass it on", x.count(7), 8 + 64 * 8 - 64);
        x.settle();
        Check.due("spoken", x.count(6), 1 + 9 + 64 * 5);
        Check.due("lost", x.count(7), 8 + 4 * (64 * 8 - 64));
    }

    /** Lamp 0 linked with all others, and so many letters of it told with two steps. */
    private static MeshLamps star(int letters) {
        MeshLamps x = new MeshLamps();
        for (int lamp = 1; lamp < 10; lamp++) {
            x.link(0, lamp, 1);
        }
        for (int n = 1; n <= letters; n++) {
            x.tell(0, 9, 1, 2);
        }
        return x;
    }

    private static void goesOutAtItsOwnTurn() {
        MeshLamps x = star(64);
        Check.due("all are spoken", x.pass(1), 64);
        Check.due("each frees one place and fills it", x.count(3), 64);
        for (int i = 0; i < 64; i++) {
            Check.due("passed on by the first hearer alone", x.air(i, 0), 1);
            Check.due("one of each letter", x.air(i, 3), i + 1);
            Check.due("at the next tick", x.air(i, 1), 2);
        }
        Check.due("what the other eight would pass on is lost", x.count(7), 64 * 8);
        Check.due("but heard", x.lamp(9, 8), 64);
    }

    private static void dueCountsTillItsTurn() {
        MeshLamps x = star(56);
        x.pass(1);
        Check.due("55 left and nine come: 64, none lost", x.air(8, 0) * 10 + x.air(8, 3), 91);
        Check.due("then one for each", x.air(9, 0) * 10 + x.air(9, 3), 12);
        Check.due("and again", x.air(10, 0) * 10 + x.air(10, 3), 13);
        Check.due("in the end", x.count(3), 9 + 55);
        Check.due("lost", x.count(7), 55 * 8);
        x = star(57);
        x.pass(1);
        Check.due("56 left and nine come: one is lost", x.air(7, 0) * 10 + x.air(7, 3), 81);
        Check.due("the ninth lamp's", x.air(8, 0) * 10 + x.air(8, 3), 12);
        Check.due("lost", x.count(7), 1 + 56 * 8);
        x = star(1);
        for (int n = 1; n <= 63; n++) {
            x.replay(9, 0, 1);
        }
        x.set(9, 1, 0);
        Check.due("those who listen count, too", x.pass(1), 64);
        Check.due("one of the first letter; all later ones are stale", x.count(3), 1);
        Check.due("lost", x.count(7), 7);
    }

    private static void sleepersPlaceIsFreeAtItsTurn() {
        MeshLamps x = star(0);
        x.friend(9, 0);
        x.tell(9, 0, 1, 1);
        x.tell(0, 5, 1, 2);
        for (int n = 1; n <= 62; n++) {
            x.tell(9, 0, 1, 1);
        }
        x.sleep(9, 1);
        Check.due("one is spoken", x.pass(1), 1);
        Check.due("62 were still to be looked at: two places were free", x.count(3), 2);
        Check.due("by the first", x.air(0, 0), 1);
        Check.due("and the second", x.air(1, 0), 2);
        Check.due("lost as the air had 64", x.count(7), 6);
        Check.due("lost as their lamp slept", x.count(8), 63);
    }

    private static void laterOnesKeepTheirPlaces() {
        MeshLamps x = new MeshLamps();
        x.link(0, 1, 1);
        x.link(2, 3, 1);
        x.set(1, 0, 5);
        x.tell(0, 9, 1, 3);
        x.tell(2, 9, 1, 3);
        x.tell(0, 9, 1, 3);
        x.pass(1);
        Check.due("the first waits longer", x.air(0, 0) * 10 + x.air(0, 1), 16);
        Check.due("the second is due", x.air(1, 0) * 10 + x.air(1, 1), 32);
        Check.due("the third waits longer", x.air(2, 0) * 10 + x.air(2, 1), 16);
        Check.due("one is spoken", x.pass(1), 1);
        Check.due("two are left", x.count(3), 2);
        int[] first = {1, 6, 0, 1, 2};
        int[] second = {1, 6, 0, 2, 2};
        for (int what = 0; what <= 4; what++) {
            Check.due("the first stays as it was " + what, x.air(0, what), first[what]);
            Check.due("the third, too, and is the second now " + what, x.air(1, what), second[what]);
        }
        Check.due("the rest", x.settle(), 4);
    }

    private static void orderOfHearing() {
        MeshLamps x = new MeshLamps();
        x.link(5, 9, 1);
        x.link(5, 1, 1);
        x.link(5, 4, 1);
        x.set(1, 0, 3);
        x.tell(5, 0, 1, 3);
        x.tell(5, 0, 2, 3);
        x.pass(1);
        int[] speakers = {1, 4, 9, 1, 4, 9};
        int[] ticks = {4, 2, 2, 4, 2, 2};
        for (int i = 0; i < 6; i++) {
            Check.due("speaker " + i, x.air(i, 0), speakers[i]);
            Check.due("tick " + i, x.air(i, 1), ticks[i]);
            Check.due("number " + i, x.air(i, 3), i / 3 + 1);
            Check.due("steps " + i, x.air(i, 4), 2);
        }
        Check.due("four are spoken", x.pass(1), 4);
        Check.due("two are left", x.count(3), 2);
        Check.due("in their order", x.air(0, 3) * 10 + x.air(1, 3), 12);
        Check.due("no third", x.air(2, 0), NONE);
        Check.due("stale to the source", x.lamp(5, 7), 4);
    }
}
