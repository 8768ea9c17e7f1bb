import java.util.function.Supplier;
import java.util.function.ToIntFunction;

/** The order of the refusals, call by call, and that a refused call changes nothing. */
public final class RefusalsTest {
    private static final int UNKNOWN = -1, OUTSIDE = -2, STATE = -3, FULL = -4, NO = -5, NONE = -6;
    private static final String FIRST =
        "Calls that are refused answer the first that fits, in the order in which they are told with the call";
    private static final String NOTHING = "What is refused changes nothing.";
    private static final String NONE_LAST = "NONE is answered only where no refusal fits.";

    public static void main(String[] args) throws IllegalAccessException {
        Check.sentences(RefusalsTest.class);
        Check.end();
    }

    private static void refused(String call, int answer, Supplier<MeshLamps> maker, ToIntFunction<MeshLamps> it) {
        Check.due(call, it.applyAsInt(maker.get()), answer);
        Check.same(call + " changes nothing", State.of(() -> after(maker.get(), it)), State.of(maker));
    }

    private static MeshLamps after(MeshLamps x, ToIntFunction<MeshLamps> call) {
        call.applyAsInt(x);
        return x;
    }

    /** Refused on objects with and without an image. */
    private static void refusedBusy(String call, int answer, ToIntFunction<MeshLamps> it) {
        refused(call, answer, Scenes::busy, it);
        refused(call + " with an image", answer, Scenes::busyWithImage, it);
    }

    @Says(in = "Terms",
        text = "UNKNOWN -1 (no such LAMP), OUTSIDE -2 (another number is not as told), STATE -3, NO -5, FULL -4 (as told).")
    private static void theNumbersOfTheRefusals() {
        Check.due("UNKNOWN", MeshLamps.UNKNOWN, -1);
        Check.due("OUTSIDE", MeshLamps.OUTSIDE, -2);
        Check.due("STATE", MeshLamps.STATE, -3);
        Check.due("FULL", MeshLamps.FULL, -4);
        Check.due("NO", MeshLamps.NO, -5);
        Check.due("NONE", MeshLamps.NONE, -6);
    }

    // ---- promise 2: link

    @Says(in = "Terms for Promise 2", text = FIRST)
    private static void p02Order() {
        MeshLamps x = new MeshLamps();
        Check.due("UNKNOWN before OUTSIDE: no lamps, and they are one", x.link(10, 10, 1), UNKNOWN);
        Check.due("UNKNOWN before OUTSIDE: no first lamp, on is 2", x.link(-1, 0, 2), UNKNOWN);
        Check.due("UNKNOWN before OUTSIDE: no other lamp, on is 2", x.link(0, 10, 2), UNKNOWN);
    }

    @Says(in = "Terms for Promise 2", text = NOTHING)
    private static void p02ChangesNothing() {
        refusedBusy("link(0, 10, 1)", UNKNOWN, x -> x.link(0, 10, 1));
        refusedBusy("link(-1, 0, 0)", UNKNOWN, x -> x.link(-1, 0, 0));
        refusedBusy("link(4, 4, 1)", OUTSIDE, x -> x.link(4, 4, 1));
        refusedBusy("link(0, 5, 2)", OUTSIDE, x -> x.link(0, 5, 2));
        refusedBusy("link(0, 1, -1)", OUTSIDE, x -> x.link(0, 1, -1));
    }

    // ---- promise 3: set

    @Says(in = "Terms for Promise 3", text = FIRST)
    private static void p03Order() {
        MeshLamps x = new MeshLamps();
        Check.due("UNKNOWN before OUTSIDE: what is 4", x.set(10, 4, 1), UNKNOWN);
        Check.due("UNKNOWN before OUTSIDE: n is 0", x.set(-1, 0, 0), UNKNOWN);
    }

    @Says(in = "Terms for Promise 3", text = NOTHING)
    private static void p03ChangesNothing() {
        refusedBusy("set(10, 0, 5)", UNKNOWN, x -> x.set(10, 0, 5));
        refusedBusy("set(3, 4, 1)", OUTSIDE, x -> x.set(3, 4, 1));
        refusedBusy("set(3, -1, 1)", OUTSIDE, x -> x.set(3, -1, 1));
        refusedBusy("set(3, 0, 0)", OUTSIDE, x -> x.set(3, 0, 0));
        refusedBusy("set(3, 0, 10)", OUTSIDE, x -> x.set(3, 0, 10));
        refusedBusy("set(3, 1, 2)", OUTSIDE, x -> x.set(3, 1, 2));
        refusedBusy("set(3, 1, -1)", OUTSIDE, x -> x.set(3, 1, -1));
        refusedBusy("set(3, 2, -1)", OUTSIDE, x -> x.set(3, 2, -1));
        refusedBusy("set(3, 2, 9)", OUTSIDE, x -> x.set(3, 2, 9));
        refusedBusy("set(3, 3, 16)", OUTSIDE, x -> x.set(3, 3, 16));
        refusedBusy("set(3, 3, -1)", OUTSIDE, x -> x.set(3, 3, -1));
    }

    // ---- promise 4: friend

    @Says(in = "Terms for Promise 4", text = FIRST)
    private static void p04Order() {
        MeshLamps x = Scenes.sleeper();
        Check.due("UNKNOWN before OUTSIDE: they are one", x.friend(10, 10), UNKNOWN);
        Check.due("UNKNOWN before OUTSIDE: no other", x.friend(-1, 11), UNKNOWN);
        Check.due("UNKNOWN, though the other is NONE", x.friend(10, NONE), UNKNOWN);
        Check.due("OUTSIDE before STATE: they are one", x.friend(1, 1), OUTSIDE);
        Check.due("OUTSIDE before STATE: no other", x.friend(1, 10), OUTSIDE);
    }

    @Says(in = "Terms for Promise 4", text = NONE_LAST)
    private static void p04NoneOnlyIfNotRefused() {
        MeshLamps x = new MeshLamps();
        Check.due("it had none, but the other one is no lamp", x.friend(0, 10), OUTSIDE);
        Check.due("it had none, but they are one", x.friend(0, 0), OUTSIDE);
        Check.due("no such lamp, so none that it had", x.friend(10, 0), UNKNOWN);
        Check.due("no such lamp, and NONE", x.friend(10, NONE), UNKNOWN);
        Check.due("not refused: it had none", x.friend(0, NONE), NONE);
    }

    @Says(in = "Terms for Promise 4", text = NOTHING)
    private static void p04ChangesNothing() {
        refusedBusy("friend(10, 0)", UNKNOWN, x -> x.friend(10, 0));
        refusedBusy("friend(2, 10)", OUTSIDE, x -> x.friend(2, 10));
        refusedBusy("friend(2, -1)", OUTSIDE, x -> x.friend(2, -1));
        refusedBusy("friend(2, 2)", OUTSIDE, x -> x.friend(2, 2));
        refusedBusy("friend(1, 3) of a sleeper", STATE, x -> x.friend(1, 3));
        refusedBusy("friend(1, NONE) of a sleeper", STATE, x -> x.friend(1, NONE));
        refusedBusy("friend(1, 2) of a sleeper, as it is", STATE, x -> x.friend(1, 2));
    }

    // ---- promise 5: sleep

    @Says(in = "Terms for Promise 5", text = FIRST)
    private static void p05Order() {
        MeshLamps x = new MeshLamps();
        Check.due("UNKNOWN before OUTSIDE", x.sleep(10, 2), UNKNOWN);
        Check.due("UNKNOWN before NO", x.sleep(-1, 1), UNKNOWN);
        Check.due("OUTSIDE before NO: on is 2", x.sleep(0, 2), OUTSIDE);
        Check.due("OUTSIDE before NO: on is -1", x.sleep(0, -1), OUTSIDE);
    }

    @Says(in = "Terms for Promise 5", text = NOTHING)
    private static void p05ChangesNothing() {
        refusedBusy("sleep(10, 1)", UNKNOWN, x -> x.sleep(10, 1));
        refusedBusy("sleep(1, 2) of a sleeper", OUTSIDE, x -> x.sleep(1, 2));
        refusedBusy("sleep(1, -1) of a sleeper", OUTSIDE, x -> x.sleep(1, -1));
        refusedBusy("sleep(4, 1) without a friend", NO, x -> x.sleep(4, 1));
    }

    // ---- promises 7 and 8: give, has

    @Says(in = "Terms for Promise 7", text = FIRST)
    private static void p07Order() {
        MeshLamps x = new MeshLamps();
        Check.due("UNKNOWN before STATE", x.give(10), UNKNOWN);
        Check.due("UNKNOWN before STATE", x.give(-1), UNKNOWN);
    }

    @Says(in = "Terms for Promise 7", text = NOTHING)
    private static void p07ChangesNothing() {
        refusedBusy("give(10)", UNKNOWN, x -> x.give(10));
        refusedBusy("give(-1)", UNKNOWN, x -> x.give(-1));
        refused("give(4) in PHASE 0", STATE, MeshLamps::new, x -> x.give(4));
        MeshLamps y = new MeshLamps();
        y.give(4);
        y.phase();
        Check.due("what was refused in PHASE 0 is not there in PHASE 1", y.has(4, 1), 0);
    }

    @Says(in = "Terms for Promise 8", text = FIRST)
    private static void p08Order() {
        Check.due("UNKNOWN before OUTSIDE", new MeshLamps().has(10, 2), UNKNOWN);
        Check.due("UNKNOWN before OUTSIDE", new MeshLamps().has(-1, -1), UNKNOWN);
    }

    @Says(in = "Terms for Promise 8", text = NOTHING)
    private static void p08ChangesNothing() {
        refusedBusy("has(10, 0)", UNKNOWN, x -> x.has(10, 0));
        refusedBusy("has(3, 2)", OUTSIDE, x -> x.has(3, 2));
    }

    // ---- promise 9: tell

    @Says(in = "Terms for Promise 9", text = FIRST)
    private static void p09Order() {
        MeshLamps full = Scenes.inAir(64, 1);
        Check.due("UNKNOWN before OUTSIDE", full.tell(10, 14, 100, 8), UNKNOWN);
        Check.due("UNKNOWN before FULL", full.tell(-1, 0, 0, 1), UNKNOWN);
        Check.due("OUTSIDE before FULL: the AIM", full.tell(0, 14, 0, 1), OUTSIDE);
        Check.due("OUTSIDE before FULL: the VALUE", full.tell(0, 0, 100, 1), OUTSIDE);
        Check.due("OUTSIDE before FULL: the STEPS", full.tell(0, 0, 0, 8), OUTSIDE);
        Check.due("OUTSIDE before STATE: the AIM", full.tell(9, -1, 0, 1), OUTSIDE);
        Check.due("OUTSIDE before STATE: the VALUE", full.tell(9, 0, -1, 1), OUTSIDE);
        Check.due("OUTSIDE before STATE: the STEPS", full.tell(9, 0, 0, 0), OUTSIDE);
        Check.due("STATE before FULL", full.tell(9, 0, 0, 1), STATE);
        full.phase();
        full.phase();
        full.phase();
        Check.due("OUTSIDE before NO: the AIM", full.tell(0, 14, 0, 1), OUTSIDE);
        Check.due("OUTSIDE before NO: the VALUE", full.tell(0, 0, 100, 1), OUTSIDE);
        Check.due("OUTSIDE before NO: the STEPS", full.tell(0, 0, 0, 8), OUTSIDE);
        Check.due("STATE before NO", full.tell(9, 0, 0, 1), STATE);
        Check.due("NO before FULL: 64 in the air", full.tell(0, 0, 0, 1), NO);
        MeshLamps told = Scenes.toldTwoHundred();
        told.friend(0, 1);
        told.sleep(0, 1);
        Check.due("STATE before FULL: told 200", told.tell(0, 0, 0, 1), STATE);
        told.sleep(0, 0);
        told.phase();
        told.phase();
        told.phase();
        Check.due("NO before FULL: told 200", told.tell(0, 0, 0, 1), NO);
    }

    @Says(in = "Terms for Promise 9", text = NOTHING)
    private static void p09ChangesNothing() {
        refusedBusy("tell(10, 0, 0, 1)", UNKNOWN, x -> x.tell(10, 0, 0, 1));
        refusedBusy("tell(2, 14, 0, 1)", OUTSIDE, x -> x.tell(2, 14, 0, 1));
        refusedBusy("tell(2, -1, 0, 1)", OUTSIDE, x -> x.tell(2, -1, 0, 1));
        refusedBusy("tell(2, 0, 100, 1)", OUTSIDE, x -> x.tell(2, 0, 100, 1));
        refusedBusy("tell(2, 0, -1, 1)", OUTSIDE, x -> x.tell(2, 0, -1, 1));
        refusedBusy("tell(2, 0, 0, 8)", OUTSIDE, x -> x.tell(2, 0, 0, 8));
        refusedBusy("tell(2, 0, 0, 0)", OUTSIDE, x -> x.tell(2, 0, 0, 0));
        refusedBusy("tell by a sleeper", STATE, x -> x.tell(1, 0, 0, 1));
        refused("tell without a KEY", NO, () -> Scenes.onlyOneHasKey(3), x -> x.tell(4, 0, 0, 1));
        refused("tell with 64 in the air", FULL, () -> Scenes.inAir(64, 2), x -> x.tell(0, 1, 1, 1));
        refused("tell after 200", FULL, Scenes::toldTwoHundred, x -> x.tell(0, 1, 1, 1));
    }

    // ---- promise 10: replay

    @Says(in = "Terms for Promise 10", text = FIRST)
    private static void p10Order() {
        MeshLamps full = Scenes.inAir(64, 1);
        Check.due("UNKNOWN before OUTSIDE: no lamp beside", full.replay(10, 0, 0), UNKNOWN);
        Check.due("UNKNOWN before OUTSIDE: no source", full.replay(0, -1, 0), UNKNOWN);
        Check.due("UNKNOWN before FULL: no lamp beside", full.replay(-1, 0, 1), UNKNOWN);
        Check.due("UNKNOWN before FULL: no source", full.replay(0, 10, 1), UNKNOWN);
        Check.due("OUTSIDE before FULL", full.replay(0, 0, 14), OUTSIDE);
        Check.due("OUTSIDE before FULL", full.replay(0, 0, 0), OUTSIDE);
    }

    @Says(in = "Terms for Promise 10", text = NOTHING)
    private static void p10ChangesNothing() {
        refusedBusy("replay(10, 3, 1)", UNKNOWN, x -> x.replay(10, 3, 1));
        refusedBusy("replay(3, 10, 1)", UNKNOWN, x -> x.replay(3, 10, 1));
        refusedBusy("replay(3, 3, 0)", OUTSIDE, x -> x.replay(3, 3, 0));
        refusedBusy("replay(3, 3, 4)", OUTSIDE, x -> x.replay(3, 3, 4));
        refusedBusy("replay(3, 0, 1)", OUTSIDE, x -> x.replay(3, 0, 1));
        refused("replay with 64 in the air", FULL, () -> Scenes.inAir(64, 2), x -> x.replay(1, 0, 1));
    }

    // ---- promise 11: pass

    @Says(in = "Terms for Promise 11", text = NOTHING)
    private static void p11ChangesNothing() {
        refusedBusy("pass(0)", OUTSIDE, x -> x.pass(0));
        refusedBusy("pass(-1)", OUTSIDE, x -> x.pass(-1));
        refusedBusy("pass(101)", OUTSIDE, x -> x.pass(101));
    }

    // ---- promises 13 to 16: lamp, taken, mind, air

    @Says(in = "Terms for Promise 13", text = FIRST)
    private static void p13Order() {
        Check.due("UNKNOWN before OUTSIDE", new MeshLamps().lamp(10, 13), UNKNOWN);
        Check.due("UNKNOWN before OUTSIDE", new MeshLamps().lamp(-1, -1), UNKNOWN);
    }

    @Says(in = "Terms for Promise 13", text = NONE_LAST)
    private static void p13NoneOnlyIfNotRefused() {
        Check.due("no such lamp, so no friend", new MeshLamps().lamp(10, 2), UNKNOWN);
        Check.due("not refused: no friend", new MeshLamps().lamp(9, 2), NONE);
    }

    @Says(in = "Terms for Promise 13", text = NOTHING)
    private static void p13ChangesNothing() {
        refusedBusy("lamp(10, 0)", UNKNOWN, x -> x.lamp(10, 0));
        refusedBusy("lamp(0, 13)", OUTSIDE, x -> x.lamp(0, 13));
    }

    @Says(in = "Terms for Promise 14", text = NOTHING)
    private static void p14ChangesNothing() {
        refusedBusy("taken(10, 0)", UNKNOWN, x -> x.taken(10, 0));
        refusedBusy("taken(0, 10)", UNKNOWN, x -> x.taken(0, 10));
    }

    @Says(in = "Terms for Promise 15", text = FIRST)
    private static void p15Order() {
        Check.due("UNKNOWN before OUTSIDE", new MeshLamps().mind(10, 0, 2), UNKNOWN);
        Check.due("UNKNOWN before OUTSIDE", new MeshLamps().mind(-1, 0, -1), UNKNOWN);
    }

    @Says(in = "Terms for Promise 15", text = NONE_LAST)
    private static void p15NoneOnlyIfNotRefused() {
        MeshLamps x = new MeshLamps();
        Check.due("UNKNOWN before NONE", x.mind(10, 0, 0), UNKNOWN);
        Check.due("UNKNOWN before NONE: i is -1", x.mind(-1, -1, 0), UNKNOWN);
        Check.due("OUTSIDE before NONE", x.mind(0, 0, 2), OUTSIDE);
        Check.due("OUTSIDE before NONE: i is -1", x.mind(0, -1, -1), OUTSIDE);
        Check.due("not refused", x.mind(0, 0, 0), NONE);
    }

    @Says(in = "Terms for Promise 15", text = NOTHING)
    private static void p15ChangesNothing() {
        refusedBusy("mind(10, 0, 0)", UNKNOWN, x -> x.mind(10, 0, 0));
        refusedBusy("mind(3, 0, 2)", OUTSIDE, x -> x.mind(3, 0, 2));
    }

    @Says(in = "Terms for Promise 16", text = NONE_LAST)
    private static void p16NoneOnlyIfNotRefused() {
        MeshLamps x = new MeshLamps();
        Check.due("OUTSIDE before NONE", x.air(0, 5), OUTSIDE);
        Check.due("OUTSIDE before NONE: i is -1", x.air(-1, -1), OUTSIDE);
        Check.due("not refused", x.air(0, 4), NONE);
    }

    @Says(in = "Terms for Promise 16", text = NOTHING)
    private static void p16ChangesNothing() {
        refusedBusy("air(0, 5)", OUTSIDE, x -> x.air(0, 5));
        refusedBusy("air(0, -1)", OUTSIDE, x -> x.air(0, -1));
    }

    // ---- promises 17 to 19: image, restore, count

    @Says(in = "Terms for Promise 17", text = NOTHING)
    private static void p17ChangesNothing() {
        refusedBusy("image(2)", OUTSIDE, x -> x.image(2));
        refusedBusy("image(-1)", OUTSIDE, x -> x.image(-1));
    }

    @Says(in = "Terms for Promise 18", text = FIRST)
    private static void p18Order() {
        Check.due("OUTSIDE before STATE", new MeshLamps().restore(2), OUTSIDE);
        Check.due("OUTSIDE before STATE", new MeshLamps().restore(-1), OUTSIDE);
    }

    @Says(in = "Terms for Promise 18", text = NOTHING)
    private static void p18ChangesNothing() {
        refusedBusy("restore(2)", OUTSIDE, x -> x.restore(2));
        refusedBusy("restore(-1)", OUTSIDE, x -> x.restore(-1));
        refusedBusy("restore(1), where nothing was kept", STATE, x -> x.restore(1));
        refused("restore(0), where nothing was kept", STATE, Scenes::busy, x -> x.restore(0));
    }

    @Says(in = "Terms for Promise 19", text = NOTHING)
    private static void p19ChangesNothing() {
        refusedBusy("count(10)", OUTSIDE, x -> x.count(10));
        refusedBusy("count(-1)", OUTSIDE, x -> x.count(-1));
    }
}
