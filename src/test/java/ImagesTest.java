/** Promises 17 to 19: image, restore, count. */
public final class ImagesTest {
    private static final int OUTSIDE = -2, STATE = -3;

    public static void main(String[] args) {
        refused();
        allIsAsItWas();
        theImageStays();
        twoImages();
        lettersAreAsTheyWere();
        whatLettersSayIsAsItWas();
        lossesAreAsTheyWere();
        settingsAndLinksAreAsTheyWere();
        count();
        everyLampCounts();
        Check.end();
    }

    private static void refused() {
        MeshLamps x = new MeshLamps();
        for (int bad : new int[] {-1, 2, Integer.MIN_VALUE, Integer.MAX_VALUE}) {
            Check.due("image", x.image(bad), OUTSIDE);
            Check.due("restore", x.restore(bad), OUTSIDE);
        }
        Check.due("restore: nothing kept", x.restore(0), STATE);
        Check.due("image", x.image(1), 1);
        Check.due("restore: nothing kept in this one", x.restore(0), STATE);
        Check.due("restore", x.restore(1), 1);
    }

    private static void disturb(MeshLamps x) {
        x.settle();
        x.link(0, 9, 1);
        x.link(2, 3, 0);
        x.friend(4, 5);
        x.sleep(4, 1);
        x.sleep(1, 0);
        x.sleep(9, 0);
        x.phase();
        x.tell(3, 13, 77, 7);
        x.tell(2, 3, 78, 7);
        x.pass(3);
        x.phase();
        x.give(7);
        x.set(0, 2, 0);
        x.set(1, 0, 9);
        x.set(2, 1, 0);
        x.set(3, 3, 15);
    }

    private static MeshLamps keptIn(int k) {
        MeshLamps x = Scenes.busy();
        x.image(k);
        return x;
    }

    private static MeshLamps disturbed(MeshLamps x) {
        disturb(x);
        return x;
    }

    private static MeshLamps disturbedAndRestored(MeshLamps x, int k) {
        disturb(x);
        Check.due("restore", x.restore(k), 1);
        return x;
    }

    private static void allIsAsItWas() {
        String was = State.of(() -> keptIn(0));
        String other = State.of(() -> disturbed(keptIn(0)));
        Check.due("something changed", !other.equals(was));
        Check.same("restored", State.of(() -> disturbedAndRestored(keptIn(0), 0)), was);
        Check.same("and goes on as if nothing had been",
            State.of(() -> disturbed(disturbedAndRestored(keptIn(0), 0))), other);
    }

    private static void theImageStays() {
        String was = State.of(() -> keptIn(1));
        Check.same("restored again and again",
            State.of(() -> disturbedAndRestored(disturbedAndRestored(keptIn(1), 1), 1)), was);
        String later = State.of(ImagesTest::keptTwice);
        Check.due("it is another state", !later.equals(was));
        Check.same("in place of what was kept", State.of(() -> disturbedAndRestored(keptTwice(), 1)), later);
    }

    private static MeshLamps keptTwice() {
        MeshLamps x = keptIn(1);
        x.settle();
        x.image(1);
        return x;
    }

    private static void twoImages() {
        MeshLamps x = new MeshLamps();
        Check.due("no images", x.count(9), 0);
        x.image(1);
        Check.due("image 1", x.count(9), 2);
        x.pass(5);
        x.image(0);
        Check.due("both", x.count(9), 3);
        x.pass(5);
        x.restore(1);
        Check.due("tick of image 1", x.count(0), 0);
        Check.due("both stay", x.count(9), 3);
        x.restore(0);
        Check.due("tick of image 0", x.count(0), 5);
        MeshLamps y = new MeshLamps();
        y.image(0);
        Check.due("image 0", y.count(9), 1);
    }

    private static void lettersAreAsTheyWere() {
        MeshLamps x = new MeshLamps();
        x.link(0, 1, 1);
        x.tell(0, 1, 11, 1);
        x.image(0);
        x.tell(0, 1, 22, 1);
        x.settle();
        x.image(1);
        x.restore(0);
        Check.due("told after the image is not told", x.replay(1, 0, 2), OUTSIDE);
        Check.due("the number is free again", x.tell(0, 2, 33, 1), 2);
        x.settle();
        Check.due("light", x.lamp(1, 0), 11);
        x.replay(2, 0, 2);
        x.settle();
        Check.due("the new second letter", x.lamp(2, 0), 33);
        x.restore(1);
        x.replay(2, 0, 2);
        x.settle();
        Check.due("the old second letter is for another", x.lamp(2, 4), 0);
        x.restore(1);
        x.set(1, 2, 0);
        Check.due("taken", x.taken(1, 0), 2);
        Check.due("its light", x.lamp(1, 0), 22);
    }

    private static void whatLettersSayIsAsItWas() {
        MeshLamps x = new MeshLamps();
        x.image(0);
        x.tell(0, 9, 22, 1);
        x.settle();
        x.image(1);
        x.restore(0);
        x.phase();
        x.give(0);
        x.phase();
        x.phase();
        Check.due("the same number, by another KEY", x.tell(0, 9, 33, 1), 1);
        x.settle();
        x.restore(1);
        x.replay(9, 0, 1);
        x.settle();
        Check.due("known by the KEY of then", x.lamp(9, 8), 1);
        Check.due("with the VALUE of then", x.lamp(9, 0), 22);
    }

    private static MeshLamps beforeLosses() {
        MeshLamps x = Scenes.star();
        for (int lamp = 1; lamp < 10; lamp++) {
            x.set(lamp, 2, 0);
        }
        x.friend(5, 0);
        x.image(0);
        return x;
    }

    private static MeshLamps withLosses() {
        MeshLamps x = beforeLosses();
        x.tell(5, 0, 1, 1);
        x.sleep(5, 1);
        x.settle();
        x.sleep(5, 0);
        for (int n = 1; n <= 8; n++) {
            x.tell(0, 1, n, 2);
        }
        x.settle();
        x.replay(1, 0, 1);
        x.settle();
        return x;
    }

    private static void lossesAreAsTheyWere() {
        MeshLamps x = withLosses();
        Check.due("lost as the air had 64", x.count(7), 72 - 64);
        Check.due("lost as its lamp slept", x.count(8), 1);
        Check.due("refused as old", x.lamp(1, 5), 1);
        Check.same("none of these", State.of(() -> {
            MeshLamps y = withLosses();
            y.restore(0);
            return y;
        }), State.of(ImagesTest::beforeLosses));
    }

    private static void settingsAndLinksAreAsTheyWere() {
        MeshLamps x = Scenes.busy();
        x.image(0);
        disturb(x);
        x.restore(0);
        Check.due("MIND", x.set(0, 2, 4), 4);
        Check.due("WAIT", x.set(1, 0, 1), 1);
        Check.due("PASSES", x.set(2, 1, 1), 1);
        Check.due("GROUPS", x.set(3, 3, 3), 3);
        Check.due("linked", x.link(2, 3, 1), 2);
        Check.due("not linked", x.link(0, 9, 0), 1);
        Check.due("friend", x.lamp(4, 2), -6);
    }

    private static void everyLampCounts() {
        MeshLamps x = new MeshLamps();
        int lights = 0;
        for (int lamp = 0; lamp < 10; lamp++) {
            int other = (lamp + 1) % 10;
            x.link(other, lamp, 1);
            x.tell(other, lamp, 90 + lamp, 1);
            x.settle();
            lights += 90 + lamp;
            Check.due("lights", x.count(5), lights);
        }
        for (int lamp = 0; lamp < 10; lamp++) {
            x.friend(lamp, (lamp + 1) % 10);
            x.sleep(lamp, 1);
            Check.due("sleepers", x.count(4), lamp + 1);
        }
        for (int lamp = 0; lamp < 10; lamp++) {
            x.sleep(lamp, 0);
            Check.due("awake in turn", x.count(4), 9 - lamp);
        }
    }

    private static void count() {
        MeshLamps x = new MeshLamps();
        x.link(0, 1, 1);
        x.link(0, 2, 1);
        x.set(1, 3, 1);
        x.set(2, 3, 1);
        x.tell(0, 10, 40, 2);
        x.settle();
        x.friend(3, 0);
        x.friend(4, 0);
        x.tell(3, 0, 1, 1);
        x.sleep(3, 1);
        x.sleep(4, 1);
        x.replay(5, 0, 1);
        x.pass(1);
        x.phase();
        x.phase();
        x.phase();
        x.phase();
        x.image(0);
        int[] due = {3, 1, 1, 1, 2, 80, 4, 0, 1, 1};
        for (int what = 0; what < due.length; what++) {
            Check.due("count(" + what + ")", x.count(what), due[what]);
        }
        for (int bad : new int[] {-1, 10, Integer.MIN_VALUE, Integer.MAX_VALUE}) {
            Check.due("count: what", x.count(bad), OUTSIDE);
        }
    }
}
