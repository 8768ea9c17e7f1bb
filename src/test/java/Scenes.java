/** Objects with something going on, made the same way each time. */
final class Scenes {
    private Scenes() {
    }

    /** Something of everything: letters in the air, kept, in mind and taken, sleepers, keys, counts. */
    static MeshLamps busy() {
        MeshLamps x = new MeshLamps();
        for (int lamp = 0; lamp < 9; lamp++) {
            x.link(lamp, lamp + 1, 1);
            x.set(lamp, 3, lamp);
        }
        x.set(3, 0, 4);
        x.set(4, 1, 0);
        x.set(5, 2, 1);
        x.friend(1, 2);
        x.sleep(1, 1);
        x.friend(9, 8);
        x.tell(3, 10, 31, 7);
        x.tell(3, 1, 32, 3);
        x.tell(9, 11, 33, 2);
        x.sleep(9, 1);
        x.settle();
        x.phase();
        x.give(2);
        x.give(3);
        x.phase();
        x.tell(3, 12, 34, 7);
        x.tell(2, 1, 35, 7);
        x.tell(6, 7, 36, 7);
        x.pass(2);
        x.replay(4, 3, 1);
        return x;
    }

    /** Busy, and as it was some ticks before it is kept in image 0. */
    static MeshLamps busyWithImage() {
        MeshLamps x = busy();
        x.image(0);
        x.pass(3);
        x.tell(2, 12, 61, 2);
        x.sleep(9, 0);
        return x;
    }

    /** So many in the air, told by lamps 0 to 4 in turn with so many steps; lamp 9 sleeps with friend 8. */
    static MeshLamps inAir(int many, int steps) {
        MeshLamps x = new MeshLamps();
        x.friend(9, 8);
        x.sleep(9, 1);
        for (int n = 0; n < many; n++) {
            x.tell(n % 5, 9, n, steps);
        }
        return x;
    }

    /** Lamp 0 has told 200 letters; the air is empty. */
    static MeshLamps toldTwoHundred() {
        MeshLamps x = new MeshLamps();
        for (int n = 0; n < 200; n++) {
            x.tell(0, 1, n % 100, 1);
            if (n % 64 == 63 || n == 199) {
                x.settle();
            }
        }
        return x;
    }

    /** No lamp has the key, but for one (or none, if it is no lamp); PHASE is 0. */
    static MeshLamps onlyOneHasKey(int lamp) {
        MeshLamps x = new MeshLamps();
        x.phase();
        x.give(lamp);
        x.phase();
        x.phase();
        return x;
    }

    /** Lamp 1 sleeps, with lamp 2 as its friend, and lamps 0 and 3 are linked to that. */
    static MeshLamps sleeper() {
        MeshLamps x = new MeshLamps();
        x.link(0, 2, 1);
        x.link(3, 2, 1);
        x.friend(1, 2);
        x.sleep(1, 1);
        return x;
    }

    /** Lamp 0 is linked to all others. */
    static MeshLamps star() {
        MeshLamps x = new MeshLamps();
        for (int lamp = 1; lamp < 10; lamp++) {
            x.link(0, lamp, 1);
        }
        return x;
    }
}
