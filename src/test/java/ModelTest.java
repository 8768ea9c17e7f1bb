import java.util.Random;

/**
 * Random runs, the same each time, of all calls with right and wrong numbers: MeshLamps against PlainMesh. An object is
 * used for 512 calls, as the document says nothing of later ones.
 */
public final class ModelTest {
    private static final int CALLS = 512;
    private static final int[] FAR = {Integer.MIN_VALUE, Integer.MAX_VALUE, -1, -6, -7, 1000, 1 << 30};

    private static Random random;
    private static MeshLamps real;
    private static PlainMesh plain;
    private static int lamps;
    private static int wrongs;

    public static void main(String[] args) {
        for (int seed = 0; seed < 1500; seed++) {
            run(seed);
        }
        Check.end();
    }

    private static void run(int seed) {
        random = new Random(seed);
        real = new MeshLamps();
        plain = new PlainMesh();
        lamps = 2 + random.nextInt(9);
        wrongs = new int[] {0, 5, 30}[random.nextInt(3)];
        int talk = random.nextInt(4) == 0 ? 60 : 0;
        for (int i = prepare(); i < CALLS; i++) {
            if (random.nextInt(100) < talk) {
                talk(seed + "." + i + " ");
            } else {
                call(seed + "." + i + " ");
            }
        }
    }

    /** Links lamps, and takes minds away now and then: how many calls that took. */
    private static int prepare() {
        boolean noMinds = random.nextInt(4) == 0;
        boolean crowded = random.nextInt(2) == 0;
        int calls = 0;
        for (int one = 0; one < lamps; one++) {
            for (int other = one + 1; other < lamps; other++) {
                if (crowded || random.nextInt(3) == 0) {
                    Check.due("link", real.link(one, other, 1), plain.link(one, other, 1));
                    calls++;
                }
            }
            if (noMinds) {
                Check.due("set", real.set(one, 2, 0), plain.set(one, 2, 0));
                calls++;
            }
        }
        return calls;
    }

    /** Mostly lamp 0 tells, so that it comes to 200 letters. */
    private static void talk(String at) {
        if (random.nextInt(10) == 0) {
            Check.due(at + "settle", real.settle(), plain.settle());
        } else {
            int a = someLamp();
            int b = some(0, 99);
            int c = some(1, 7);
            Check.due(at + "tell", real.tell(0, a, b, c), plain.tell(0, a, b, c));
        }
    }

    /** A number from least to most; now and then one just beside these, or far away. */
    private static int some(int least, int most) {
        if (random.nextInt(100) < wrongs) {
            int which = random.nextInt(FAR.length + 2);
            return which == 0 ? least - 1 : which == 1 ? most + 1 : FAR[which - 2];
        }
        return least + random.nextInt(most - least + 1);
    }

    private static int someLamp() {
        return some(0, lamps - 1);
    }

    private static void call(String at) {
        int which = random.nextInt(100);
        if (which < 30) {
            changeLamps(at, which);
        } else if (which < 40) {
            changeKeys(at, which);
        } else if (which < 70) {
            speak(at, which);
        } else {
            ask(at, which);
        }
    }

    private static void changeLamps(String at, int which) {
        int a = someLamp();
        if (which < 5) {
            int b = someLamp();
            int c = some(0, 1);
            Check.due(at + "link", real.link(a, b, c), plain.link(a, b, c));
        } else if (which < 12) {
            int b = some(0, 3);
            int c = b == 0 ? some(1, 9) : b == 1 ? some(0, 1) : b == 2 ? some(0, 8) : some(0, 15);
            Check.due(at + "set", real.set(a, b, c), plain.set(a, b, c));
        } else if (which < 19) {
            int b = random.nextInt(8) == 0 ? -6 : someLamp();
            Check.due(at + "friend", real.friend(a, b), plain.friend(a, b));
        } else {
            int b = some(0, 1);
            Check.due(at + "sleep", real.sleep(a, b), plain.sleep(a, b));
        }
    }

    private static void changeKeys(String at, int which) {
        int a = someLamp();
        if (which < 31) {
            Check.due(at + "phase", real.phase(), plain.phase());
        } else if (which < 38) {
            Check.due(at + "give", real.give(a), plain.give(a));
        } else {
            int b = some(0, 1);
            Check.due(at + "has", real.has(a, b), plain.has(a, b));
        }
    }

    private static void speak(String at, int which) {
        int a = someLamp();
        if (which < 55) {
            int b = random.nextBoolean() ? someLamp() : some(10, 13);
            int c = some(0, 99);
            int d = some(1, 7);
            Check.due(at + "tell", real.tell(a, b, c, d), plain.tell(a, b, c, d));
        } else if (which < 63) {
            int b = someLamp();
            int told = plain.lamp(b, 3);
            int c = told > 0 ? some(1, told) : some(0, 1);
            Check.due(at + "replay", real.replay(a, b, c), plain.replay(a, b, c));
        } else if (which < 69) {
            int b = random.nextInt(10) == 0 ? some(1, 100) : some(1, 3);
            Check.due(at + "pass", real.pass(b), plain.pass(b));
        } else {
            Check.due(at + "settle", real.settle(), plain.settle());
        }
    }

    private static void ask(String at, int which) {
        int a = someLamp();
        if (which < 82) {
            int b = some(0, 12);
            Check.due(at + "lamp", real.lamp(a, b), plain.lamp(a, b));
        } else if (which < 85) {
            int b = someLamp();
            Check.due(at + "taken", real.taken(a, b), plain.taken(a, b));
        } else if (which < 89) {
            int b = some(0, 7);
            int c = some(0, 1);
            Check.due(at + "mind", real.mind(a, b, c), plain.mind(a, b, c));
        } else if (which < 93) {
            int b = some(0, Math.max(1, plain.count(3)));
            int c = some(0, 4);
            Check.due(at + "air", real.air(b, c), plain.air(b, c));
        } else if (which < 94) {
            int b = some(0, 1);
            Check.due(at + "image", real.image(b), plain.image(b));
        } else if (which < 95) {
            int b = some(0, 1);
            Check.due(at + "restore", real.restore(b), plain.restore(b));
        } else {
            int b = some(0, 9);
            Check.due(at + "count", real.count(b), plain.count(b));
        }
    }
}
