/** Lamps that are told by radio, from lamp to lamp: ../shared/DOC.md says what each call promises. */
public final class MeshLamps {
    public static final int UNKNOWN = -1, OUTSIDE = -2, STATE = -3, FULL = -4, NO = -5, NONE = -6;

    private static final int LAMPS = 10;
    private static final int GROUPS = 4;
    private static final int IMAGES = 2;
    private static final int MOST_VALUE = 99;
    private static final int MOST_STEPS = 7;
    private static final int MOST_TOLD = 200;
    private static final int MOST_IN_AIR = 64;
    private static final int MOST_IN_MIND = 8;
    private static final int MOST_KEPT = 3;
    private static final int MOST_TICKS = 100;

    // STEPS fall by one each time and WAIT is 9 at most, so 63 TICKS empty any AIR; this is far above.
    private static final int MOST_TICKS_TO_SETTLE = 1000;

    // What set() can set; the rows below go by these numbers.
    private static final int WAIT = 0;
    private static final int PASSES = 1;
    private static final int MIND = 2;
    private static final int GROUP_SET = 3;
    private static final int SETTINGS = 4;
    private static final int[] FIRST_SETTING = {1, 1, 4, 0};
    private static final int[] LEAST_SETTING = {1, 0, 0, 0};
    private static final int[] MOST_SETTING = {9, 1, 8, 15};

    private final Mesh mesh;

    // Null stands for an IMAGE that was never kept; an IMAGE once made is written over, so none is made twice.
    private final Mesh[] images;

    public MeshLamps() {
        mesh = new Mesh();
        images = new Mesh[IMAGES];
    }

    // ---- 1 lamps

    public int link(int one, int other, int on) {
        if (!isLamp(one) || !isLamp(other)) {
            return UNKNOWN;
        }
        if (one == other || !isBetween(on, 0, 1)) {
            return OUTSIDE;
        }
        Lamp first = mesh.lamps[one];
        Lamp second = mesh.lamps[other];
        first.links = changed(first.links, other, on == 1);
        second.links = changed(second.links, one, on == 1);
        return Integer.bitCount(first.links);
    }

    public int set(int lamp, int what, int n) {
        if (!isLamp(lamp)) {
            return UNKNOWN;
        }
        if (!isBetween(what, 0, SETTINGS - 1) || !isBetween(n, LEAST_SETTING[what], MOST_SETTING[what])) {
            return OUTSIDE;
        }
        Lamp it = mesh.lamps[lamp];
        int was = it.settings[what];
        it.settings[what] = n;
        it.mind.dropOldest(it.settings[MIND]);
        return was;
    }

    public int friend(int lamp, int other) {
        if (!isLamp(lamp)) {
            return UNKNOWN;
        }
        if (other != NONE && !isLamp(other) || other == lamp) {
            return OUTSIDE;
        }
        Lamp it = mesh.lamps[lamp];
        if (it.sleeps) {
            return STATE;
        }
        int was = it.friend;
        it.friend = other;
        it.kept.dropOldest(0);
        return was;
    }

    public int sleep(int lamp, int on) {
        if (!isLamp(lamp)) {
            return UNKNOWN;
        }
        if (!isBetween(on, 0, 1)) {
            return OUTSIDE;
        }
        Lamp it = mesh.lamps[lamp];
        if (on == 1 && it.friend == NONE) {
            return NO;
        }
        if (on == 0 && it.sleeps) {
            return mesh.wake(lamp);
        }
        it.sleeps = on == 1;
        return 0;
    }

    // ---- 2 keys

    public int phase() {
        mesh.nextPhase();
        return mesh.phase;
    }

    public int give(int lamp) {
        if (!isLamp(lamp)) {
            return UNKNOWN;
        }
        if (mesh.phase == 0) {
            return STATE;
        }
        mesh.haveNext = changed(mesh.haveNext, lamp, true);
        return Integer.bitCount(mesh.haveNext);
    }

    public int has(int lamp, int what) {
        if (!isLamp(lamp)) {
            return UNKNOWN;
        }
        if (!isBetween(what, 0, 1)) {
            return OUTSIDE;
        }
        return asNumber(isIn(what == 0 ? mesh.haveKey : mesh.haveNext, lamp));
    }

    // ---- 3 letters

    public int tell(int lamp, int aim, int value, int steps) {
        if (!isLamp(lamp)) {
            return UNKNOWN;
        }
        if (!isBetween(aim, 0, LAMPS + GROUPS - 1) || !isBetween(value, 0, MOST_VALUE)
                || !isBetween(steps, 1, MOST_STEPS)) {
            return OUTSIDE;
        }
        Lamp it = mesh.lamps[lamp];
        if (it.sleeps) {
            return STATE;
        }
        if (!mesh.canTell(lamp)) {
            return NO;
        }
        if (mesh.air.isFull() || it.told >= MOST_TOLD) {
            return FULL;
        }
        it.told++;
        int letter = Letters.place(lamp, it.told);
        mesh.letters.write(letter, mesh.keyToTell(lamp), aim, value);
        it.mind.add(letter, it.settings[MIND]);
        mesh.air.add(lamp, mesh.tick + 1, letter, steps);
        return it.told;
    }

    public int replay(int beside, int source, int number) {
        if (!isLamp(beside) || !isLamp(source)) {
            return UNKNOWN;
        }
        if (!isBetween(number, 1, mesh.lamps[source].told)) {
            return OUTSIDE;
        }
        if (mesh.air.isFull()) {
            return FULL;
        }
        mesh.air.add(LAMPS + beside, mesh.tick + 1, Letters.place(source, number), MOST_STEPS);
        return mesh.air.size;
    }

    public int pass(int ticks) {
        if (!isBetween(ticks, 1, MOST_TICKS)) {
            return OUTSIDE;
        }
        int before = mesh.spoken;
        for (int i = 0; i < ticks; i++) {
            mesh.passTick();
        }
        return mesh.spoken - before;
    }

    public int settle() {
        int ticks = 0;
        while (ticks < MOST_TICKS_TO_SETTLE && mesh.air.size > 0) {
            mesh.passTick();
            ticks++;
        }
        return ticks;
    }

    // ---- 4 what is told

    public int lamp(int lamp, int what) {
        if (!isLamp(lamp)) {
            return UNKNOWN;
        }
        Lamp it = mesh.lamps[lamp];
        switch (what) {
            case 0: return it.light;
            case 1: return asNumber(it.sleeps);
            case 2: return it.friend;
            case 3: return it.told;
            case 4: return it.took;
            case 5: return it.refusedAsOld;
            case 6: return it.hadStrange;
            case 7: return it.hadStale;
            case 8: return it.hadNew;
            case 9: return it.spoke;
            case 10: return it.kept.size;
            case 11: return it.mind.size;
            case 12: return Integer.bitCount(it.links);
            default: return OUTSIDE;
        }
    }

    public int taken(int lamp, int source) {
        if (!isLamp(lamp) || !isLamp(source)) {
            return UNKNOWN;
        }
        return mesh.lamps[lamp].greatestTaken[source];
    }

    public int mind(int lamp, int i, int what) {
        if (!isLamp(lamp)) {
            return UNKNOWN;
        }
        if (!isBetween(what, 0, 1)) {
            return OUTSIDE;
        }
        Line mind = mesh.lamps[lamp].mind;
        if (!isBetween(i, 0, mind.size - 1)) {
            return NONE;
        }
        int letter = mind.letters[i];
        return what == 0 ? Letters.sourceOf(letter) : Letters.numberOf(letter);
    }

    public int air(int i, int what) {
        if (!isBetween(what, 0, 4)) {
            return OUTSIDE;
        }
        Air air = mesh.air;
        if (!isBetween(i, 0, air.size - 1)) {
            return NONE;
        }
        switch (what) {
            case 0: return air.speaker[i];
            case 1: return air.tick[i];
            case 2: return Letters.sourceOf(air.letter[i]);
            case 3: return Letters.numberOf(air.letter[i]);
            default: return air.steps[i];
        }
    }

    // ---- 5 images

    public int image(int k) {
        if (!isBetween(k, 0, IMAGES - 1)) {
            return OUTSIDE;
        }
        Mesh image = images[k];
        if (image == null) {
            image = new Mesh();
            images[k] = image;
        }
        image.become(mesh);
        return 1;
    }

    public int restore(int k) {
        if (!isBetween(k, 0, IMAGES - 1)) {
            return OUTSIDE;
        }
        Mesh image = images[k];
        if (image == null) {
            return STATE;
        }
        mesh.become(image);
        return 1;
    }

    public int count(int what) {
        switch (what) {
            case 0: return mesh.tick;
            case 1: return mesh.key;
            case 2: return mesh.phase;
            case 3: return mesh.air.size;
            case 4: return mesh.sleepers();
            case 5: return mesh.allLights();
            case 6: return mesh.spoken;
            case 7: return mesh.lostAsFull;
            case 8: return mesh.lostAsleep;
            case 9: return keptImages();
            default: return OUTSIDE;
        }
    }

    private int keptImages() {
        int kept = 0;
        for (int k = 0; k < IMAGES; k++) {
            kept = changed(kept, k, images[k] != null);
        }
        return kept;
    }

    private static boolean isLamp(int n) {
        return isBetween(n, 0, LAMPS - 1);
    }

    private static boolean isBetween(int n, int least, int most) {
        return n >= least && n <= most;
    }

    private static boolean isIn(int set, int i) {
        return (set >> i & 1) == 1;
    }

    private static int changed(int set, int i, boolean in) {
        return in ? set | 1 << i : set & ~(1 << i);
    }

    private static int asNumber(boolean yes) {
        return yes ? 1 : 0;
    }

    /** All but the IMAGES, and what happens in it as TICKS pass. */
    private static final class Mesh {
        final Lamp[] lamps = new Lamp[LAMPS];
        final Letters letters = new Letters();
        final Air air = new Air();

        int tick = 0;
        int key = 0;
        int phase = 0;
        int haveKey = (1 << LAMPS) - 1;

        // Empty in PHASE 0, so that nobody needs to ask for the PHASE before looking here.
        int haveNext = 0;
        int spoken = 0;
        int lostAsFull = 0;
        int lostAsleep = 0;

        Mesh() {
            for (int i = 0; i < LAMPS; i++) {
                lamps[i] = new Lamp();
            }
        }

        void become(Mesh other) {
            for (int i = 0; i < LAMPS; i++) {
                lamps[i].become(other.lamps[i]);
            }
            letters.become(other.letters);
            air.become(other.air);
            tick = other.tick;
            key = other.key;
            phase = other.phase;
            haveKey = other.haveKey;
            haveNext = other.haveNext;
            spoken = other.spoken;
            lostAsFull = other.lostAsFull;
            lostAsleep = other.lostAsleep;
        }

        void nextPhase() {
            if (phase < 2) {
                phase++;
                return;
            }
            phase = 0;
            key++;
            haveKey = haveNext;
            haveNext = 0;
        }

        boolean tellsByNext(int lamp) {
            return phase == 2 && isIn(haveNext, lamp);
        }

        boolean canTell(int lamp) {
            return tellsByNext(lamp) || isIn(haveKey, lamp);
        }

        int keyToTell(int lamp) {
            return tellsByNext(lamp) ? key + 1 : key;
        }

        boolean knows(int lamp, int letter) {
            int its = letters.key[letter];
            return its == key && isIn(haveKey, lamp) || its == key + 1 && isIn(haveNext, lamp);
        }

        boolean isMeant(int lamp, int letter) {
            int aim = letters.aim[letter];
            return aim < LAMPS ? aim == lamp : isIn(lamps[lamp].settings[GROUP_SET], aim - LAMPS);
        }

        void passTick() {
            tick++;
            // What is passed on meanwhile comes behind these and is due later, so it needs no look at this TICK.
            int all = air.size;
            int at = 0;
            for (int looked = 0; looked < all && at < air.size; looked++) {
                if (air.tick[at] == tick) {
                    speakFromAir(at);
                } else {
                    at++;
                }
            }
        }

        // Each goes out at its own turn: what is due but not SPOKEN yet still counts among those in THE AIR.
        void speakFromAir(int at) {
            int speaker = air.speaker[at];
            int letter = air.letter[at];
            int steps = air.steps[at];
            air.dropAt(at);
            speak(speaker, letter, steps);
        }

        void speak(int speaker, int letter, int steps) {
            boolean listens = speaker >= LAMPS;
            int place = listens ? speaker - LAMPS : speaker;
            Lamp it = lamps[place];
            if (!listens && it.sleeps) {
                lostAsleep++;
                return;
            }
            spoken++;
            if (!listens) {
                it.spoke++;
            }
            int hearers = changed(it.links, place, listens);
            for (int i = 0; i < LAMPS; i++) {
                if (isIn(hearers, i) && !lamps[i].sleeps) {
                    hear(i, letter, steps);
                }
            }
        }

        void hear(int lamp, int letter, int steps) {
            Lamp it = lamps[lamp];
            if (!knows(lamp, letter)) {
                it.hadStrange++;
                return;
            }
            if (it.mind.holds(letter)) {
                it.hadStale++;
                return;
            }
            it.hadNew++;
            it.mind.add(letter, it.settings[MIND]);
            if (Letters.sourceOf(letter) == lamp) {
                return;
            }
            if (isMeant(lamp, letter)) {
                take(it, letter);
            }
            keepForSleepers(lamp, letter);
            if (steps > 1 && it.settings[PASSES] == 1) {
                passOn(lamp, letter, steps - 1);
            }
        }

        void keepForSleepers(int friend, int letter) {
            for (int i = 0; i < LAMPS; i++) {
                Lamp it = lamps[i];
                if (it.sleeps && it.friend == friend && isMeant(i, letter) && Letters.sourceOf(letter) != i) {
                    it.kept.add(letter, MOST_KEPT);
                }
            }
        }

        void passOn(int lamp, int letter, int steps) {
            if (air.isFull()) {
                lostAsFull++;
                return;
            }
            air.add(lamp, tick + lamps[lamp].settings[WAIT], letter, steps);
        }

        void take(Lamp it, int letter) {
            int source = Letters.sourceOf(letter);
            int number = Letters.numberOf(letter);
            if (number <= it.greatestTaken[source]) {
                it.refusedAsOld++;
                return;
            }
            it.greatestTaken[source] = number;
            it.light = letters.value[letter];
            it.took++;
        }

        int wake(int lamp) {
            Lamp it = lamps[lamp];
            int before = it.took;
            it.sleeps = false;
            for (int i = 0; i < it.kept.size; i++) {
                int letter = it.kept.letters[i];
                if (knows(lamp, letter)) {
                    take(it, letter);
                } else {
                    it.hadStrange++;
                }
            }
            it.kept.dropOldest(0);
            return it.took - before;
        }

        int sleepers() {
            int sleepers = 0;
            for (int i = 0; i < LAMPS; i++) {
                sleepers += asNumber(lamps[i].sleeps);
            }
            return sleepers;
        }

        int allLights() {
            int sum = 0;
            for (int i = 0; i < LAMPS; i++) {
                sum += lamps[i].light;
            }
            return sum;
        }
    }

    private static final class Lamp {
        final int[] settings = FIRST_SETTING.clone();
        final int[] greatestTaken = new int[LAMPS];
        final Line mind = new Line(MOST_IN_MIND);
        final Line kept = new Line(MOST_KEPT);
        int links = 0;
        int light = 0;
        boolean sleeps = false;
        int friend = NONE;
        int told = 0;
        int took = 0;
        int refusedAsOld = 0;
        int hadStrange = 0;
        int hadStale = 0;
        int hadNew = 0;
        int spoke = 0;

        void become(Lamp other) {
            System.arraycopy(other.settings, 0, settings, 0, SETTINGS);
            System.arraycopy(other.greatestTaken, 0, greatestTaken, 0, LAMPS);
            mind.become(other.mind);
            kept.become(other.kept);
            links = other.links;
            light = other.light;
            sleeps = other.sleeps;
            friend = other.friend;
            told = other.told;
            took = other.took;
            refusedAsOld = other.refusedAsOld;
            hadStrange = other.hadStrange;
            hadStale = other.hadStale;
            hadNew = other.hadNew;
            spoke = other.spoke;
        }
    }

    /** All LETTERS that were told; SOURCE and NUMBER give a letter its place, and that place stands for it elsewhere. */
    private static final class Letters {
        static final int PLACES = LAMPS * MOST_TOLD;

        final int[] key = new int[PLACES];
        final int[] aim = new int[PLACES];
        final int[] value = new int[PLACES];

        static int place(int source, int number) {
            return source * MOST_TOLD + number - 1;
        }

        static int sourceOf(int letter) {
            return letter / MOST_TOLD;
        }

        static int numberOf(int letter) {
            return letter % MOST_TOLD + 1;
        }

        void write(int letter, int itsKey, int itsAim, int itsValue) {
            key[letter] = itsKey;
            aim[letter] = itsAim;
            value[letter] = itsValue;
        }

        void become(Letters other) {
            System.arraycopy(other.key, 0, key, 0, PLACES);
            System.arraycopy(other.aim, 0, aim, 0, PLACES);
            System.arraycopy(other.value, 0, value, 0, PLACES);
        }
    }

    /** LETTERS in the order in which they came, the oldest first: a MIND, or what is KEPT for a LAMP. */
    private static final class Line {
        final int[] letters;
        int size = 0;

        Line(int room) {
            letters = new int[Math.max(room, 0)];
        }

        boolean holds(int letter) {
            for (int i = 0; i < size; i++) {
                if (letters[i] == letter) {
                    return true;
                }
            }
            return false;
        }

        void add(int letter, int most) {
            dropOldest(most - 1);
            if (size < most && size < letters.length) {
                letters[size] = letter;
                size++;
            }
        }

        void dropOldest(int most) {
            int left = most > 0 ? most : 0;
            int gone = size - left;
            if (gone <= 0) {
                return;
            }
            for (int i = 0; i < left; i++) {
                letters[i] = letters[i + gone];
            }
            size = left;
        }

        void become(Line other) {
            size = Math.min(other.size, letters.length);
            System.arraycopy(other.letters, 0, letters, 0, size);
        }
    }

    /** What is to be SPOKEN, in the order in which it came; one who listens speaks as 10 and the LAMP beside. */
    private static final class Air {
        final int[] speaker = new int[MOST_IN_AIR];
        final int[] tick = new int[MOST_IN_AIR];
        final int[] letter = new int[MOST_IN_AIR];
        final int[] steps = new int[MOST_IN_AIR];
        int size = 0;

        boolean isFull() {
            return size >= MOST_IN_AIR;
        }

        void add(int itsSpeaker, int itsTick, int itsLetter, int itsSteps) {
            if (isFull()) {
                return;
            }
            speaker[size] = itsSpeaker;
            tick[size] = itsTick;
            letter[size] = itsLetter;
            steps[size] = itsSteps;
            size++;
        }

        void dropAt(int at) {
            if (at < 0 || at >= size) {
                return;
            }
            size--;
            int behind = size - at;
            System.arraycopy(speaker, at + 1, speaker, at, behind);
            System.arraycopy(tick, at + 1, tick, at, behind);
            System.arraycopy(letter, at + 1, letter, at, behind);
            System.arraycopy(steps, at + 1, steps, at, behind);
        }

        void become(Air other) {
            size = other.size;
            System.arraycopy(other.speaker, 0, speaker, 0, size);
            System.arraycopy(other.tick, 0, tick, 0, size);
            System.arraycopy(other.letter, 0, letter, 0, size);
            System.arraycopy(other.steps, 0, steps, 0, size);
        }
    }
}
