import java.util.ArrayList;
import java.util.List;
import java.util.Set;
import java.util.TreeSet;

/** The document once more, as plainly as lists and sets allow and with no care for room: what ModelTest compares with. */
final class PlainMesh {
    private static final int UNKNOWN = -1, OUTSIDE = -2, STATE = -3, FULL = -4, NO = -5, NONE = -6;

    private record Letter(int source, int number, int key, int aim, int value) {
        boolean same(Letter other) {
            return source == other.source && number == other.number;
        }
    }

    private record Speech(boolean listener, int lamp, int tick, Letter letter, int steps) {
    }

    private static final class Lamp {
        int wait = 1, passes = 1, mindSize = 4, groups = 0, light = 0, friend = NONE;
        boolean sleeps = false;
        int took, old, strange, stale, fresh, spoke;
        Set<Integer> linked = new TreeSet<>();
        List<Letter> mind = new ArrayList<>();
        List<Letter> kept = new ArrayList<>();
        List<Letter> told = new ArrayList<>();
        int[] greatest = new int[10];

        Lamp copy() {
            Lamp it = new Lamp();
            it.wait = wait;
            it.passes = passes;
            it.mindSize = mindSize;
            it.groups = groups;
            it.light = light;
            it.friend = friend;
            it.sleeps = sleeps;
            it.took = took;
            it.old = old;
            it.strange = strange;
            it.stale = stale;
            it.fresh = fresh;
            it.spoke = spoke;
            it.linked = new TreeSet<>(linked);
            it.mind = new ArrayList<>(mind);
            it.kept = new ArrayList<>(kept);
            it.told = new ArrayList<>(told);
            it.greatest = greatest.clone();
            return it;
        }
    }

    private Lamp[] lamps = new Lamp[10];
    private List<Speech> air = new ArrayList<>();
    private int tick, key, phase, spoken, lostFull, lostAsleep;
    private Set<Integer> haveKey = new TreeSet<>(List.of(0, 1, 2, 3, 4, 5, 6, 7, 8, 9));
    private Set<Integer> haveNext = new TreeSet<>();
    private final PlainMesh[] images = new PlainMesh[2];

    PlainMesh() {
        for (int i = 0; i < 10; i++) {
            lamps[i] = new Lamp();
        }
    }

    private void copyFrom(PlainMesh other) {
        for (int i = 0; i < 10; i++) {
            lamps[i] = other.lamps[i].copy();
        }
        air = new ArrayList<>(other.air);
        tick = other.tick;
        key = other.key;
        phase = other.phase;
        spoken = other.spoken;
        lostFull = other.lostFull;
        lostAsleep = other.lostAsleep;
        haveKey = new TreeSet<>(other.haveKey);
        haveNext = new TreeSet<>(other.haveNext);
    }

    private static boolean no(int lamp) {
        return lamp < 0 || lamp > 9;
    }

    int link(int one, int other, int on) {
        if (no(one) || no(other)) return UNKNOWN;
        if (one == other || on != 0 && on != 1) return OUTSIDE;
        if (on == 1) {
            lamps[one].linked.add(other);
            lamps[other].linked.add(one);
        } else {
            lamps[one].linked.remove(other);
            lamps[other].linked.remove(one);
        }
        return lamps[one].linked.size();
    }

    int set(int lamp, int what, int n) {
        if (no(lamp)) return UNKNOWN;
        Lamp it = lamps[lamp];
        int was;
        if (what == 0 && n >= 1 && n <= 9) {
            was = it.wait;
            it.wait = n;
        } else if (what == 1 && n >= 0 && n <= 1) {
            was = it.passes;
            it.passes = n;
        } else if (what == 2 && n >= 0 && n <= 8) {
            was = it.mindSize;
            it.mindSize = n;
            while (it.mind.size() > n) it.mind.remove(0);
        } else if (what == 3 && n >= 0 && n <= 15) {
            was = it.groups;
            it.groups = n;
        } else {
            return OUTSIDE;
        }
        return was;
    }

    int friend(int lamp, int other) {
        if (no(lamp)) return UNKNOWN;
        if (no(other) && other != NONE || lamp == other) return OUTSIDE;
        if (lamps[lamp].sleeps) return STATE;
        int was = lamps[lamp].friend;
        lamps[lamp].friend = other;
        lamps[lamp].kept.clear();
        return was;
    }

    int sleep(int lamp, int on) {
        if (no(lamp)) return UNKNOWN;
        if (on != 0 && on != 1) return OUTSIDE;
        Lamp it = lamps[lamp];
        if (on == 1 && it.friend == NONE) return NO;
        if (it.sleeps == (on == 1)) return 0;
        it.sleeps = on == 1;
        int took = 0;
        if (on == 0) {
            for (Letter letter : it.kept) {
                if (!knows(lamp, letter)) it.strange++;
                else if (take(it, letter)) took++;
            }
            it.kept.clear();
        }
        return took;
    }

    int phase() {
        if (phase == 0) {
            phase = 1;
            haveNext.clear();
        } else if (phase == 1) {
            phase = 2;
        } else {
            phase = 0;
            key = key + 1;
            haveKey = haveNext;
            haveNext = new TreeSet<>();
        }
        return phase;
    }

    int give(int lamp) {
        if (no(lamp)) return UNKNOWN;
        if (phase == 0) return STATE;
        haveNext.add(lamp);
        return haveNext.size();
    }

    int has(int lamp, int what) {
        if (no(lamp)) return UNKNOWN;
        if (what == 0) return haveKey.contains(lamp) ? 1 : 0;
        if (what == 1) return phase != 0 && haveNext.contains(lamp) ? 1 : 0;
        return OUTSIDE;
    }

    int tell(int lamp, int aim, int value, int steps) {
        if (no(lamp)) return UNKNOWN;
        if (aim < 0 || aim > 13 || value < 0 || value > 99 || steps < 1 || steps > 7) return OUTSIDE;
        Lamp it = lamps[lamp];
        if (it.sleeps) return STATE;
        int its;
        if (phase == 2 && haveNext.contains(lamp)) its = key + 1;
        else if (haveKey.contains(lamp)) its = key;
        else return NO;
        if (air.size() == 64 || it.told.size() == 200) return FULL;
        Letter letter = new Letter(lamp, it.told.size() + 1, its, aim, value);
        it.told.add(letter);
        remember(it, letter);
        air.add(new Speech(false, lamp, tick + 1, letter, steps));
        return letter.number;
    }

    int replay(int beside, int source, int number) {
        if (no(beside) || no(source)) return UNKNOWN;
        if (number < 1 || number > lamps[source].told.size()) return OUTSIDE;
        if (air.size() == 64) return FULL;
        air.add(new Speech(true, beside, tick + 1, lamps[source].told.get(number - 1), 7));
        return air.size();
    }

    int pass(int ticks) {
        if (ticks < 1 || ticks > 100) return OUTSIDE;
        int before = spoken;
        for (int i = 0; i < ticks; i++) oneTick();
        return spoken - before;
    }

    int settle() {
        int before = tick;
        while (!air.isEmpty()) oneTick();
        return tick - before;
    }

    private void oneTick() {
        tick++;
        List<Speech> due = new ArrayList<>();
        for (Speech speech : air) {
            if (speech.tick == tick) due.add(speech);
        }
        for (Speech speech : due) {
            removeFromAir(speech);
            Lamp it = lamps[speech.lamp];
            Set<Integer> hearers = new TreeSet<>(it.linked);
            if (speech.listener) {
                hearers.add(speech.lamp);
            } else if (it.sleeps) {
                lostAsleep++;
                continue;
            } else {
                it.spoke++;
            }
            spoken++;
            for (int hearer : hearers) {
                if (!lamps[hearer].sleeps) hear(hearer, speech.letter, speech.steps);
            }
        }
    }

    /** By identity: two speeches may be alike in all (a replay done twice), and each has its own place. */
    private void removeFromAir(Speech speech) {
        for (int i = 0; i < air.size(); i++) {
            if (air.get(i) == speech) {
                air.remove(i);
                return;
            }
        }
    }

    private void hear(int lamp, Letter letter, int steps) {
        Lamp it = lamps[lamp];
        if (!knows(lamp, letter)) {
            it.strange++;
            return;
        }
        for (Letter other : it.mind) {
            if (other.same(letter)) {
                it.stale++;
                return;
            }
        }
        it.fresh++;
        remember(it, letter);
        if (letter.source == lamp) return;
        if (meant(lamp, letter)) take(it, letter);
        for (int i = 0; i < 10; i++) {
            if (lamps[i].sleeps && lamps[i].friend == lamp && meant(i, letter) && i != letter.source) {
                lamps[i].kept.add(letter);
                if (lamps[i].kept.size() > 3) lamps[i].kept.remove(0);
            }
        }
        if (steps > 1 && it.passes == 1) {
            if (air.size() == 64) lostFull++;
            else air.add(new Speech(false, lamp, tick + it.wait, letter, steps - 1));
        }
    }

    private boolean knows(int lamp, Letter letter) {
        return letter.key == key && haveKey.contains(lamp)
            || phase != 0 && letter.key == key + 1 && haveNext.contains(lamp);
    }

    private boolean meant(int lamp, Letter letter) {
        return letter.aim == lamp || letter.aim >= 10 && (lamps[lamp].groups & 1 << letter.aim - 10) != 0;
    }

    private boolean take(Lamp it, Letter letter) {
        if (letter.number <= it.greatest[letter.source]) {
            it.old++;
            return false;
        }
        it.greatest[letter.source] = letter.number;
        it.light = letter.value;
        it.took++;
        return true;
    }

    private void remember(Lamp it, Letter letter) {
        it.mind.add(letter);
        while (it.mind.size() > it.mindSize) it.mind.remove(0);
    }

    int lamp(int lamp, int what) {
        if (no(lamp)) return UNKNOWN;
        Lamp it = lamps[lamp];
        int[] told = {it.light, it.sleeps ? 1 : 0, it.friend, it.told.size(), it.took, it.old, it.strange, it.stale,
            it.fresh, it.spoke, it.kept.size(), it.mind.size(), it.linked.size()};
        return what < 0 || what >= told.length ? OUTSIDE : told[what];
    }

    int taken(int lamp, int source) {
        return no(lamp) || no(source) ? UNKNOWN : lamps[lamp].greatest[source];
    }

    int mind(int lamp, int i, int what) {
        if (no(lamp)) return UNKNOWN;
        if (what != 0 && what != 1) return OUTSIDE;
        List<Letter> mind = lamps[lamp].mind;
        if (i < 0 || i >= mind.size()) return NONE;
        return what == 0 ? mind.get(i).source : mind.get(i).number;
    }

    int air(int i, int what) {
        if (what < 0 || what > 4) return OUTSIDE;
        if (i < 0 || i >= air.size()) return NONE;
        Speech it = air.get(i);
        int[] told = {it.lamp + (it.listener ? 10 : 0), it.tick, it.letter.source, it.letter.number, it.steps};
        return told[what];
    }

    int image(int k) {
        if (k != 0 && k != 1) return OUTSIDE;
        images[k] = new PlainMesh();
        images[k].copyFrom(this);
        return 1;
    }

    int restore(int k) {
        if (k != 0 && k != 1) return OUTSIDE;
        if (images[k] == null) return STATE;
        copyFrom(images[k]);
        return 1;
    }

    int count(int what) {
        int sleepers = 0;
        int lights = 0;
        for (Lamp it : lamps) {
            sleepers += it.sleeps ? 1 : 0;
            lights += it.light;
        }
        int kept = (images[0] != null ? 1 : 0) + (images[1] != null ? 2 : 0);
        int[] told = {tick, key, phase, air.size(), sleepers, lights, spoken, lostFull, lostAsleep, kept};
        return what < 0 || what >= told.length ? OUTSIDE : told[what];
    }
}
