import java.util.function.Supplier;

/**
 * All that can be asked of an object, as a text, so that two can be compared. It is asked of several objects that are
 * made alike, as an object is used for at most 512 calls.
 */
final class State {
    private State() {
    }

    static String of(Supplier<MeshLamps> maker) {
        StringBuilder all = new StringBuilder("as it is:");
        parts(all, maker);
        for (int k = 0; k < 2; k++) {
            int image = k;
            all.append("\nimage ").append(k).append(':').append(maker.get().restore(k));
            parts(all, () -> restored(maker.get(), image));
        }
        return all.toString();
    }

    private static MeshLamps restored(MeshLamps x, int k) {
        x.restore(k);
        return x;
    }

    private static void parts(StringBuilder all, Supplier<MeshLamps> maker) {
        counts(all, maker.get());
        minds(all, maker.get());
        air(all, maker.get());
        settings(all, maker.get());
        letters(all, maker.get());
        later(all, maker.get());
    }

    private static void counts(StringBuilder all, MeshLamps x) {
        all.append("\ncounts");
        for (int what = 0; what <= 9; what++) {
            all.append(' ').append(x.count(what));
        }
        for (int lamp = 0; lamp < 10; lamp++) {
            all.append("\nlamp ").append(lamp).append(':');
            for (int what = 0; what <= 12; what++) {
                all.append(' ').append(x.lamp(lamp, what));
            }
            all.append(' ').append(x.has(lamp, 0)).append(x.has(lamp, 1));
        }
    }

    private static void minds(StringBuilder all, MeshLamps x) {
        for (int lamp = 0; lamp < 10; lamp++) {
            all.append("\nmind ").append(lamp).append(':');
            for (int i = 0; i < 8; i++) {
                all.append(' ').append(x.mind(lamp, i, 0)).append('/').append(x.mind(lamp, i, 1));
            }
            all.append(" taken");
            for (int source = 0; source < 10; source++) {
                all.append(' ').append(x.taken(lamp, source));
            }
        }
    }

    private static void air(StringBuilder all, MeshLamps x) {
        int size = x.count(3);
        for (int i = 0; i < size; i++) {
            all.append("\nair ").append(i).append(':');
            for (int what = 0; what <= 4; what++) {
                all.append(' ').append(x.air(i, what));
            }
        }
    }

    /** What can be seen only by changing it: the settings, and who is LINKED to whom. */
    private static void settings(StringBuilder all, MeshLamps x) {
        for (int lamp = 0; lamp < 10; lamp++) {
            all.append("\nset ").append(lamp).append(':');
            for (int what = 0; what < 4; what++) {
                all.append(' ').append(x.set(lamp, what, 1));
            }
            all.append(" links");
            for (int other = 0; other < 10; other++) {
                all.append(' ').append(x.link(lamp, other, 0));
            }
        }
    }

    /** What the first LETTERS of each LAMP say, as it shows when they are heard again. */
    private static void letters(StringBuilder all, MeshLamps x) {
        x.settle();
        for (int source = 0; source < 10; source++) {
            for (int number = 1; number <= 3; number++) {
                all.append(' ').append(x.replay(9 - source, source, number));
            }
        }
        all.append("\nletters ").append(x.settle());
        counts(all, x);
    }

    private static void later(StringBuilder all, MeshLamps x) {
        all.append("\nlater ").append(x.settle());
        for (int lamp = 0; lamp < 10; lamp++) {
            all.append(' ').append(x.sleep(lamp, 0));
        }
        for (int lamp = 0; lamp < 10; lamp++) {
            all.append(' ').append(x.tell(lamp, (lamp + 1) % 10, 50 + lamp, 7));
        }
        all.append(' ').append(x.settle());
        counts(all, x);
    }
}
