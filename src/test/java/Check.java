/** Collects the answers that are not due; a test's main ends with end(). */
final class Check {
    private static int wrong = 0;
    private static int asked = 0;

    private Check() {
    }

    static void due(String what, int got, int want) {
        asked++;
        if (got != want) {
            wrong++;
            System.out.println(what + " answered " + got + ", due is " + want);
        }
    }

    static void due(String what, boolean holds) {
        due(what, holds ? 1 : 0, 1);
    }

    /** Every number that a caller may be told of an object, so that two states can be compared. */
    static String all(MeshLamps x) {
        StringBuilder all = new StringBuilder();
        for (int what = 0; what <= 9; what++) {
            all.append(' ').append(x.count(what));
        }
        for (int lamp = 0; lamp < 10; lamp++) {
            all.append("\nlamp ").append(lamp).append(':');
            for (int what = 0; what <= 12; what++) {
                all.append(' ').append(x.lamp(lamp, what));
            }
            for (int source = 0; source < 10; source++) {
                all.append(' ').append(x.taken(lamp, source));
            }
            for (int i = 0; i < 8; i++) {
                all.append(' ').append(x.mind(lamp, i, 0)).append('/').append(x.mind(lamp, i, 1));
            }
            all.append(' ').append(x.has(lamp, 0)).append(x.has(lamp, 1));
        }
        for (int i = 0; i < 64; i++) {
            all.append("\nair ").append(i).append(':');
            for (int what = 0; what <= 4; what++) {
                all.append(' ').append(x.air(i, what));
            }
        }
        return all.toString();
    }

    static void same(String what, String got, String want) {
        asked++;
        if (!got.equals(want)) {
            wrong++;
            System.out.println(what + ": the states are not the same:\n" + got + "\ndue is\n" + want);
        }
    }

    static void end() {
        System.out.println(wrong == 0 ? "all " + asked + " answers are as due" : wrong + " of " + asked + " are not as due");
        if (wrong != 0) {
            System.exit(1);
        }
    }
}
