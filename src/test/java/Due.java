/** Counts and prints answers that are not as due, the first 40 of them; every test of the project ends by finish(). */
final class Due {
    private static int asked = 0;
    private static int wrong = 0;
    private static final int MOST_PRINTED = 40;
    private static String heading = "";

    private Due() {
    }

    /** Which sentence of the document the answers from here on are of. */
    static void heading(String of) {
        heading = of + ": ";
    }

    static void due(String call, long got, long want) {
        asked++;
        if (got != want) {
            tell(call + " answered " + got + ", due is " + want);
        }
    }

    static void same(String what, String got, String want) {
        asked++;
        if (!got.equals(want)) {
            tell(what + " is\n  " + got + "\ndue is\n  " + want);
        }
    }

    private static void tell(String what) {
        wrong++;
        if (wrong <= MOST_PRINTED) {
            System.out.println(heading + what);
        }
    }

    static void holds(String what, boolean is) {
        due(what, is ? 1 : 0, 1);
    }

    static void finish(String name) {
        System.out.println(name + ": " + asked + " answers, " + wrong + " not as due");
        if (wrong != 0) {
            System.exit(1);
        }
    }
}
