/** What every test here shares: it counts the answers that are not the ones that are due. */
final class Checks {
    private int wrong = 0;
    private int asked = 0;

    void due(String call, long got, long want) {
        asked++;
        if (got != want) {
            wrong++;
            System.out.println(call + " answered " + got + ", due is " + want);
        }
    }

    void due(String call, boolean got, boolean want) {
        due(call, got ? 1L : 0L, want ? 1L : 0L);
    }

    /** The way that is held has just these sides, begun at these seconds. */
    void dueWay(String when, StreetSides x, int[] sides, int[] seconds) {
        for (int k = 0; k < sides.length; k++) {
            due(when + ": way(" + k + ")", x.way(k), sides[k]);
            due(when + ": begun(" + k + ")", x.begun(k), seconds[k]);
        }
        dueNoneFrom(when, x, sides.length);
    }

    void dueNoWay(String when, StreetSides x) {
        dueNoneFrom(when, x, 0);
    }

    private void dueNoneFrom(String when, StreetSides x, int length) {
        int[] beyond = {length, length + 1, 23, 24, 25, Integer.MAX_VALUE, -1, Integer.MIN_VALUE};
        for (int k : beyond) {
            if (k < 0 || k >= length) {
                due(when + ": way(" + k + ")", x.way(k), StreetSides.NONE);
                due(when + ": begun(" + k + ")", x.begun(k), StreetSides.NONE);
            }
        }
    }

    void end() {
        System.out.println(asked + " answers looked at, " + wrong + " not as due");
        if (wrong != 0) {
            System.exit(1);
        }
    }
}
