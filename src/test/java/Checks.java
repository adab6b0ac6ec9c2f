/** What every test here shares: it counts the answers that are not the ones that are due. */
final class Checks {
    private int wrong = 0;
    private int asked = 0;

    /** Nodes 0, 1, 2 in a row, with street 0 from 0 to 1 and street 1 from 1 to 2. */
    static StreetSides row() {
        StreetSides x = new StreetSides();
        x.node(0, 0);
        x.node(10, 0);
        x.node(20, 0);
        x.street(0, 1, 30, 0);
        x.street(1, 2, 40, 0);
        return x;
    }

    void due(String call, long got, long want) {
        asked++;
        if (got != want) {
            wrong++;
            System.out.println(call + " answered " + got + ", due is " + want);
        }
    }

    void due(String call, boolean got, boolean want) {
        due(call, got ? 1L : 0L, want ? 1L : 0L);
    }

    /** The way that is held has just these sides, begun at these seconds. */
    void dueWay(String when, StreetSides x, int[] sides, int[] seconds) {
        for (int k = 0; k < sides.length; k++) {
            due(when + ": way(" + k + ")", x.way(k), sides[k]);
            due(when + ": begun(" + k + ")", x.begun(k), seconds[k]);
        }
        dueNoneFrom(when, x, sides.length);
    }

    void dueNoWay(String when, StreetSides x) {
        dueNoneFrom(when, x, 0);
    }

    private void dueNoneFrom(String when, StreetSides x, int length) {
        int[] beyond = {length, length + 1, 23, 24, 25, Integer.MAX_VALUE, -1, Integer.MIN_VALUE};
        for (int k : beyond) {
            if (k < 0 || k >= length) {
                due(when + ": way(" + k + ")", x.way(k), StreetSides.NONE);
                due(when + ": begun(" + k + ")", x.begun(k), StreetSides.NONE);
            }
        }
    }

    void end() {
        System.out.println(asked + " answers looked at, " + wrong + " not as due");
        if (wrong != 0) {
            System.exit(1);
        }
    }
}
