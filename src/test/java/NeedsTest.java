/** Promises 13 to 16: need, joined, pieces, span. */
public final class NeedsTest {
    private static final int NONE = StreetSides.NONE;
    private static final Checks checks = new Checks();

    public static void main(String[] args) {
        needs();
        joined();
        joinedLooksAtNoTime();
        pieces();
        spans();
        checks.end();
    }

    private static void needs() {
        StreetSides x = Checks.row();
        checks.due("street -1", x.need(-1, 0), NONE);
        checks.due("street 2", x.need(2, 0), NONE);
        checks.due("street 12", x.need(12, 1), NONE);
        checks.due("side -1", x.need(0, -1), NONE);
        checks.due("side 2", x.need(0, 2), NONE);
        checks.due("none yet", x.joined(0, 0), NONE);
        for (int k = 0; k < 20; k++) {
            checks.due("need " + k, x.need(k % 2, k / 2 % 2), k);
        }
        checks.due("the 21st", x.need(0, 0), NONE);
        checks.due("the last", x.joined(19, 19), 2);
        checks.due("behind the last", x.joined(19, 20), NONE);
        checks.due("the first is what it was", x.joined(0, 4), 2);
        StreetSides y = Checks.row();
        y.street(0, 2, 1, 3);
        checks.due("on a side that can't be driven", y.need(2, 1), 0);
        checks.due("the same", y.joined(0, 0), 2);
    }

    private static void joined() {
        StreetSides x = Checks.row();
        x.need(0, 0);
        x.need(0, 1);
        x.need(1, 0);
        x.need(1, 1);
        x.need(0, 0);
        int[][] due = {
            {2, 0, 1, 0, 2}, {0, 2, 0, 0, 0}, {0, 0, 2, 0, 0}, {0, 1, 0, 2, 0}, {2, 0, 1, 0, 2},
        };
        dueAll("at first", x, due);
        x.deadEnd(1, true);
        due[0][1] = 1;
        due[4][1] = 1;
        due[3][2] = 1;
        dueAll("back at node 1", x, due);
        x.turn(0, 1, 5, false);
        due[0][2] = 0;
        due[4][2] = 0;
        dueAll("a barred turn", x, due);
        x.turn(0, 1, 1000, true);
        due[0][2] = 1;
        due[4][2] = 1;
        dueAll("a long turn", x, due);
        x.limit(NONE, 0, 5);
        x.limit(0, 0, 4);
        due[0][1] = 0;
        due[4][1] = 0;
        due[3][1] = 0;
        dueAll("street 0 can't be driven", x, due);
        int[] wrong = {-1, 5, 20, Integer.MIN_VALUE, Integer.MAX_VALUE};
        for (int k : wrong) {
            checks.due("joined(" + k + ", 0)", x.joined(k, 0), NONE);
            checks.due("joined(0, " + k + ")", x.joined(0, k), NONE);
            checks.due("joined(" + k + ", " + k + ")", x.joined(k, k), NONE);
        }
    }

    private static void dueAll(String when, StreetSides x, int[][] due) {
        for (int a = 0; a < due.length; a++) {
            for (int b = 0; b < due.length; b++) {
                checks.due(when + ": joined(" + a + ", " + b + ")", x.joined(a, b), due[a][b]);
            }
        }
    }

    private static void joinedLooksAtNoTime() {
        StreetSides x = Checks.row();
        x.need(0, 0);
        x.need(1, 0);
        for (int day = 0; day < 366; day++) {
            x.close(1, day, true);
        }
        x.hours(1, 7, 7);
        checks.due("closures and hours not looked at", x.joined(0, 1), 1);
        StreetSides y = new StreetSides();
        y.node(0, 0);
        y.node(1, 0);
        y.street(0, 1, 1, 1);
        y.street(0, 1, 1, 2);
        y.need(0, 0);
        y.need(1, 1);
        y.need(1, 0);
        checks.due("one way there, one way back", y.joined(0, 1), 1);
        checks.due("and on", y.joined(1, 0), 1);
        checks.due("not into the side that has no way", y.joined(1, 2), 0);
        checks.due("not where it doesn't begin", y.joined(0, 2), 0);
    }

    private static void pieces() {
        StreetSides x = new StreetSides();
        for (int k = 0; k < 8; k++) {
            checks.due("pieces of " + k, x.pieces(), k);
            x.node(k, k);
        }
        x.street(0, 1, 1, 3);
        checks.due("kind 3 joins none", x.pieces(), 8);
        x.street(0, 1, 1, 0);
        checks.due("kind 0", x.pieces(), 7);
        x.street(1, 0, 1, 1);
        checks.due("twice the same", x.pieces(), 7);
        x.street(3, 2, 1, 1);
        checks.due("kind 1", x.pieces(), 6);
        x.street(7, 6, 1, 2);
        checks.due("kind 2", x.pieces(), 5);
        x.street(6, 3, 1, 1);
        checks.due("two pieces of two", x.pieces(), 4);
        x.street(2, 7, 1, 1);
        checks.due("a ring", x.pieces(), 4);
        x.street(2, 1, 1, 2);
        checks.due("six of them", x.pieces(), 3);
        x.limit(NONE, 0, 9);
        x.limit(1, 0, 1);
        x.close(1, 0, true);
        checks.due("heights and closures don't matter", x.pieces(), 3);
        x.street(4, 5, 1, 0);
        x.street(5, 0, 1, 0);
        checks.due("all", x.pieces(), 1);
    }

    private static void spans() {
        StreetSides x = new StreetSides();
        x.node(-100000, -100000);
        x.node(100000, 100000);
        x.node(-100000, -100000);
        x.node(-99997, -99996);
        x.street(0, 1, 1, 0);
        x.street(1, 0, 1, 3);
        x.street(0, 2, 1, 0);
        x.street(3, 0, 9, 1);
        checks.due("the farthest", x.span(0), 80000000000L);
        checks.due("and back", x.span(1), 80000000000L);
        checks.due("at the same place", x.span(2), 0);
        checks.due("near", x.span(3), 25);
        checks.due("span(4)", x.span(4), NONE);
        checks.due("span(-1)", x.span(-1), NONE);
        checks.due("span(12)", x.span(12), NONE);
        checks.due("span of the greatest", x.span(Integer.MAX_VALUE), NONE);
        checks.due("span of the least", x.span(Integer.MIN_VALUE), NONE);
    }
}
