/**
 * The edges that the document names under each promise: the last argument that is such and the
 * first that is not, on either side, also where a narrower number would wrap round to one.
 */
public final class CallsEdgesTest {
    private static final int NONE = StreetSides.NONE;
    private static final int LAST = 31622399;
    /** None of these is a node, street or need; doubled, or with bits cut off, some would be. */
    private static final int[] NONE_SUCH = {
        -1, -2, 20, 24, 255, 256, 65536, 1 << 30, -(1 << 30), (1 << 30) + 1,
        Integer.MAX_VALUE, Integer.MIN_VALUE, Integer.MIN_VALUE + 1,
    };
    private static final Checks checks = new Checks();

    public static void main(String[] args) {
        newObject();
        node();
        street();
        turn();
        hours();
        limitOfAStreet();
        limitOfTheVehicle();
        deadEnd();
        close();
        closeNoOtherDay();
        closeNoOtherStreet();
        leastOfSides();
        leastOfSeconds();
        leastToTheSame();
        leastNoWay();
        wayAndBegun();
        longestWay();
        plain();
        longestPlain();
        need();
        joined();
        pieces();
        span();
        checks.end();
    }

    private static StreetSides nodes(int count) {
        StreetSides x = new StreetSides();
        for (int k = 0; k < count; k++) {
            x.node(k, 0);
        }
        return x;
    }

    /** Promise 1: "No nodes, no streets, no way." */
    private static void newObject() {
        StreetSides x = new StreetSides();
        checks.due("no nodes", x.pieces(), 0);
        checks.due("no node 0", x.deadEnd(0, true), false);
        checks.due("no nodes for a street", x.street(0, 1, 1, 0), NONE);
        checks.due("no street 0", x.span(0), NONE);
        checks.due("no need on it", x.need(0, 0), NONE);
        checks.due("no hours of it", x.hours(0, 0, 0), false);
        checks.due("no days of it", x.close(0, 0, true), false);
        checks.due("no greatest height of it", x.limit(0, 0, 0), false);
        checks.due("no turn", x.turn(0, 1, 0, true), false);
        checks.due("no way to the same", x.least(0, 0, 0, 0, 0), NONE);
        checks.due("no plain way to the same", x.plain(0, 0), NONE);
        checks.due("no needs", x.joined(0, 0), NONE);
        checks.dueNoWay("no way", x);
        checks.due("but a vehicle", x.limit(NONE, 0, 0), true);
    }

    /** Promise 2: "at x and y of -100000 .. 100000", "NONE when there are 8". */
    private static void node() {
        long[] such = {-100000, -99999, 0, 99999, 100000};
        long[] wrong = {
            -100001, 100001, (1L << 32) + 5, -(1L << 32), 1L << 63, Long.MAX_VALUE, 1L << 31,
            -(1L << 31) - 1, (1L << 16) + 100000,
        };
        for (long v : such) {
            checks.due("x = " + v, new StreetSides().node(v, 0), 0);
            checks.due("y = " + v, new StreetSides().node(0, v), 0);
            for (long w : wrong) {
                checks.due("node(" + v + ", " + w + ")", new StreetSides().node(v, w), NONE);
                checks.due("node(" + w + ", " + v + ")", new StreetSides().node(w, v), NONE);
            }
        }
        StreetSides x = nodes(7);
        checks.due("not such, as there are 7", x.node(0, 100001), NONE);
        checks.due("the eighth is still to come", x.node(100000, 100000), 7);
        checks.due("there are 8", x.node(100000, 100000), NONE);
        checks.due("there are 8, and it isn't such", x.node(100001, 0), NONE);
    }

    /** Promise 3: "NONE when there are 12, there are none such nodes, both are the same, ..". */
    private static void street() {
        StreetSides x = nodes(2);
        for (int k : NONE_SUCH) {
            checks.due("from " + k, x.street(k, 1, 1, 0), NONE);
            checks.due("to " + k, x.street(0, k, 1, 0), NONE);
            checks.due("from " + k + " to itself", x.street(k, k, 1, 0), NONE);
        }
        checks.due("from node 2 of two", x.street(2, 0, 1, 0), NONE);
        checks.due("to node 2 of two", x.street(0, 2, 1, 0), NONE);
        checks.due("both the same", x.street(0, 0, 1, 0), NONE);
        checks.due("no seconds", x.street(0, 1, 0, 0), NONE);
        checks.due("too many seconds", x.street(0, 1, 10001, 0), NONE);
        checks.due("no kind -1", x.street(0, 1, 1, -1), NONE);
        checks.due("no kind 4", x.street(0, 1, 1, 4), NONE);
        checks.due("seconds that wrap round", x.street(0, 1, 65536 + 1, 0), NONE);
        checks.due("the first is still to come", x.street(1, 0, 10000, 3), 0);
        for (int k = 1; k < 12; k++) {
            checks.due("street " + k, x.street(0, 1, 1, k % 4), k);
        }
        checks.due("there are 12", x.street(0, 1, 1, 0), NONE);
    }

    /** Promise 4: "takes 0 .. 1000 seconds", "there are none such, both are the same". */
    private static void turn() {
        boolean[] either = {true, false};
        for (boolean allowed : either) {
            StreetSides x = Checks.row();
            for (int k : NONE_SUCH) {
                checks.due("from " + k, x.turn(k, 1, 0, allowed), false);
                checks.due("into " + k, x.turn(0, k, 0, allowed), false);
            }
            checks.due("from street 2 of two", x.turn(2, 0, 0, allowed), false);
            checks.due("into street 2 of two", x.turn(0, 2, 0, allowed), false);
            checks.due("from 0 into 0", x.turn(0, 0, 0, allowed), false);
            checks.due("from 1 into 1", x.turn(1, 1, 0, allowed), false);
            checks.due("-1 seconds", x.turn(0, 1, -1, allowed), false);
            checks.due("1001 seconds", x.turn(0, 1, 1001, allowed), false);
            checks.due("great seconds", x.turn(0, 1, Integer.MAX_VALUE, allowed), false);
            checks.due("small seconds", x.turn(0, 1, Integer.MIN_VALUE, allowed), false);
            checks.due("nothing has changed", x.least(0, 0, 1, 0, 0), 40);
            checks.due("0 seconds", x.turn(0, 1, 0, allowed), true);
            checks.due("1000 seconds", x.turn(0, 1, 1000, allowed), true);
            checks.due("allowed or barred", x.least(0, 0, 1, 0, 0), allowed ? 1040 : NONE);
        }
        StreetSides y = nodes(2);
        for (int k = 0; k < 12; k++) {
            y.street(0, 1, 100, 0);
        }
        checks.due("from the last street into the first", y.turn(11, 0, 7, true), true);
        checks.due("from the first street into the last", y.turn(0, 11, 9, true), true);
        checks.due("it takes 7", y.least(11, 0, 0, 1, 0), 107);
        checks.due("it takes 9", y.least(0, 0, 11, 1, 0), 109);
        checks.due("from street 12", y.turn(12, 0, 7, true), false);
        checks.due("into street 12", y.turn(0, 12, 7, true), false);
    }

    /** Promise 5: "from a second of the day to another one, 0 .. 86399, from at most to". */
    private static void hours() {
        StreetSides x = Checks.row();
        int[][] wrong = {
            {-1, 0}, {-1, -1}, {0, -1}, {0, 86400}, {86400, 86400}, {86399, 86400}, {1, 0},
            {86399, 86398}, {86399, 0}, {Integer.MIN_VALUE, 0}, {0, Integer.MAX_VALUE},
            {Integer.MAX_VALUE, Integer.MIN_VALUE}, {Integer.MIN_VALUE, Integer.MAX_VALUE},
        };
        for (int[] h : wrong) {
            checks.due("hours " + h[0] + " to " + h[1], x.hours(1, h[0], h[1]), false);
        }
        for (int k : NONE_SUCH) {
            checks.due("hours of street " + k, x.hours(k, 5, 6), false);
        }
        checks.due("hours of street 2 of two", x.hours(2, 5, 6), false);
        checks.due("nothing has changed", x.least(0, 0, 1, 0, 86399), 40);
        checks.due("nor here", x.least(0, 0, 1, 0, 0), 40);
        int[][] such = {{0, 0}, {0, 1}, {0, 86399}, {86398, 86399}, {86399, 86399}, {7, 7}};
        for (int[] h : such) {
            checks.due("hours " + h[0] + " to " + h[1], x.hours(1, h[0], h[1]), true);
            checks.due("from 0 on", x.least(0, 0, 1, 0, 0), h[0] + 40);
            checks.due("at the last second", x.least(0, 0, 1, 0, h[1]), 40);
            int next = h[1] == 86399 ? h[0] + 40 : NONE;
            checks.due("a second behind", x.least(0, 0, 1, 0, h[1] + 1), next);
        }
    }

    /** Promise 6: "A street's greatest height (what = 0) or weight (1) ..: 0 .. 1000000." */
    private static void limitOfAStreet() {
        long[] wrong = {-1, 1000001, 1L << 32, (1L << 32) + 5, Long.MAX_VALUE, Long.MIN_VALUE};
        for (int what = 0; what < 2; what++) {
            StreetSides x = Checks.row();
            x.limit(NONE, what, 1000000);
            for (long v : wrong) {
                checks.due("v = " + v, x.limit(1, what, v), false);
            }
            for (int k : NONE_SUCH) {
                checks.due("street " + k, x.limit(k, what, 1000000), k == NONE);
            }
            checks.due("street 2 of two", x.limit(2, what, 0), false);
            checks.due("nothing has changed", x.least(0, 0, 1, 0, 0), 40);
            checks.due("v = 999999", x.limit(1, what, 999999), true);
            checks.due("less by one", x.least(0, 0, 1, 0, 0), NONE);
            checks.due("v = 1000000", x.limit(1, what, 1000000), true);
            checks.due("as at first", x.least(0, 0, 1, 0, 0), 40);
            checks.due("v = 0", x.limit(1, what, 0), true);
            x.limit(NONE, what, 1);
            checks.due("nothing but 0", x.least(0, 0, 1, 0, 0), NONE);
            x.limit(NONE, what, 0);
            checks.due("0", x.least(0, 0, 1, 0, 0), 40);
        }
        int[] whats = {-1, 2, 3, Integer.MAX_VALUE, Integer.MIN_VALUE};
        for (int what : whats) {
            checks.due("what = " + what, Checks.row().limit(1, what, 5), false);
        }
    }

    /** Promise 6: "or the vehicle's own when street is NONE: 0 .. 1000000". */
    private static void limitOfTheVehicle() {
        long[] wrong = {-1, 1000001, 1L << 32, (1L << 32) + 5, Long.MAX_VALUE, Long.MIN_VALUE};
        for (int what = 0; what < 2; what++) {
            StreetSides x = Checks.row();
            x.limit(1, what, 0);
            for (long v : wrong) {
                checks.due("v = " + v, x.limit(NONE, what, v), false);
            }
            checks.due("it is 0 still", x.least(0, 0, 1, 0, 0), 40);
            checks.due("v = 1", x.limit(NONE, what, 1), true);
            checks.due("it is 1", x.least(0, 0, 1, 0, 0), NONE);
            checks.due("v = 0", x.limit(NONE, what, 0), true);
            checks.due("it is 0", x.least(0, 0, 1, 0, 0), 40);
            x.limit(1, what, 999999);
            checks.due("v = 1000000", x.limit(NONE, what, 1000000), true);
            checks.due("it is 1000000", x.least(0, 0, 1, 0, 0), NONE);
            checks.due("street -2 is none", x.limit(-2, what, 0), false);
            checks.due("it is 1000000 still", x.least(0, 0, 1, 0, 0), NONE);
        }
        int[] whats = {-1, 2, 3, Integer.MAX_VALUE, Integer.MIN_VALUE};
        for (int what : whats) {
            checks.due("what = " + what, new StreetSides().limit(NONE, what, 5), false);
        }
        checks.due("before any street", new StreetSides().limit(NONE, 1, 1000000), true);
    }

    /** Promise 7: "false when there is none such". */
    private static void deadEnd() {
        StreetSides x = nodes(3);
        for (int k : NONE_SUCH) {
            checks.due("node " + k, x.deadEnd(k, true), false);
            checks.due("node " + k + ", not", x.deadEnd(k, false), false);
        }
        checks.due("node 3 of three", x.deadEnd(3, true), false);
        checks.due("node 3 of three, not", x.deadEnd(3, false), false);
        checks.due("node 0", x.deadEnd(0, true), true);
        checks.due("node 2", x.deadEnd(2, true), true);
        checks.due("node 2 again", x.deadEnd(2, true), true);
        checks.due("node 1, which was none", x.deadEnd(1, false), true);
        x.node(3, 0);
        x.street(0, 3, 5, 0);
        checks.due("node 3 was refused before it came", x.least(0, 0, 0, 1, 0), NONE);
        checks.due("node 0 was not", x.least(0, 1, 0, 0, 0), 5);
    }

    /** Promise 8: "A street is closed on a day, or not", "false when there are none such". */
    private static void close() {
        StreetSides x = Checks.row();
        int[] noDays = {-1, 366, 367, 384, 1 << 16, Integer.MAX_VALUE, Integer.MIN_VALUE};
        for (int day : noDays) {
            checks.due("day " + day, x.close(0, day, true), false);
            checks.due("day " + day + ", open", x.close(0, day, false), false);
            checks.due("day " + day + " of the last", x.close(1, day, true), false);
        }
        for (int k : NONE_SUCH) {
            checks.due("street " + k, x.close(k, 0, true), false);
            checks.due("street " + k + ", open", x.close(k, 365, false), false);
        }
        checks.due("street 2 of two", x.close(2, 0, true), false);
        checks.due("nothing has changed on day 0", x.least(0, 0, 1, 0, 0), 40);
        checks.due("nothing has changed on day 365", x.least(0, 0, 1, 0, LAST), 40);
        checks.due("nor on the other street", x.least(1, 1, 0, 1, 0), 30);
        x.street(2, 0, 9, 0);
        checks.due("nor on one that comes later", x.least(1, 0, 2, 0, 0), 9);
    }

    /** Promise 8: "on a day": on that one alone, and each of them can be told. */
    private static void closeNoOtherDay() {
        for (int day = 0; day < 366; day++) {
            StreetSides x = Checks.row();
            checks.due("close day " + day, x.close(1, day, true), true);
            for (int other = 0; other < 366; other++) {
                checks.due("day " + day + " is closed, day " + other + " asked",
                        x.least(0, 0, 1, 0, other * 86400 + 43200), other == day ? NONE : 40);
            }
        }
        StreetSides y = Checks.row();
        for (int day = 0; day < 366; day++) {
            y.close(1, day, true);
        }
        y.close(1, 200, false);
        checks.due("open on one again", y.least(0, 0, 1, 0, 200 * 86400), 40);
        checks.due("closed the day before", y.least(0, 0, 1, 0, 200 * 86400 - 1), NONE);
        checks.due("closed the day behind", y.least(0, 0, 1, 0, 201 * 86400), NONE);
    }

    /** Promise 8: "A street is closed": that one alone, on the first day, the last, and between. */
    private static void closeNoOtherStreet() {
        int[] days = {0, 63, 64, 200, 364, 365};
        for (int closed = 0; closed < 12; closed++) {
            for (int day : days) {
                StreetSides x = nodes(2);
                for (int k = 0; k < 12; k++) {
                    x.street(0, 1, 1, 0);
                }
                x.close(closed, day, true);
                for (int asked : days) {
                    dueClosedAlone(x, closed, asked * 86400, asked == day);
                }
            }
        }
    }

    private static void dueClosedAlone(StreetSides x, int closed, int time, boolean thatDay) {
        for (int k = 0; k < 12; k++) {
            int from = k == 0 ? 1 : 0;
            int due = k == closed && thatDay ? NONE : 1;
            checks.due("street " + closed + " is closed" + (thatDay ? "" : " on another day")
                    + ", street " + k + " asked at " + time, x.least(from, 0, k, 1, time), due);
        }
    }

    /** Promise 9: "NONE when there are none such", of streets and sides. */
    private static void leastOfSides() {
        StreetSides x = Checks.row();
        for (int k : NONE_SUCH) {
            for (int side = 0; side < 2; side++) {
                checks.due("from street " + k, x.least(k, side, 1, 0, 0), NONE);
                checks.due("to street " + k, x.least(0, 0, k, side, 0), NONE);
                checks.due("to the same " + k, x.least(k, side, k, side, 0), NONE);
            }
            checks.due("from side " + k, x.least(0, k, 1, 0, 0), NONE);
            checks.due("to side " + k, x.least(0, 0, 1, k, 0), NONE);
            checks.due("to the same side " + k, x.least(0, k, 0, k, 0), NONE);
        }
        checks.due("from street 2 of two", x.least(2, 0, 1, 0, 0), NONE);
        checks.due("to street 2 of two", x.least(0, 0, 2, 0, 0), NONE);
        checks.due("the same street 2 of two", x.least(2, 0, 2, 0, 0), NONE);
        checks.due("side 2, which would be the next street's 0", x.least(0, 2, 1, 0, 0), NONE);
        checks.due("to side 2 of 0", x.least(0, 0, 0, 2, 0), NONE);
        checks.due("side -1, which would be the last street's 1", x.least(1, -1, 1, 0, 0), NONE);
        checks.due("side -2, which would be the last street's 0", x.least(1, -2, 1, 0, 0), NONE);
    }

    /** Promise 9: "behind a second, 0 .. 31622399". */
    private static void leastOfSeconds() {
        StreetSides x = Checks.row();
        int[] wrong = {-1, -40, LAST + 1, LAST + 2, Integer.MAX_VALUE, Integer.MIN_VALUE};
        for (int second : wrong) {
            checks.due("second " + second, x.least(0, 0, 1, 0, second), NONE);
            checks.due("to the same, second " + second, x.least(0, 0, 0, 0, second), NONE);
        }
        checks.dueNoWay("none has been held", x);
        int[] such = {0, 1, LAST - 1, LAST};
        for (int second : such) {
            checks.due("second " + second, x.least(0, 0, 1, 0, second), 40);
            checks.due("begun at " + second, x.begun(0), second);
            checks.due("to the same, second " + second, x.least(0, 0, 0, 0, second), 0);
        }
    }

    /** Promise 9: "0 when they are the same; holds that way", which has no sides. */
    private static void leastToTheSame() {
        for (int kind = 0; kind < 4; kind++) {
            StreetSides x = nodes(3);
            x.street(0, 1, 5, 0);
            x.street(1, 2, 5, kind);
            x.deadEnd(1, true);
            x.deadEnd(2, true);
            for (int side = 0; side < 2; side++) {
                checks.due("back", x.least(0, 0, 0, 1, 9), 5);
                checks.due("held", x.way(0), 1);
                checks.due("the same", x.least(1, side, 1, side, 9), 0);
                checks.dueNoWay("the same, kind " + kind, x);
            }
        }
        StreetSides y = Checks.row();
        y.limit(NONE, 0, 1);
        y.limit(0, 0, 0);
        y.close(0, 0, true);
        checks.due("the same, though none can drive it", y.least(0, 1, 0, 1, 0), 0);
        checks.due("the other side is not the same", y.least(0, 0, 0, 1, 0), NONE);
    }

    /** Promise 9: "there is no way (none is held then, when all that was told is such)". */
    private static void leastNoWay() {
        StreetSides x = Checks.row();
        int[] sides = {2};
        int[] seconds = {5};
        checks.due("a way", x.least(0, 0, 1, 0, 5), 40);
        checks.due("no such street", x.least(0, 0, 2, 0, 5), NONE);
        checks.dueWay("held still, behind no such street", x, sides, seconds);
        checks.due("no such side", x.least(0, 0, 0, 2, 5), NONE);
        checks.dueWay("held still, behind no such side", x, sides, seconds);
        checks.due("no such second", x.least(0, 0, 0, 1, LAST + 1), NONE);
        checks.dueWay("held still, behind no such second", x, sides, seconds);
        checks.due("no way", x.least(0, 0, 0, 1, 5), NONE);
        checks.dueNoWay("none is held then", x);
        checks.due("no such second", x.least(0, 0, 1, 0, -1), NONE);
        checks.dueNoWay("none is held still", x);
        checks.due("a way again", x.least(0, 0, 1, 0, 5), 40);
        checks.dueWay("held again", x, sides, seconds);
    }

    /** Promises 10 and 11: "the k-th side of the way that is held, from 0 on". */
    private static void wayAndBegun() {
        StreetSides x = nodes(8);
        for (int k = 0; k < 7; k++) {
            x.street(k, k + 1, 10, 0);
        }
        checks.dueNoWay("none yet", x);
        for (int length = 6; length >= 1; length--) {
            checks.due("a way of " + length, x.least(0, 0, length, 0, 3), 10 * length);
            for (int k : NONE_SUCH) {
                checks.due("way(" + k + ")", x.way(k), NONE);
                checks.due("begun(" + k + ")", x.begun(k), NONE);
            }
            checks.due("the first", x.way(0), 2);
            checks.due("the first begun", x.begun(0), 3);
            checks.due("the last", x.way(length - 1), 2 * length);
            checks.due("the last begun", x.begun(length - 1), 3 + 10 * (length - 1));
            checks.due("behind the last", x.way(length), NONE);
            checks.due("behind the last begun", x.begun(length), NONE);
        }
    }

    /**
     * Street k goes on into k + 1 and k - 1 alone, and turns back at the first end and at the last:
     * there and back by all sides.
     */
    private static StreetSides chain() {
        int[] path = {6, 0, 1, 2, 3, 4, 5, 0, 2, 4, 1, 3, 7};
        StreetSides x = nodes(8);
        for (int k = 0; k < 12; k++) {
            x.street(path[k], path[k + 1], 10, 0);
        }
        for (int k = 0; k < 12; k++) {
            for (int m = 0; m < 12; m++) {
                if (k > m + 1 || m > k + 1) {
                    x.turn(k, m, 0, false);
                }
            }
        }
        x.deadEnd(6, true);
        x.deadEnd(7, true);
        return x;
    }

    /** A way has 23 sides at most: all but the one that it starts from. */
    private static void longestWay() {
        StreetSides x = chain();
        checks.due("by all sides", x.least(11, 0, 10, 0, 1), 230);
        int[] sides = new int[23];
        int[] seconds = new int[23];
        for (int k = 0; k < 23; k++) {
            sides[k] = k < 12 ? 2 * (11 - k) + 1 : 2 * (k - 12);
            seconds[k] = 1 + 10 * k;
        }
        checks.dueWay("by all sides", x, sides, seconds);
        checks.due("a refused call", x.least(11, 0, 12, 0, 1), NONE);
        checks.dueWay("held still", x, sides, seconds);
        checks.due("one of 22", x.least(11, 0, 9, 0, 1), 220);
        checks.due("its last", x.way(21), 18);
        checks.due("none behind it", x.way(22), NONE);
        checks.due("nor begun", x.begun(22), NONE);
    }

    /** Promise 12: "0 for the same; NONE when there are none such, or there is no way". */
    private static void plain() {
        StreetSides x = nodes(3);
        x.street(0, 1, 5, 3);
        x.street(1, 2, 5, 2);
        for (int k : NONE_SUCH) {
            checks.due("from " + k, x.plain(k, 0), NONE);
            checks.due("to " + k, x.plain(0, k), NONE);
            checks.due("the same " + k, x.plain(k, k), NONE);
        }
        checks.due("from street 2 of two", x.plain(2, 0), NONE);
        checks.due("to street 2 of two", x.plain(0, 2), NONE);
        checks.due("the same street 2 of two", x.plain(2, 2), NONE);
        checks.due("the same, though it has no way", x.plain(0, 0), 0);
        checks.due("the last, the same", x.plain(1, 1), 0);
        checks.due("no way", x.plain(0, 1), NONE);
        checks.due("one side", Checks.row().plain(0, 1), 1);
        checks.due("no way back", Checks.row().plain(1, 0), NONE);
    }

    private static void longestPlain() {
        StreetSides x = chain();
        checks.due("by all sides", x.plain(11, 10), 23);
        checks.due("by all but one", x.plain(11, 9), 22);
        checks.due("by the first side alone", x.plain(0, 1), 1);
        x.deadEnd(6, false);
        checks.due("no way back at the first end", x.plain(11, 10), NONE);
    }

    /** Promise 13: "NONE when there are 20, or there are none such". */
    private static void need() {
        StreetSides x = Checks.row();
        for (int k : NONE_SUCH) {
            checks.due("on street " + k, x.need(k, 0), NONE);
            checks.due("on side 1 of street " + k, x.need(k, 1), NONE);
            checks.due("on side " + k, x.need(0, k), NONE);
        }
        checks.due("on street 2 of two", x.need(2, 0), NONE);
        checks.due("on side 2", x.need(0, 2), NONE);
        checks.due("on side 2 of the last", x.need(1, 2), NONE);
        for (int k = 0; k < 20; k++) {
            checks.due("not there yet", x.joined(k, k), NONE);
            checks.due("need " + k, x.need(1, 1), k);
            checks.due("there", x.joined(k, k), 2);
        }
        checks.due("there are 20", x.need(1, 1), NONE);
        checks.due("there are 20, and it isn't such", x.need(2, 1), NONE);
        checks.due("there is no 21st", x.joined(20, 20), NONE);
        checks.due("the first and the last", x.joined(0, 19), 2);
    }

    /** Promise 14: "2 on the same side of the same street, 1 .., 0 otherwise; NONE ..". */
    private static void joined() {
        StreetSides x = Checks.row();
        checks.due("none yet", x.joined(0, 0), NONE);
        x.need(0, 0);
        checks.due("the first is there", x.joined(0, 0), 2);
        checks.due("the second isn't", x.joined(0, 1), NONE);
        checks.due("nor as the first of them", x.joined(1, 0), NONE);
        x.need(0, 1);
        x.need(0, 0);
        x.need(1, 0);
        for (int k : NONE_SUCH) {
            checks.due("with " + k, x.joined(0, k), NONE);
            checks.due(k + " with one", x.joined(k, 0), NONE);
            checks.due(k + " with itself", x.joined(k, k), NONE);
        }
        checks.due("the same side", x.joined(0, 2), 2);
        checks.due("the other side of the street", x.joined(0, 1), 0);
        checks.due("goes on", x.joined(0, 3), 1);
        checks.due("the other way round", x.joined(3, 0), 0);
        x.deadEnd(1, true);
        checks.due("back at a turning place", x.joined(0, 1), 1);
        checks.due("not at the other end", x.joined(1, 0), 0);
        checks.due("the same side is 2 even so", x.joined(0, 2), 2);
    }

    /** Promise 15: none without nodes, as many as nodes without streets, one at last. */
    private static void pieces() {
        StreetSides x = new StreetSides();
        checks.due("no nodes", x.pieces(), 0);
        for (int k = 1; k <= 8; k++) {
            x.node(0, 0);
            checks.due(k + " nodes of the same place", x.pieces(), k);
        }
        x.node(0, 0);
        checks.due("a ninth was refused", x.pieces(), 8);
        x.street(0, 1, 1, 3);
        checks.due("kind 3 joins none", x.pieces(), 8);
        for (int k = 1; k <= 7; k++) {
            x.street(k, k - 1, 1, k % 3);
            checks.due("kind " + k % 3 + " joins two", x.pieces(), 8 - k);
        }
        x.street(7, 0, 1, 0);
        checks.due("never less than one", x.pieces(), 1);
        StreetSides y = nodes(2);
        y.street(0, 1, 1, 2);
        checks.due("two nodes and a street", y.pieces(), 1);
        x.limit(NONE, 0, 1000000);
        for (int k = 0; k < 9; k++) {
            x.limit(k, 0, 0);
            x.close(k, 0, true);
        }
        checks.due("whatever can be driven", x.pieces(), 1);
    }

    /** Promise 16: "The square of how far a street's nodes are apart; NONE when ..". */
    private static void span() {
        StreetSides x = new StreetSides();
        x.node(-100000, -100000);
        x.node(100000, 100000);
        x.node(100000, -100000);
        x.node(-100000, -100000);
        checks.due("none yet", x.span(0), NONE);
        x.street(0, 1, 1, 0);
        x.street(1, 0, 1, 1);
        x.street(0, 2, 1, 2);
        x.street(2, 1, 1, 3);
        x.street(0, 3, 1, 0);
        checks.due("as far as can be", x.span(0), 80000000000L);
        checks.due("from the other end", x.span(1), 80000000000L);
        checks.due("across", x.span(2), 40000000000L);
        checks.due("along", x.span(3), 40000000000L);
        checks.due("the same place", x.span(4), 0);
        checks.due("none behind the last", x.span(5), NONE);
        for (int k : NONE_SUCH) {
            checks.due("span(" + k + ")", x.span(k), NONE);
        }
    }
}
