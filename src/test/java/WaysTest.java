/** Promises 9 to 12: least, way, begun, plain. */
public final class WaysTest {
    private static final int NONE = StreetSides.NONE;
    private static final int DAY = 86400;
    private static final Checks checks = new Checks();

    public static void main(String[] args) {
        toTheSame();
        refused();
        heldWay();
        firstByNumbers();
        firstByNumbersLate();
        onlyFromTheEarliest();
        laterIsOpen();
        endOfDays();
        longestWay();
        undrivenStart();
        plain();
        plainLooksAtNoTime();
        checks.end();
    }

    private static StreetSides nodes(int count) {
        StreetSides x = new StreetSides();
        for (int k = 0; k < count; k++) {
            x.node(k, 0);
        }
        return x;
    }

    private static void toTheSame() {
        StreetSides x = nodes(2);
        x.street(0, 1, 5, 3);
        x.deadEnd(0, true);
        x.deadEnd(1, true);
        for (int side = 0; side < 2; side++) {
            checks.due("0 to the same", x.least(0, side, 0, side, 31622399), 0);
            checks.dueNoWay("to the same", x);
        }
        StreetSides y = nodes(2);
        y.street(0, 1, 5, 0);
        y.deadEnd(0, true);
        y.deadEnd(1, true);
        y.least(0, 0, 0, 1, 3);
        checks.dueWay("back", y, new int[] {1}, new int[] {3});
        checks.due("to the same, though it could go round", y.least(0, 0, 0, 0, 3), 0);
        checks.dueNoWay("the way to the same has no sides", y);
    }

    private static void refused() {
        StreetSides x = nodes(3);
        x.street(0, 1, 5, 0);
        x.street(1, 2, 6, 0);
        checks.due("least", x.least(0, 0, 1, 0, 4), 6);
        int[] sides = {2};
        int[] seconds = {4};
        int[][] wrong = {
            {-1, 0, 1, 0, 4}, {2, 0, 1, 0, 4}, {0, -1, 1, 0, 4}, {0, 2, 1, 0, 4},
            {0, 0, -1, 0, 4}, {0, 0, 2, 0, 4}, {0, 0, 1, -1, 4}, {0, 0, 1, 2, 4},
            {0, 0, 1, 0, -1}, {0, 0, 1, 0, 31622400}, {0, 0, 1, 0, Integer.MAX_VALUE},
            {12, 0, 1, 0, 4}, {0, 0, 12, 0, 4}, {0, 0, 0, 0, -1}, {5, 0, 5, 0, 4},
            {Integer.MIN_VALUE, 0, 1, 0, 4}, {0, 0, Integer.MAX_VALUE, 1, 4},
        };
        for (int[] a : wrong) {
            checks.due("refused", x.least(a[0], a[1], a[2], a[3], a[4]), NONE);
            checks.dueWay("the way is held still", x, sides, seconds);
        }
        checks.due("no way", x.least(0, 1, 1, 0, 4), NONE);
        checks.dueNoWay("none is held then", x);
    }

    private static void heldWay() {
        StreetSides x = nodes(4);
        x.street(0, 1, 5, 0);
        x.street(1, 2, 6, 0);
        x.street(2, 3, 7, 0);
        x.turn(1, 2, 4, true);
        checks.due("least", x.least(0, 0, 2, 0, 100), 17);
        int[] sides = {2, 4};
        int[] seconds = {100, 110};
        checks.dueWay("held", x, sides, seconds);
        x.turn(0, 1, 0, false);
        x.close(1, 0, true);
        x.limit(2, 0, 0);
        x.limit(NONE, 0, 1);
        x.hours(2, 5, 5);
        x.street(0, 2, 1, 0);
        x.plain(0, 2);
        x.plain(0, 3);
        x.need(0, 0);
        x.need(1, 0);
        x.joined(0, 1);
        x.pieces();
        x.span(0);
        checks.dueWay("held whatever else is called", x, sides, seconds);
        checks.due("no way now", x.least(0, 0, 2, 0, 100), NONE);
        checks.dueNoWay("none is held", x);
    }

    /** Two ways of the same length in time: the first by the numbers of its sides. */
    private static void firstByNumbers() {
        StreetSides x = nodes(4);
        x.street(0, 1, 5, 0);
        x.street(1, 2, 9, 0);
        x.street(1, 2, 9, 0);
        x.street(2, 3, 1, 0);
        checks.due("two alike", x.least(0, 0, 3, 0, 0), 10);
        checks.dueWay("the smaller number", x, new int[] {2, 6}, new int[] {0, 9});
        x.turn(1, 3, 1, true);
        checks.due("the second is sooner", x.least(0, 0, 3, 0, 0), 10);
        checks.dueWay("the sooner", x, new int[] {4, 6}, new int[] {0, 9});

        StreetSides y = nodes(3);
        y.street(0, 1, 5, 0);
        y.street(2, 1, 9, 0);
        y.street(1, 2, 9, 0);
        y.street(2, 0, 1, 0);
        checks.due("side 1 of a smaller street", y.least(0, 0, 3, 0, 0), 10);
        checks.dueWay("3 is before 4", y, new int[] {3, 6}, new int[] {0, 9});
    }

    /** The first side decides, though what follows it has greater numbers, or is more. */
    private static void firstByNumbersLate() {
        StreetSides x = nodes(6);
        x.street(0, 1, 1, 0);
        x.street(1, 2, 2, 0);
        x.street(1, 3, 3, 0);
        x.street(3, 4, 3, 0);
        x.street(4, 5, 1, 0);
        x.street(2, 3, 2, 0);
        x.street(3, 4, 3, 0);
        x.turn(5, 3, 0, false);
        x.turn(2, 3, 2, true);
        x.turn(2, 6, 1, true);
        checks.due("by the first side", x.least(0, 0, 4, 0, 50), 8);
        checks.dueWay("2, 10, 12 is before 4, 12", x, new int[] {2, 10, 12, 8},
                new int[] {50, 52, 54, 57});

        StreetSides y = nodes(6);
        y.street(0, 1, 1, 0);
        y.street(1, 4, 1, 0);
        y.street(1, 2, 2, 0);
        y.street(1, 3, 2, 0);
        y.street(3, 5, 1, 0);
        y.street(2, 5, 1, 0);
        y.street(5, 4, 1, 0);
        checks.due("a small number that leads elsewhere", y.least(0, 0, 6, 0, 0), 4);
        checks.dueWay("4 before 6", y, new int[] {4, 10, 12}, new int[] {0, 2, 3});
        y.turn(2, 5, 1, true);
        checks.due("a small number that comes too late", y.least(0, 0, 6, 0, 0), 4);
        checks.dueWay("by 6", y, new int[] {6, 8, 12}, new int[] {0, 2, 3});
    }

    /**
     * Street 3 is reached first by one way and later by another; waiting for hours makes both come
     * to the goal at the same time, but the later one is no way.
     */
    private static void onlyFromTheEarliest() {
        StreetSides x = nodes(5);
        x.street(0, 1, 1, 0);
        x.street(1, 2, 9, 0);
        x.street(1, 2, 3, 0);
        x.street(2, 3, 2, 0);
        x.street(3, 4, 5, 0);
        x.hours(4, 100, 200);
        checks.due("waits at the end", x.least(0, 0, 4, 0, 0), 105);
        checks.dueWay("each side ends at its earliest", x, new int[] {4, 6, 8},
                new int[] {0, 3, 100});
        x.hours(3, 50, 60);
        checks.due("waits twice", x.least(0, 0, 4, 0, 0), 105);
        checks.dueWay("both come to street 3 in time", x, new int[] {2, 6, 8},
                new int[] {0, 50, 100});
    }

    /** One who comes before midnight finds it closed; coming later is no way to wait. */
    private static void laterIsOpen() {
        StreetSides x = nodes(4);
        x.street(0, 1, 1, 0);
        x.street(1, 2, 2, 0);
        x.street(2, 3, 2, 0);
        x.street(1, 2, 50, 0);
        x.close(2, 0, true);
        checks.due("by the later street alone", x.least(0, 0, 2, 0, DAY - 20), 52);
        checks.dueWay("both streets come to the node", x, new int[] {6, 4},
                new int[] {DAY - 20, DAY + 30});
        x.turn(3, 2, 0, false);
        checks.due("barred", x.least(0, 0, 2, 0, DAY - 20), NONE);
        checks.due("begins at midnight", x.least(0, 0, 2, 0, DAY - 2), 4);

        StreetSides y = nodes(5);
        y.street(0, 1, 1, 0);
        y.street(1, 2, 2, 0);
        y.street(1, 2, 50, 0);
        y.street(2, 3, 3, 0);
        y.street(3, 4, 3, 0);
        y.close(4, 0, true);
        checks.due("the later way comes to street 3 later than its earliest",
                y.least(0, 0, 4, 0, DAY - 20), NONE);
        checks.due("street 3 itself is reached", y.least(0, 0, 3, 0, DAY - 20), 5);
    }

    private static void endOfDays() {
        StreetSides x = nodes(4);
        x.street(0, 1, 1, 0);
        x.street(1, 2, 10000, 0);
        x.street(2, 3, 1, 0);
        checks.due("begun in the last second", x.least(0, 0, 1, 0, 31622399), 10000);
        checks.dueWay("last second", x, new int[] {2}, new int[] {31622399});
        checks.due("none is begun behind it", x.least(0, 0, 2, 0, 31622399), NONE);
        checks.due("just in time", x.least(0, 0, 2, 0, 31612399), 10001);
        checks.due("a second late", x.least(0, 0, 2, 0, 31612400), NONE);
        x.turn(0, 1, 1, true);
        checks.due("the turn ends behind the days", x.least(0, 0, 1, 0, 31622399), NONE);
        checks.due("the turn ends in the last second", x.least(0, 0, 1, 0, 31622398), 10001);
    }

    /** There and back: in the end by every side but the one that it starts from. */
    private static void longestWay() {
        StreetSides x = nodes(8);
        for (int k = 0; k < 7; k++) {
            x.street(k, k + 1, 10, 0);
        }
        x.deadEnd(7, true);
        checks.due("there and back", x.least(0, 0, 0, 1, 0), 130);
        int[] sides = {2, 4, 6, 8, 10, 12, 13, 11, 9, 7, 5, 3, 1};
        int[] seconds = new int[sides.length];
        for (int k = 0; k < seconds.length; k++) {
            seconds[k] = 10 * k;
        }
        checks.dueWay("there and back", x, sides, seconds);
        checks.due("plain doesn't ask for side 1", x.plain(0, 6), 6);

        StreetSides y = chain();
        checks.due("all sides", y.least(0, 0, 0, 1, 0), 23);
        int[] all = new int[23];
        int[] begun = new int[23];
        for (int k = 0; k < 23; k++) {
            all[k] = k < 11 ? 2 * (k + 1) : 2 * (22 - k) + 1;
            begun[k] = k;
        }
        checks.dueWay("all sides", y, all, begun);
    }

    /** Street k goes on into street k + 1 alone, and back the same way, but for the end. */
    private static StreetSides chain() {
        int[] path = {0, 1, 2, 3, 4, 5, 6, 0, 2, 4, 6, 1, 7};
        StreetSides x = nodes(8);
        for (int k = 0; k < 12; k++) {
            x.street(path[k], path[k + 1], 1, 0);
        }
        for (int k = 0; k < 12; k++) {
            for (int m = 0; m < 12; m++) {
                if (k != m && k != m + 1 && m != k + 1) {
                    x.turn(k, m, 0, false);
                }
            }
        }
        x.deadEnd(7, true);
        return x;
    }

    /** A way goes from the end of any side, whether it can be driven or not. */
    private static void undrivenStart() {
        StreetSides x = nodes(3);
        x.street(0, 1, 5, 3);
        x.street(1, 2, 6, 0);
        checks.due("from a side that can't be driven", x.least(0, 0, 1, 0, 0), 6);
        checks.due("plain", x.plain(0, 1), 1);
        checks.due("not into it", x.least(1, 1, 0, 1, 0), NONE);
    }

    private static void plain() {
        StreetSides x = nodes(5);
        x.street(0, 1, 1, 0);
        x.street(1, 2, 1, 0);
        x.street(2, 3, 1, 0);
        x.street(1, 3, 9999, 0);
        x.street(3, 4, 1, 1);
        checks.due("the same", x.plain(4, 4), 0);
        checks.due("by few sides though slow", x.plain(0, 4), 2);
        checks.due("least takes more sides", x.least(0, 0, 4, 0, 0), 3);
        x.turn(3, 4, 1000, true);
        checks.due("a turn that takes time", x.plain(0, 4), 2);
        x.turn(3, 4, 0, false);
        checks.due("a turn that is barred", x.plain(0, 4), 3);
        checks.due("no way back", x.plain(4, 0), NONE);
        checks.due("no way to side 0", x.plain(1, 0), NONE);
        x.deadEnd(0, true);
        x.deadEnd(3, true);
        checks.due("back at two turning places", x.plain(1, 0), 4);
        x.deadEnd(3, false);
        checks.due("round the three, then back", x.plain(1, 0), 4);
        x.limit(NONE, 1, 7);
        x.limit(3, 1, 6);
        checks.due("too heavy", x.plain(1, 0), NONE);
        checks.due("from -1", x.plain(-1, 0), NONE);
        checks.due("to -1", x.plain(0, -1), NONE);
        checks.due("from 5", x.plain(5, 0), NONE);
        checks.due("to 5", x.plain(0, 5), NONE);
        checks.due("none such, both the same", x.plain(5, 5), NONE);
        checks.due("12", x.plain(12, 12), NONE);
    }

    private static void plainLooksAtNoTime() {
        StreetSides x = nodes(4);
        x.street(0, 1, 1, 0);
        x.street(1, 2, 1, 0);
        x.street(2, 3, 1, 0);
        for (int day = 0; day < 366; day++) {
            x.close(1, day, true);
        }
        x.hours(1, 10, 20);
        x.hours(2, 0, 5);
        checks.due("closures and hours not looked at", x.plain(0, 2), 2);
        checks.due("least looks at them", x.least(0, 0, 2, 0, 0), NONE);
    }
}
