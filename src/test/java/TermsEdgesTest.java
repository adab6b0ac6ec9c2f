/**
 * The edges that the document names under "Terms", a method for each sentence: the last value that
 * is such and the first that is not, none yet and as many as there may be.
 */
public final class TermsEdgesTest {
    private static final int NONE = StreetSides.NONE;
    private static final int DAY = 86400;
    private static final int LAST = 366 * DAY - 1;
    private static final Checks checks = new Checks();

    public static void main(String[] args) {
        eightNodesAtMost();
        twelveStreetsAtMost();
        fromANodeToAnotherOne();
        secondsOneToTenThousand();
        kindsZeroToThree();
        twoSides();
        greatestAtFirst();
        vehicleAtFirst();
        hoursAtFirst();
        noDayClosedAtFirst();
        neitherMoreThanTheStreets();
        beginsAtThatNode();
        noTurnBarredAtFirst();
        backOnlyAtATurningPlace();
        turnTakesItsSeconds();
        dayIsTimeOverSecondsOfADay();
        fromTheFirstSecondToTheLast();
        beforeThemWhenTheyBegin();
        elseNeverByThisWay();
        endsItsSecondsLater();
        daysBehindTheLast();
        onlyAtTheEarliestSecond();
        numberOfASide();
        firstByTheNumbers();
        fiveHundredAndTwelveCalls();
        checks.end();
    }

    private static StreetSides nodes(int count) {
        StreetSides x = new StreetSides();
        for (int k = 0; k < count; k++) {
            x.node(k, 0);
        }
        return x;
    }

    /** "There are NODES, numbered from 0 on, 8 at most". */
    private static void eightNodesAtMost() {
        StreetSides x = new StreetSides();
        for (int k = 0; k < 8; k++) {
            checks.due("node " + k + " is not there yet", x.deadEnd(k, true), false);
            checks.due("node " + k, x.node(5, 5), k);
            checks.due("node " + k + " is there", x.deadEnd(k, true), true);
        }
        checks.due("the ninth", x.node(5, 5), NONE);
        checks.due("the ninth again", x.node(-5, 5), NONE);
        checks.due("there is no ninth", x.deadEnd(8, true), false);
        checks.due("eight", x.pieces(), 8);
    }

    /** "STREETS, numbered likewise, 12 at most". */
    private static void twelveStreetsAtMost() {
        StreetSides x = nodes(3);
        for (int k = 0; k < 12; k++) {
            checks.due("street " + k + " is not there yet", x.span(k), NONE);
            checks.due("street " + k, x.street(0, 1, 1, 0), k);
            checks.due("street " + k + " is there", x.span(k), 1);
        }
        checks.due("the thirteenth", x.street(0, 1, 1, 0), NONE);
        checks.due("the thirteenth to another node", x.street(0, 2, 1, 0), NONE);
        checks.due("there is no thirteenth", x.span(12), NONE);
        checks.due("it joined no node", x.pieces(), 2);
    }

    /** "each from a node A to another one B". */
    private static void fromANodeToAnotherOne() {
        StreetSides x = nodes(8);
        for (int k = 0; k < 8; k++) {
            checks.due("from " + k + " to itself", x.street(k, k, 1, 0), NONE);
        }
        checks.due("from the first to the last", x.street(0, 7, 1, 0), 0);
        checks.due("from the last to the first", x.street(7, 0, 1, 0), 1);
        checks.due("to a node of the same place is to another one", nodeTwice().street(0, 1, 1, 0),
                0);
    }

    private static StreetSides nodeTwice() {
        StreetSides x = new StreetSides();
        x.node(9, 9);
        x.node(9, 9);
        return x;
    }

    /** "with seconds 1 .. 10000 that it takes". */
    private static void secondsOneToTenThousand() {
        int[] such = {1, 2, 9999, 10000};
        for (int seconds : such) {
            StreetSides x = nodes(2);
            x.deadEnd(1, true);
            checks.due(seconds + " seconds", x.street(0, 1, seconds, 0), 0);
            checks.due("it takes " + seconds, x.least(0, 0, 0, 1, 0), seconds);
        }
        int[] wrong = {0, -1, 10001, Integer.MAX_VALUE, Integer.MIN_VALUE};
        for (int seconds : wrong) {
            checks.due(seconds + " seconds", nodes(2).street(0, 1, seconds, 0), NONE);
        }
    }

    /** "a kind: 0 both ways, 1 from A to B alone, 2 from B to A alone, 3 neither". */
    private static void kindsZeroToThree() {
        boolean[][] ways = {{true, true}, {true, false}, {false, true}, {false, false}};
        for (int kind = 0; kind < 4; kind++) {
            StreetSides x = nodes(2);
            x.deadEnd(0, true);
            x.deadEnd(1, true);
            checks.due("kind " + kind, x.street(0, 1, 1, kind), 0);
            int there = x.least(0, 1, 0, 0, 0);
            int back = x.least(0, 0, 0, 1, 0);
            checks.due("kind " + kind + " from A to B", there, ways[kind][0] ? 1 : NONE);
            checks.due("kind " + kind + " from B to A", back, ways[kind][1] ? 1 : NONE);
        }
        int[] wrong = {-1, 4, 5, Integer.MAX_VALUE, Integer.MIN_VALUE};
        for (int kind : wrong) {
            checks.due("kind " + kind, nodes(2).street(0, 1, 1, kind), NONE);
        }
    }

    /** "A street has two SIDES: 0, which is driven from A to B, and 1, from B to A." */
    private static void twoSides() {
        StreetSides x = nodes(4);
        x.street(1, 2, 5, 0);
        x.street(2, 3, 6, 0);
        x.street(1, 0, 7, 0);
        checks.due("side 0 ends at B", x.least(0, 0, 1, 0, 0), 6);
        checks.due("side 1 ends at A", x.least(0, 1, 2, 0, 0), 7);
        checks.due("side 0 does not end at A", x.least(0, 0, 2, 0, 0), NONE);
        checks.due("side 1 does not end at B", x.least(0, 1, 1, 0, 0), NONE);
        checks.due("side 0 begins at A", x.least(2, 1, 0, 0, 0), 5);
        checks.due("side 1 begins at B", x.least(1, 1, 0, 1, 0), 5);
        int[] wrong = {-1, 2, 3, Integer.MAX_VALUE, Integer.MIN_VALUE};
        for (int side : wrong) {
            checks.due("from side " + side, x.least(0, side, 1, 0, 0), NONE);
            checks.due("to side " + side, x.least(0, 0, 1, side, 0), NONE);
            checks.due("need on side " + side, x.need(0, side), NONE);
        }
        checks.due("need on side 0", x.need(0, 0), 0);
        checks.due("need on side 1", x.need(0, 1), 1);
    }

    /** "A street's GREATEST height and weight are 1000000 at first". */
    private static void greatestAtFirst() {
        for (int what = 0; what < 2; what++) {
            StreetSides x = Checks.row();
            x.limit(NONE, what, 1000000);
            checks.due("1000000 goes at first, " + what, x.least(0, 0, 1, 0, 0), 40);
            checks.due("plain too, " + what, x.plain(0, 1), 1);
        }
        StreetSides y = Checks.row();
        y.limit(NONE, 0, 1000000);
        y.limit(NONE, 1, 1000000);
        y.street(0, 2, 8, 0);
        checks.due("a street that comes later too", y.least(0, 1, 2, 0, 0), 8);
    }

    /** "the vehicle's own are 0 at first". */
    private static void vehicleAtFirst() {
        for (int what = 0; what < 2; what++) {
            StreetSides x = Checks.row();
            x.limit(1, what, 0);
            checks.due("0 is not more than 0, " + what, x.least(0, 0, 1, 0, 0), 40);
            x.limit(NONE, what, 1);
            checks.due("1 is more than 0, " + what, x.least(0, 0, 1, 0, 0), NONE);
        }
    }

    /** "A street has HOURS, 0 .. 86399 at first". */
    private static void hoursAtFirst() {
        StreetSides x = Checks.row();
        int[] times = {0, 1, 43200, DAY - 1, DAY, 365 * DAY, LAST};
        for (int time : times) {
            checks.due("at once at " + time, x.least(0, 0, 1, 0, time), 40);
            checks.due("begun at " + time, x.begun(0), time);
        }
    }

    /** "and days, 0 .. 365, on which it is CLOSED (none at first)". */
    private static void noDayClosedAtFirst() {
        StreetSides x = Checks.row();
        for (int day = 0; day <= 365; day++) {
            checks.due("open on day " + day, x.least(0, 0, 1, 0, day * DAY), 40);
        }
        checks.due("day -1", x.close(1, -1, true), false);
        checks.due("day 366", x.close(1, 366, true), false);
        checks.due("day 0", x.close(1, 0, true), true);
        checks.due("closed on the first day", x.least(0, 0, 1, 0, 0), NONE);
        checks.due("open on the second", x.least(0, 0, 1, 0, DAY), 40);
        checks.due("day 365", x.close(1, 365, true), true);
        checks.due("closed on the last day", x.least(0, 0, 1, 0, LAST), NONE);
        checks.due("open on the last but one", x.least(0, 0, 1, 0, 365 * DAY - 1), 40);
    }

    /** "neither the vehicle's height nor its weight is more than the street's". */
    private static void neitherMoreThanTheStreets() {
        long[] limits = {0, 1, 500, 999999};
        for (long v : limits) {
            for (int what = 0; what < 2; what++) {
                StreetSides x = Checks.row();
                x.limit(1, what, v);
                x.limit(NONE, what, v);
                checks.due("as much as " + v, x.least(0, 0, 1, 0, 0), 40);
                checks.due("as much, plain", x.plain(0, 1), 1);
                x.limit(NONE, what, v + 1);
                checks.due("one more than " + v, x.least(0, 0, 1, 0, 0), NONE);
                checks.due("one more, plain", x.plain(0, 1), NONE);
                x.limit(NONE, what, 0);
                x.limit(NONE, 1 - what, v + 1);
                checks.due("more of the other", x.least(0, 0, 1, 0, 0), 40);
            }
        }
    }

    /** "one goes on into a side that can be driven and begins at that node". */
    private static void beginsAtThatNode() {
        StreetSides x = nodes(3);
        x.street(0, 1, 5, 0);
        x.street(2, 1, 6, 0);
        checks.due("into the side that begins there", x.least(0, 0, 1, 1, 0), 6);
        checks.due("not into the one that ends there", x.least(0, 0, 1, 0, 0), NONE);
        StreetSides y = nodes(3);
        y.street(0, 1, 5, 0);
        y.street(2, 1, 6, 1);
        checks.due("the side that begins there has no way", y.least(0, 0, 1, 1, 0), NONE);
        StreetSides z = nodeTwice();
        z.node(8, 8);
        z.node(7, 7);
        z.street(2, 0, 5, 0);
        z.street(1, 3, 6, 0);
        checks.due("a node of the same place is another one", z.least(0, 0, 1, 0, 0), NONE);
    }

    /** "unless the TURN from one street into the other is barred (no turn is at first)". */
    private static void noTurnBarredAtFirst() {
        StreetSides x = nodes(2);
        for (int k = 0; k < 12; k++) {
            x.street(0, 1, k + 1, 0);
        }
        for (int from = 0; from < 12; from++) {
            for (int into = 0; into < 12; into++) {
                if (from != into) {
                    checks.due("from " + from + " into " + into, x.least(from, 0, into, 1, 0),
                            into + 1);
                }
            }
        }
        x.turn(11, 0, 0, false);
        checks.due("that one is barred, so it goes round", x.least(11, 0, 0, 1, 0), 6);
        checks.dueWay("goes round", x, new int[] {3, 4, 1}, new int[] {0, 2, 5});
        checks.due("the other way round it isn't", x.least(0, 0, 11, 1, 0), 12);
        checks.due("nor from another one", x.least(10, 0, 0, 1, 0), 1);
        checks.due("nor into another one", x.least(11, 0, 1, 1, 0), 2);
        x.turn(11, 0, 0, true);
        checks.due("no more", x.least(11, 0, 0, 1, 0), 1);
    }

    /** "of the same street (back) only at a TURNING PLACE". */
    private static void backOnlyAtATurningPlace() {
        StreetSides x = nodes(8);
        for (int k = 0; k < 7; k++) {
            x.street(k, k + 1, 5, 0);
        }
        for (int k = 0; k < 7; k++) {
            checks.due("none at first, at B of " + k, x.least(k, 0, k, 1, 0), NONE);
            checks.due("none at first, at A of " + k, x.least(k, 1, k, 0, 0), NONE);
        }
        x.deadEnd(0, true);
        checks.due("at node 0", x.least(0, 1, 0, 0, 0), 5);
        checks.due("not at node 1", x.least(1, 1, 1, 0, 0), 15);
        x.deadEnd(0, false);
        checks.due("no more at node 0", x.least(0, 1, 0, 0, 0), NONE);
        x.deadEnd(7, true);
        checks.due("at node 7", x.least(6, 0, 6, 1, 0), 5);
        checks.due("not at node 6", x.least(5, 0, 5, 1, 0), 15);
    }

    /** "A turn takes its seconds (0 at first; back takes none)." */
    private static void turnTakesItsSeconds() {
        StreetSides x = Checks.row();
        checks.due("0 at first", x.least(0, 0, 1, 0, 0), 40);
        int[] such = {0, 1, 999, 1000};
        for (int seconds : such) {
            x.turn(0, 1, seconds, true);
            checks.due("it takes " + seconds, x.least(0, 0, 1, 0, 0), 40 + seconds);
            checks.due("begun behind it", x.begun(0), seconds);
        }
        x.turn(1, 0, 1000, true);
        x.deadEnd(1, true);
        checks.due("back takes none", x.least(0, 0, 0, 1, 3), 30);
        checks.due("back is begun at once", x.begun(0), 3);
    }

    /** "the DAY is it over 86400, down, what is left is the time of day". */
    private static void dayIsTimeOverSecondsOfADay() {
        StreetSides x = Checks.row();
        x.close(1, 1, true);
        checks.due("86399 is on day 0", x.least(0, 0, 1, 0, 86399), 40);
        checks.due("86400 is on day 1", x.least(0, 0, 1, 0, 86400), NONE);
        checks.due("172799 is on day 1", x.least(0, 0, 1, 0, 172799), NONE);
        checks.due("172800 is on day 2", x.least(0, 0, 1, 0, 172800), 40);
        x.hours(1, 0, 0);
        checks.due("the time of day of 0 is 0", x.least(0, 0, 1, 0, 0), 40);
        checks.due("the time of day of 1 is 1", x.least(0, 0, 1, 0, 1), NONE);
        checks.due("the time of day of 172800 is 0", x.least(0, 0, 1, 0, 172800), 40);
        checks.due("the time of day of 172801 is 1", x.least(0, 0, 1, 0, 172801), NONE);
        x.hours(1, 86399, 86399);
        checks.due("the time of day of 259199 is 86399", x.least(0, 0, 1, 0, 259199), 40);
        checks.due("the time of day of 259200 is 0", x.least(0, 0, 1, 0, 259200), 86399 + 40);
    }

    /** "at once, if .. the time of day is in its hours, from the first second to the last". */
    private static void fromTheFirstSecondToTheLast() {
        int[] days = {0, 1, 365};
        for (int day : days) {
            StreetSides x = Checks.row();
            x.hours(1, 1000, 2000);
            int midnight = day * DAY;
            checks.due("in the first second", x.least(0, 0, 1, 0, midnight + 1000), 40);
            checks.due("begun in it", x.begun(0), midnight + 1000);
            checks.due("in the last second", x.least(0, 0, 1, 0, midnight + 2000), 40);
            checks.due("begun in that", x.begun(0), midnight + 2000);
            checks.due("behind the last", x.least(0, 0, 1, 0, midnight + 2001), NONE);
            x.hours(1, 1500, 1500);
            checks.due("in the only second", x.least(0, 0, 1, 0, midnight + 1500), 40);
            checks.due("behind the only one", x.least(0, 0, 1, 0, midnight + 1501), NONE);
        }
    }

    /** "if the time of day is before them, when they begin". */
    private static void beforeThemWhenTheyBegin() {
        StreetSides x = Checks.row();
        x.hours(1, 1000, 2000);
        checks.due("from the day's first second on", x.least(0, 0, 1, 0, 0), 1040);
        checks.due("begun when they begin", x.begun(0), 1000);
        checks.due("a second before", x.least(0, 0, 1, 0, 999), 41);
        checks.due("begun a second later", x.begun(0), 1000);
        checks.due("on the last day", x.least(0, 0, 1, 0, 365 * DAY + 999), 41);
        checks.due("begun on the last day", x.begun(0), 365 * DAY + 1000);
        x.turn(0, 1, 1, true);
        checks.due("the turn is over when they begin", x.least(0, 0, 1, 0, 999), 41);
        checks.due("the turn is over a second before", x.least(0, 0, 1, 0, 998), 42);
        checks.due("the turn is over a second behind", x.least(0, 0, 1, 0, 1000), 41);
        checks.due("begun behind the turn", x.begun(0), 1001);
        x.turn(0, 1, 1000, true);
        checks.due("a turn over midnight comes before them", x.least(0, 0, 1, 0, DAY - 1), 1041);
        checks.due("begun on the next day", x.begun(0), DAY + 1000);
    }

    /** "else never (by this way)". */
    private static void elseNeverByThisWay() {
        StreetSides x = nodes(4);
        x.street(0, 1, 1, 0);
        x.street(1, 2, 10, 0);
        x.street(2, 3, 10, 0);
        x.street(1, 2, 20, 0);
        x.hours(1, 0, 500);
        checks.due("in its last second", x.least(0, 0, 2, 0, 500), 20);
        checks.due("by the street that is open", x.way(0), 2);
        checks.due("behind its hours never", x.least(0, 0, 1, 0, 501), NONE);
        checks.due("not even the next day, but by another way", x.least(0, 0, 2, 0, 501), 30);
        checks.due("by the other street", x.way(0), 6);
        x.hours(1, 0, 86399);
        x.close(1, 0, true);
        checks.due("closed: never", x.least(0, 0, 1, 0, DAY - 1), NONE);
        checks.due("closed: by the other street", x.least(0, 0, 2, 0, DAY - 1), 30);
        x.hours(1, 100, 200);
        checks.due("closed before its hours: never", x.least(0, 0, 1, 0, 99), NONE);
        checks.due("closed in its hours: never", x.least(0, 0, 1, 0, 100), NONE);
        checks.due("the next day it is open", x.least(0, 0, 1, 0, DAY), 110);
    }

    /** "It ends its seconds later": whatever hours, days and closures it ends in. */
    private static void endsItsSecondsLater() {
        StreetSides x = nodes(3);
        x.street(0, 1, 1, 0);
        x.street(1, 2, 10000, 0);
        x.hours(1, 1000, 2000);
        x.close(1, 1, true);
        checks.due("behind its hours", x.least(0, 0, 1, 0, 2000), 10000);
        x.hours(1, 0, 86399);
        checks.due("on a day that it is closed on", x.least(0, 0, 1, 0, DAY - 1), 10000);
        checks.due("behind all days", x.least(0, 0, 1, 0, LAST), 10000);
        checks.due("at the first second behind all days", x.least(0, 0, 1, 0, LAST - 9999), 10000);
    }

    /** "Days behind 365 have no streets." */
    private static void daysBehindTheLast() {
        StreetSides x = nodes(4);
        x.street(0, 1, 1, 0);
        x.street(1, 2, 10, 0);
        x.street(2, 3, 10, 0);
        checks.due("begun in the last second", x.least(0, 0, 2, 0, LAST - 10), 20);
        checks.dueWay("in the last second", x, new int[] {2, 4}, new int[] {LAST - 10, LAST});
        checks.due("begun a second later", x.least(0, 0, 2, 0, LAST - 9), NONE);
        checks.dueNoWay("a second later", x);
        checks.due("the first of them is begun", x.least(0, 0, 1, 0, LAST - 9), 10);
        x.turn(0, 1, 1000, true);
        checks.due("turned in the last second", x.least(0, 0, 1, 0, LAST - 1000), 1010);
        checks.due("turned a second later", x.least(0, 0, 1, 0, LAST - 999), NONE);
        checks.due("turned on day 366", x.least(0, 0, 1, 0, LAST), NONE);
        x.turn(0, 1, 0, true);
        x.hours(1, 5, 10);
        checks.due("hours on day 366 are none to wait for", x.least(0, 0, 1, 0, LAST), NONE);
        x.turn(0, 1, 1, true);
        checks.due("not even if the turn ends there", x.least(0, 0, 1, 0, LAST), NONE);
        x.deadEnd(1, true);
        x.hours(0, 0, 86399);
        checks.due("to the same it takes no street", x.least(0, 0, 0, 0, LAST), 0);
        checks.due("back in the last second", x.least(0, 0, 0, 1, LAST), 1);
    }

    /** "it goes on from the end of a side only at the earliest second at which any way comes". */
    private static void onlyAtTheEarliestSecond() {
        StreetSides x = nodes(5);
        x.street(0, 1, 1, 0);
        x.street(1, 2, 20, 0);
        x.street(1, 2, 10, 0);
        x.street(2, 3, 5, 0);
        x.street(3, 4, 5, 0);
        x.turn(1, 3, 0, true);
        x.turn(2, 3, 10, true);
        checks.due("both at the same second", x.least(0, 0, 4, 0, 0), 30);
        checks.due("then the numbers decide", x.way(0), 2);
        x.turn(2, 3, 9, true);
        x.hours(4, 60, 99);
        checks.due("one is a second earlier", x.least(0, 0, 4, 0, 0), 65);
        checks.due("then it alone goes on, though both wait", x.way(0), 4);
        x.turn(2, 3, 11, true);
        checks.due("one is a second later", x.least(0, 0, 4, 0, 0), 65);
        checks.due("then the other alone goes on", x.way(0), 2);
        x.hours(4, 0, 86399);
        x.close(4, 0, true);
        x.turn(2, 3, 9, true);
        checks.due("a second before midnight it is closed", x.least(0, 0, 4, 0, DAY - 25), NONE);
        checks.due("at midnight it is open", x.least(0, 0, 4, 0, DAY - 24), 29);
    }

    /** "Its NUMBER of a side is twice the street and the side." */
    private static void numberOfASide() {
        StreetSides x = nodes(2);
        x.deadEnd(0, true);
        x.deadEnd(1, true);
        for (int k = 0; k < 12; k++) {
            x.street(0, 1, 5, 0);
            x.least(k, 1, k, 0, 0);
            checks.due("side 0 of " + k, x.way(0), 2 * k);
            x.least(k, 0, k, 1, 0);
            checks.due("side 1 of " + k, x.way(0), 2 * k + 1);
        }
    }

    /** "of those to its end, the first: by the numbers of its sides". */
    private static void firstByTheNumbers() {
        StreetSides x = nodes(4);
        x.street(0, 1, 1, 0);
        x.street(2, 3, 4, 0);
        x.street(1, 2, 6, 0);
        x.street(2, 1, 6, 0);
        x.street(1, 2, 6, 0);
        checks.due("three at the same second", x.least(0, 0, 1, 0, 0), 10);
        checks.dueWay("4 is before 7 and 8", x, new int[] {4, 2}, new int[] {0, 6});
        x.turn(0, 2, 1, true);
        checks.due("two at the same second", x.least(0, 0, 1, 0, 0), 10);
        checks.dueWay("7 is before 8", x, new int[] {7, 2}, new int[] {0, 6});
        x.turn(0, 3, 1, true);
        checks.due("one", x.least(0, 0, 1, 0, 0), 10);
        checks.dueWay("8 alone", x, new int[] {8, 2}, new int[] {0, 6});
        x.turn(0, 4, 1, true);
        checks.due("all a second later", x.least(0, 0, 1, 0, 0), 11);
        checks.dueWay("4 again", x, new int[] {4, 2}, new int[] {1, 7});
    }

    /** "An object is used for at most 512 calls after it has been made". */
    private static void fiveHundredAndTwelveCalls() {
        StreetSides x = Checks.row();
        for (int call = 6; call <= 511; call++) {
            x.need(1, 0);
        }
        checks.due("the 512th call", x.least(0, 0, 1, 0, 0), 40);
    }
}
