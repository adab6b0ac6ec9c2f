/** Promises 1 to 8: a new object, node, street, turn, hours, limit, deadEnd, close. */
public final class BuildingTest {
    private static final int NONE = StreetSides.NONE;
    private static final Checks checks = new Checks();

    public static void main(String[] args) {
        newObject();
        nodes();
        streets();
        kinds();
        turns();
        turnsRefused();
        hours();
        limits();
        limitsRefused();
        turningPlaces();
        closures();
        checks.end();
    }

    private static void newObject() {
        StreetSides x = new StreetSides();
        checks.due("new: pieces", x.pieces(), 0);
        checks.due("new: street", x.street(0, 1, 1, 0), NONE);
        checks.due("new: deadEnd", x.deadEnd(0, true), false);
        checks.due("new: hours", x.hours(0, 0, 1), false);
        checks.due("new: close", x.close(0, 0, true), false);
        checks.due("new: turn", x.turn(0, 1, 0, true), false);
        checks.due("new: limit of a street", x.limit(0, 0, 1), false);
        checks.due("new: least", x.least(0, 0, 0, 0, 0), NONE);
        checks.due("new: plain", x.plain(0, 0), NONE);
        checks.due("new: need", x.need(0, 0), NONE);
        checks.due("new: joined", x.joined(0, 0), NONE);
        checks.due("new: span", x.span(0), NONE);
        checks.dueNoWay("new", x);
        checks.due("new: the first node", x.node(0, 0), 0);
        StreetSides y = new StreetSides();
        checks.due("another object has nodes of its own", y.pieces(), 0);
    }

    private static void nodes() {
        StreetSides x = new StreetSides();
        long[] wrong = {100001, -100001, Long.MAX_VALUE, Long.MIN_VALUE, 1L << 32, -(1L << 32)};
        for (long v : wrong) {
            checks.due("node(" + v + ", 0)", x.node(v, 0), NONE);
            checks.due("node(0, " + v + ")", x.node(0, v), NONE);
        }
        checks.due("no node yet", x.pieces(), 0);
        checks.due("node at one corner", x.node(-100000, 100000), 0);
        checks.due("node at the other", x.node(100000, -100000), 1);
        checks.due("node at the same place", x.node(100000, -100000), 2);
        for (int k = 3; k < 8; k++) {
            checks.due("node " + k, x.node(k, k), k);
        }
        checks.due("the ninth node", x.node(0, 0), NONE);
        checks.due("eight nodes", x.pieces(), 8);
        checks.due("a street to the last node", x.street(0, 7, 1, 0), 0);
        checks.due("a street behind it", x.street(0, 8, 1, 0), NONE);
    }

    private static void streets() {
        StreetSides x = new StreetSides();
        x.node(0, 0);
        x.node(3, 4);
        checks.due("a = -1", x.street(-1, 1, 1, 0), NONE);
        checks.due("b = -1", x.street(0, -1, 1, 0), NONE);
        checks.due("a = 2", x.street(2, 1, 1, 0), NONE);
        checks.due("b = 2", x.street(0, 2, 1, 0), NONE);
        checks.due("a = b", x.street(1, 1, 1, 0), NONE);
        checks.due("a great a", x.street(Integer.MAX_VALUE, 1, 1, 0), NONE);
        checks.due("a small b", x.street(0, Integer.MIN_VALUE, 1, 0), NONE);
        checks.due("0 seconds", x.street(0, 1, 0, 0), NONE);
        checks.due("-1 seconds", x.street(0, 1, -1, 0), NONE);
        checks.due("10001 seconds", x.street(0, 1, 10001, 0), NONE);
        checks.due("kind -1", x.street(0, 1, 1, -1), NONE);
        checks.due("kind 4", x.street(0, 1, 1, 4), NONE);
        checks.due("no street yet", x.span(0), NONE);
        checks.due("1 second", x.street(0, 1, 1, 0), 0);
        checks.due("10000 seconds", x.street(1, 0, 10000, 3), 1);
        for (int k = 2; k < 12; k++) {
            checks.due("street " + k, x.street(0, 1, k, k % 4), k);
        }
        checks.due("the thirteenth street", x.street(0, 1, 1, 0), NONE);
        checks.due("the last street", x.span(11), 25);
        checks.due("behind the last street", x.span(12), NONE);
        x.deadEnd(1, true);
        checks.due("back takes the street's seconds", x.least(0, 0, 0, 1, 0), 1);
    }

    private static void kinds() {
        int[][] due = {{7, 7}, {7, NONE}, {NONE, 7}, {NONE, NONE}};
        for (int kind = 0; kind < 4; kind++) {
            StreetSides x = new StreetSides();
            x.node(0, 0);
            x.node(1, 0);
            x.street(0, 1, 7, kind);
            x.deadEnd(0, true);
            x.deadEnd(1, true);
            checks.due("kind " + kind + " from A to B", x.least(0, 1, 0, 0, 9), due[kind][0]);
            checks.due("kind " + kind + " from B to A", x.least(0, 0, 0, 1, 9), due[kind][1]);
            checks.due("kind " + kind + " to the same", x.least(0, 1, 0, 1, 9), 0);
        }
    }

    private static void turns() {
        StreetSides x = Checks.row();
        checks.due("no turn takes time at first", x.least(0, 0, 1, 0, 0), 40);
        checks.due("turn of 1000", x.turn(0, 1, 1000, true), true);
        checks.due("the turn takes 1000", x.least(0, 0, 1, 0, 5), 1040);
        checks.dueWay("begun behind the turn", x, new int[] {2}, new int[] {1005});
        checks.due("the other way round it takes none", x.least(1, 1, 0, 1, 5), 30);
        checks.due("turn barred", x.turn(0, 1, 3, false), true);
        checks.due("a barred turn", x.least(0, 0, 1, 0, 5), NONE);
        checks.due("the other way round it isn't barred", x.least(1, 1, 0, 1, 5), 30);
        checks.due("turn of 0", x.turn(0, 1, 0, true), true);
        checks.due("the turn takes none", x.least(0, 0, 1, 0, 5), 40);
        x.street(0, 2, 1, 0);
        checks.due("a turn between streets that don't meet", x.turn(0, 2, 9, true), true);
        checks.due("a turn from the last street", x.turn(2, 0, 9, false), true);
    }

    private static void turnsRefused() {
        StreetSides x = Checks.row();
        x.turn(0, 1, 6, true);
        boolean[] either = {true, false};
        for (boolean allowed : either) {
            checks.due("turn from -1", x.turn(-1, 1, 2, allowed), false);
            checks.due("turn into -1", x.turn(0, -1, 2, allowed), false);
            checks.due("turn from 2", x.turn(2, 1, 2, allowed), false);
            checks.due("turn into 2", x.turn(0, 2, 2, allowed), false);
            checks.due("turn into the same", x.turn(1, 1, 2, allowed), false);
            checks.due("turn of -1", x.turn(0, 1, -1, allowed), false);
            checks.due("turn of 1001", x.turn(0, 1, 1001, allowed), false);
            checks.due("turn from 12", x.turn(12, 1, 2, allowed), false);
        }
        checks.due("what was refused changed nothing", x.least(0, 0, 1, 0, 0), 46);
        x.deadEnd(1, true);
        checks.due("nor the turn back", x.least(0, 0, 0, 1, 0), 30);
        x.turn(0, 1, 6, false);
        checks.due("refused", x.turn(0, 1, 1001, true), false);
        checks.due("still barred", x.least(0, 0, 1, 0, 0), NONE);
    }

    private static void hours() {
        StreetSides x = Checks.row();
        checks.due("at first to the last second", x.least(0, 0, 1, 0, 86399), 40);
        checks.due("hours", x.hours(1, 100, 200), true);
        checks.due("a second before", x.least(0, 0, 1, 0, 99), 41);
        checks.dueWay("waits", x, new int[] {2}, new int[] {100});
        checks.due("the first second", x.least(0, 0, 1, 0, 100), 40);
        checks.due("the last second", x.least(0, 0, 1, 0, 200), 40);
        checks.due("a second behind", x.least(0, 0, 1, 0, 201), NONE);
        checks.due("the next day", x.least(0, 0, 1, 0, 86400), 140);
        checks.due("the last day", x.least(0, 0, 1, 0, 365 * 86400 + 50), 90);
        checks.dueWay("waits on the last day", x, new int[] {2}, new int[] {365 * 86400 + 100});
        checks.due("the other street has hours of its own", x.least(1, 1, 0, 1, 0), 30);

        checks.due("street -1", x.hours(-1, 0, 1), false);
        checks.due("street 2", x.hours(2, 0, 1), false);
        checks.due("from -1", x.hours(1, -1, 1), false);
        checks.due("to 86400", x.hours(1, 0, 86400), false);
        checks.due("from behind to", x.hours(1, 2, 1), false);
        checks.due("both too great", x.hours(1, 86400, 86400), false);
        checks.due("both too small", x.hours(1, -2, -1), false);
        checks.due("what was refused changed nothing", x.least(0, 0, 1, 0, 0), 140);

        checks.due("one second alone", x.hours(1, 5, 5), true);
        checks.due("at it", x.least(0, 0, 1, 0, 5), 40);
        checks.due("behind it", x.least(0, 0, 1, 0, 6), NONE);
        checks.due("the day's last second alone", x.hours(1, 86399, 86399), true);
        checks.due("waits for it", x.least(0, 0, 1, 0, 0), 86399 + 40);
        checks.due("the day's first second alone", x.hours(1, 0, 0), true);
        checks.due("at 0", x.least(0, 0, 1, 0, 86400), 40);
        checks.due("the whole day", x.hours(1, 0, 86399), true);
        checks.due("ends behind its hours", x.least(0, 0, 1, 0, 86399), 40);
        x.hours(1, 100, 200);
        x.turn(0, 1, 10, true);
        checks.due("the turn ends in the last second", x.least(0, 0, 1, 0, 190), 50);
        checks.due("the turn ends behind it", x.least(0, 0, 1, 0, 191), NONE);
        checks.due("turned first, then waited", x.least(0, 0, 1, 0, 95), 50);
        checks.dueWay("begun", x, new int[] {2}, new int[] {105});
    }

    private static void limits() {
        for (int what = 0; what < 2; what++) {
            StreetSides x = Checks.row();
            String of = what == 0 ? "height: " : "weight: ";
            checks.due(of + "the vehicle's greatest", x.limit(NONE, what, 1000000), true);
            checks.due(of + "goes at first", x.least(0, 0, 1, 0, 0), 40);
            checks.due(of + "a street's", x.limit(1, what, 999999), true);
            checks.due(of + "too much", x.least(0, 0, 1, 0, 0), NONE);
            checks.due(of + "too much, plain", x.plain(0, 1), NONE);
            checks.due(of + "the other street", x.least(1, 1, 0, 1, 0), 30);
            x.limit(NONE, what, 999999);
            checks.due(of + "as much", x.least(0, 0, 1, 0, 0), 40);
            checks.due(of + "0 for a street", x.limit(1, what, 0), true);
            checks.due(of + "more than 0", x.least(0, 0, 1, 0, 0), NONE);
            checks.due(of + "0 for the vehicle", x.limit(NONE, what, 0), true);
            checks.due(of + "0 is not more than 0", x.least(0, 0, 1, 0, 0), 40);
            x.limit(NONE, 1 - what, 5);
            checks.due(of + "the other limit is apart", x.least(0, 0, 1, 0, 0), 40);
        }
        StreetSides y = Checks.row();
        y.limit(0, 0, 0);
        y.limit(NONE, 0, 1);
        checks.due("only sides gone into must be driven", y.least(0, 0, 1, 0, 0), 40);
    }

    private static void limitsRefused() {
        StreetSides x = Checks.row();
        x.limit(NONE, 0, 50);
        x.limit(NONE, 1, 50);
        x.limit(1, 0, 50);
        x.limit(1, 1, 50);
        int[] all = {NONE, 0, 1};
        for (int street : all) {
            checks.due("what = -1", x.limit(street, -1, 5), false);
            checks.due("what = 2", x.limit(street, 2, 5), false);
            checks.due("v = -1", x.limit(street, 0, -1), false);
            checks.due("v = 1000001", x.limit(street, 1, 1000001), false);
            checks.due("v = 2^32", x.limit(street, 0, 1L << 32), false);
            checks.due("v small", x.limit(street, 1, Long.MIN_VALUE), false);
        }
        checks.due("street -2", x.limit(-2, 0, 5), false);
        checks.due("street 2", x.limit(2, 0, 5), false);
        checks.due("street great", x.limit(Integer.MAX_VALUE, 1, 5), false);
        checks.due("what was refused changed nothing", x.least(0, 0, 1, 0, 0), 40);
        x.limit(NONE, 0, 51);
        checks.due("nor the street's height", x.least(0, 0, 1, 0, 0), NONE);
        x.limit(NONE, 0, 50);
        x.limit(NONE, 1, 51);
        checks.due("nor the street's weight", x.least(0, 0, 1, 0, 0), NONE);
    }

    private static void turningPlaces() {
        StreetSides x = Checks.row();
        checks.due("none at first", x.least(0, 0, 0, 1, 0), NONE);
        checks.due("deadEnd", x.deadEnd(1, true), true);
        checks.due("back", x.least(0, 0, 0, 1, 0), 30);
        checks.due("back by the other street", x.least(1, 1, 1, 0, 0), 40);
        checks.due("no other node", x.least(0, 1, 0, 0, 0), NONE);
        checks.due("node -1", x.deadEnd(-1, true), false);
        checks.due("node 3", x.deadEnd(3, true), false);
        checks.due("node 8", x.deadEnd(8, true), false);
        checks.due("no more", x.deadEnd(1, false), true);
        checks.due("not back", x.least(0, 0, 0, 1, 0), NONE);
        StreetSides y = new StreetSides();
        y.node(0, 0);
        y.node(1, 0);
        y.deadEnd(1, true);
        y.street(0, 1, 5, 0);
        y.street(0, 1, 9, 0);
        checks.due("a turning place before its streets", y.least(0, 0, 0, 1, 0), 5);
        y.deadEnd(1, false);
        checks.due("back by another street needs none", y.least(0, 0, 1, 1, 0), 9);
        y.turn(0, 1, 0, false);
        checks.due("unless that turn is barred", y.least(0, 0, 1, 1, 0), NONE);
    }

    private static void closures() {
        int[] days = {0, 1, 31, 32, 62, 63, 64, 65, 127, 128, 364, 365};
        for (int day : days) {
            StreetSides x = Checks.row();
            String on = "day " + day + ": ";
            int midnight = day * 86400;
            checks.due(on + "close", x.close(1, day, true), true);
            checks.due(on + "first second", x.least(0, 0, 1, 0, midnight), NONE);
            checks.due(on + "last second", x.least(0, 0, 1, 0, midnight + 86399), NONE);
            checks.due(on + "the other street", x.least(1, 1, 0, 1, midnight), 30);
            if (day > 0) {
                checks.due(on + "the day before", x.least(0, 0, 1, 0, midnight - 1), 40);
            }
            if (day < 365) {
                checks.due(on + "the day behind", x.least(0, 0, 1, 0, midnight + 86400), 40);
            }
            checks.due(on + "close twice", x.close(1, day, true), true);
            checks.due(on + "still closed", x.least(0, 0, 1, 0, midnight), NONE);
            checks.due(on + "open", x.close(1, day, false), true);
            checks.due(on + "open twice", x.close(1, day, false), true);
            checks.due(on + "is open", x.least(0, 0, 1, 0, midnight), 40);
        }
        StreetSides x = Checks.row();
        checks.due("street -1", x.close(-1, 0, true), false);
        checks.due("street 2", x.close(2, 0, true), false);
        checks.due("day -1", x.close(1, -1, true), false);
        checks.due("day 366", x.close(1, 366, true), false);
        checks.due("day great", x.close(1, Integer.MAX_VALUE, true), false);
        checks.due("street 12", x.close(12, 0, true), false);
        checks.due("nothing is closed", x.least(0, 0, 1, 0, 365 * 86400), 40);
        x.close(1, 2, true);
        x.hours(1, 100, 200);
        checks.due("closed before its hours too", x.least(0, 0, 1, 0, 2 * 86400), NONE);
        x.hours(1, 0, 86399);
        x.turn(0, 1, 10, true);
        checks.due("the turn ends on the closed day", x.least(0, 0, 1, 0, 2 * 86400 - 10), NONE);
        checks.due("the turn ends before it", x.least(0, 0, 1, 0, 2 * 86400 - 11), 50);
        checks.due("the turn ends behind it", x.least(0, 0, 1, 0, 3 * 86400 - 10), 50);
        StreetSides y = Checks.row();
        y.street(0, 2, 5, 0);
        for (int day = 0; day < 366; day++) {
            y.close(1, day, true);
        }
        checks.due("closed all days", y.least(0, 0, 1, 0, 200 * 86400), NONE);
        checks.due("the street before it isn't", y.least(1, 1, 0, 1, 365 * 86400), 30);
        checks.due("nor is the one behind it", y.least(0, 1, 2, 0, 0), 5);
    }
}
