import java.util.Random;

/** Long runs of calls, made up but always the same, answered as the plain model answers them. */
public final class ModelTest {
    private static final int RUNS = 3000;
    private static final int CALLS = 512;
    private static final int DAY = 86400;
    private static final int[] WILD = {
        -1, -2, 2, 3, 8, 12, 20, 24, 366, 1001, 10001, 86400, 31622400,
        Integer.MAX_VALUE, Integer.MIN_VALUE,
    };
    private static final long[] WILD_LONG = {
        -1, 100001, -100001, 1000001, 1L << 32, -(1L << 32), Long.MAX_VALUE, Long.MIN_VALUE,
    };

    private static final Checks checks = new Checks();
    private static Random random;
    private static int maxSeconds;
    private static int withTies = 0;
    private static int longWays = 0;
    private static int noWays = 0;

    public static void main(String[] args) {
        for (int run = 0; run < RUNS; run++) {
            random = new Random(run);
            maxSeconds = run % 3 == 0 ? 3 : run % 3 == 1 ? 40 : 10000;
            play("run " + run);
        }
        checks.due("many ways were chosen among several (" + withTies + ")", withTies > 1000, true);
        checks.due("many ways were long (" + longWays + ")", longWays > 1000, true);
        checks.due("often there was no way (" + noWays + ")", noWays > 1000, true);
        checks.end();
    }

    private static void play(String run) {
        StreetSides x = new StreetSides();
        Model m = new Model();
        int nodes = 2 + random.nextInt(7);
        int streets = 1 + random.nextInt(12);
        int call = 0;
        for (; call < nodes; call++) {
            node(run, x, m);
        }
        for (; call < nodes + streets; call++) {
            street(run, x, m);
        }
        for (int place = random.nextInt(4); place > 0; place--, call++) {
            deadEnd(run, x, m);
        }
        for (; call < CALLS; call++) {
            step(run, x, m);
        }
        // What later calls answer is free, but they end and don't throw.
        for (call = 0; call < 20; call++) {
            x.least(random.nextInt(12), 0, random.nextInt(12), 1, 0);
            x.node(0, 0);
            x.street(0, 1, 1, 0);
            x.need(0, 0);
        }
    }

    private static void step(String run, StreetSides x, Model m) {
        switch (random.nextInt(24)) {
            case 0: node(run, x, m); break;
            case 1: street(run, x, m); break;
            case 2: case 3: turn(run, x, m); break;
            case 4: hours(run, x, m); break;
            case 5: limit(run, x, m); break;
            case 6: deadEnd(run, x, m); break;
            case 7: close(run, x, m); break;
            case 8: need(run, x, m); break;
            case 9: case 10: joined(run, x, m); break;
            case 11: checks.due(run + ": pieces", x.pieces(), m.pieces()); break;
            case 12: span(run, x, m); break;
            case 13: case 14: plain(run, x, m); break;
            case 15: case 16: held(run, x, m); break;
            default: least(run, x, m); break;
        }
    }

    private static int some(int below) {
        return random.nextInt(40) == 0 ? WILD[random.nextInt(WILD.length)] : random.nextInt(below);
    }

    private static int someSeconds() {
        return random.nextInt(40) == 0 ? some(2) : 1 + random.nextInt(maxSeconds);
    }

    private static long wildLong() {
        return WILD_LONG[random.nextInt(WILD_LONG.length)];
    }

    /** Mostly near a midnight, where days change, and often near the end of all days. */
    private static int someTime() {
        int midnight = DAY * (random.nextInt(3) == 0 ? 366 : 1 + random.nextInt(3));
        switch (random.nextInt(10)) {
            case 0: return some(31622400);
            case 1: case 2: return midnight - DAY + random.nextInt(200);
            case 3: return midnight - 1 - random.nextInt(DAY);
            default: return midnight - 1 - random.nextInt(5 * maxSeconds + 20);
        }
    }

    private static void node(String run, StreetSides x, Model m) {
        long atX = random.nextInt(20) == 0 ? wildLong() : random.nextInt(200001) - 100000;
        long atY = random.nextInt(20) == 0 ? wildLong() : random.nextInt(200001) - 100000;
        checks.due(run + ": node", x.node(atX, atY), m.node(atX, atY));
    }

    private static void street(String run, StreetSides x, Model m) {
        int a = some(8);
        int b = some(8);
        int seconds = someSeconds();
        int kind = random.nextInt(2) == 0 ? 0 : some(4);
        checks.due(run + ": street", x.street(a, b, seconds, kind), m.street(a, b, seconds, kind));
    }

    private static void turn(String run, StreetSides x, Model m) {
        int from = some(12);
        int to = some(12);
        int seconds = some(random.nextBoolean() ? 3 : 1001);
        boolean allowed = random.nextInt(3) != 0;
        checks.due(run + ": turn", x.turn(from, to, seconds, allowed),
                m.turn(from, to, seconds, allowed));
    }

    private static void hours(String run, StreetSides x, Model m) {
        int street = some(12);
        int from = random.nextBoolean() ? 0 : some(random.nextBoolean() ? 200 : DAY);
        int to = random.nextBoolean() ? DAY - 1 : some(DAY);
        checks.due(run + ": hours", x.hours(street, from, to), m.hours(street, from, to));
    }

    private static void limit(String run, StreetSides x, Model m) {
        int street = random.nextInt(3) == 0 ? StreetSides.NONE : some(12);
        int what = some(2);
        int common = street == StreetSides.NONE ? random.nextInt(4) : 2 + random.nextInt(4);
        long v = random.nextInt(20) == 0 ? wildLong() : common;
        checks.due(run + ": limit", x.limit(street, what, v), m.limit(street, what, v));
    }

    private static void deadEnd(String run, StreetSides x, Model m) {
        int node = some(8);
        boolean turns = random.nextBoolean();
        checks.due(run + ": deadEnd", x.deadEnd(node, turns), m.deadEnd(node, turns));
    }

    private static void close(String run, StreetSides x, Model m) {
        int street = some(12);
        int day = random.nextBoolean() ? some(4) : 362 + some(5);
        boolean on = random.nextInt(3) != 0;
        checks.due(run + ": close", x.close(street, day, on), m.close(street, day, on));
    }

    private static void need(String run, StreetSides x, Model m) {
        int street = some(12);
        int side = some(2);
        checks.due(run + ": need", x.need(street, side), m.need(street, side));
    }

    private static void joined(String run, StreetSides x, Model m) {
        int a = some(20);
        int b = some(20);
        checks.due(run + ": joined", x.joined(a, b), m.joined(a, b));
    }

    private static void span(String run, StreetSides x, Model m) {
        int street = some(12);
        checks.due(run + ": span", x.span(street), m.span(street));
    }

    private static void plain(String run, StreetSides x, Model m) {
        int from = some(12);
        int to = some(12);
        checks.due(run + ": plain", x.plain(from, to), m.plain(from, to));
    }

    private static void held(String run, StreetSides x, Model m) {
        int k = some(25);
        checks.due(run + ": way(" + k + ")", x.way(k), m.way(k));
        checks.due(run + ": begun(" + k + ")", x.begun(k), m.begun(k));
    }

    private static void least(String run, StreetSides x, Model m) {
        int from = some(12);
        int sideA = some(2);
        int to = some(12);
        int sideB = some(2);
        int second = someTime();
        int due = m.least(from, sideA, to, sideB, second);
        String call = run + ": least(" + from + ", " + sideA + ", " + to + ", " + sideB + ", "
                + second + ")";
        checks.due(call, x.least(from, sideA, to, sideB, second), due);
        for (int k = 0; k < 25; k++) {
            checks.due(call + ": way(" + k + ")", x.way(k), m.way(k));
            checks.due(call + ": begun(" + k + ")", x.begun(k), m.begun(k));
        }
        withTies += m.lastWays > 1 ? 1 : 0;
        longWays += m.way(5) != StreetSides.NONE ? 1 : 0;
        noWays += due == StreetSides.NONE ? 1 : 0;
    }
}
