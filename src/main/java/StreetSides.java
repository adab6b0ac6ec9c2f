/**
 * Streets with sides for vehicles that keep to theirs.
 *
 * <p>Inside, a side is known by its number alone: twice its street and the side (0 or 1). Every
 * argument is tested in the public methods below; the classes inside are only told what is such.
 */
public final class StreetSides {
    public static final int NONE = -1;

    private static final int MOST_NODES = 8;
    private static final int MOST_STREETS = 12;
    private static final int MOST_SIDES = 2 * MOST_STREETS;
    private static final int MOST_NEEDS = 20;

    private static final long FARTHEST = 100000L;
    private static final int MOST_STREET_SECONDS = 10000;
    private static final int MOST_TURN_SECONDS = 1000;
    private static final long MOST_LIMIT = 1000000L;

    private static final int BOTH_WAYS = 0;
    private static final int NEITHER_WAY = 3;

    private static final int HEIGHT = 0;
    private static final int WEIGHT = 1;
    private static final int LIMITS = 2;

    private static final int DAY_SECONDS = 86400;
    private static final int DAYS = 366;
    private static final int ALL_SECONDS = DAYS * DAY_SECONDS;

    private static final int SAME_SIDE = 2;
    private static final int GOES_ON = 1;
    private static final int APART = 0;

    private final Net net;
    private final Search search;
    private final HeldWay held;
    private final Needs needs;

    public StreetSides() {
        net = new Net();
        search = new Search();
        held = new HeldWay();
        needs = new Needs();
    }

    public int node(long x, long y) {
        if (!isPlace(x) || !isPlace(y)) {
            return NONE;
        }
        return net.nodes.add(x, y);
    }

    public int street(int a, int b, int seconds, int kind) {
        if (!net.nodes.has(a) || !net.nodes.has(b) || a == b) {
            return NONE;
        }
        if (seconds < 1 || seconds > MOST_STREET_SECONDS) {
            return NONE;
        }
        if (kind < BOTH_WAYS || kind > NEITHER_WAY) {
            return NONE;
        }
        return net.streets.add(a, b, seconds, kind);
    }

    public boolean turn(int from, int to, int seconds, boolean allowed) {
        if (!net.streets.has(from) || !net.streets.has(to) || from == to) {
            return false;
        }
        if (seconds < 0 || seconds > MOST_TURN_SECONDS) {
            return false;
        }
        net.turns.set(from, to, seconds, allowed);
        return true;
    }

    public boolean hours(int street, int from, int to) {
        if (!net.streets.has(street)) {
            return false;
        }
        if (from < 0 || from > to || to >= DAY_SECONDS) {
            return false;
        }
        net.streets.setHours(street, from, to);
        return true;
    }

    public boolean limit(int street, int what, long v) {
        if (what != HEIGHT && what != WEIGHT) {
            return false;
        }
        if (v < 0 || v > MOST_LIMIT) {
            return false;
        }
        if (street == NONE) {
            net.vehicle[what] = v;
            return true;
        }
        if (!net.streets.has(street)) {
            return false;
        }
        net.streets.setGreatest(street, what, v);
        return true;
    }

    public boolean deadEnd(int node, boolean turns) {
        if (!net.nodes.has(node)) {
            return false;
        }
        net.nodes.setTurningPlace(node, turns);
        return true;
    }

    public boolean close(int street, int day, boolean on) {
        if (!net.streets.has(street) || day < 0 || day >= DAYS) {
            return false;
        }
        net.streets.setClosed(street, day, on);
        return true;
    }

    public int least(int from, int sideA, int to, int sideB, int second) {
        if (!isSide(from, sideA) || !isSide(to, sideB)) {
            return NONE;
        }
        if (second < 0 || second >= ALL_SECONDS) {
            return NONE;
        }
        int start = numberOf(from, sideA);
        int goal = numberOf(to, sideB);
        held.forget();
        search.explore(net, start, second);
        if (!search.comesTo(goal)) {
            return NONE;
        }
        search.markLeading(net, goal);
        search.trace(net, start, goal, held);
        return search.earliestAt(goal) - second;
    }

    public int way(int k) {
        return held.has(k) ? held.sideAt(k) : NONE;
    }

    public int begun(int k) {
        return held.has(k) ? held.secondAt(k) : NONE;
    }

    public int plain(int from, int to) {
        if (!net.streets.has(from) || !net.streets.has(to)) {
            return NONE;
        }
        return search.fewestSides(net, numberOf(from, 0), numberOf(to, 0));
    }

    public int need(int street, int side) {
        if (!isSide(street, side)) {
            return NONE;
        }
        return needs.add(numberOf(street, side));
    }

    public int joined(int needA, int needB) {
        if (!needs.has(needA) || !needs.has(needB)) {
            return NONE;
        }
        int first = needs.sideAt(needA);
        int second = needs.sideAt(needB);
        if (first == second) {
            return SAME_SIDE;
        }
        return net.goesOn(first, second) ? GOES_ON : APART;
    }

    public int pieces() {
        return net.countPieces();
    }

    public long span(int street) {
        if (!net.streets.has(street)) {
            return NONE;
        }
        return net.squareBetweenEnds(street);
    }

    private static boolean isPlace(long coordinate) {
        return coordinate >= -FARTHEST && coordinate <= FARTHEST;
    }

    private boolean isSide(int street, int side) {
        return net.streets.has(street) && (side == 0 || side == 1);
    }

    private static int numberOf(int street, int side) {
        return 2 * street + side;
    }

    private static int streetOf(int number) {
        return number / 2;
    }

    /** Where the nodes are, and which of them are turning places. */
    private static final class Nodes {
        private final long[] x = new long[MOST_NODES];
        private final long[] y = new long[MOST_NODES];
        private final boolean[] turningPlace = new boolean[MOST_NODES];
        private int count = 0;

        int add(long atX, long atY) {
            if (count >= MOST_NODES) {
                return NONE;
            }
            x[count] = atX;
            y[count] = atY;
            count++;
            return count - 1;
        }

        boolean has(int node) {
            return node >= 0 && node < count;
        }

        int size() {
            return count;
        }

        void setTurningPlace(int node, boolean turns) {
            turningPlace[node] = turns;
        }

        boolean isTurningPlace(int node) {
            return turningPlace[node];
        }

        long squareBetween(int one, int other) {
            long acrossX = x[one] - x[other];
            long acrossY = y[one] - y[other];
            return acrossX * acrossX + acrossY * acrossY;
        }
    }

    /** What is known of each street by itself. */
    private static final class Streets {
        // A bit a day keeps a new object small: six longs for a street's 366 days.
        private static final int DAYS_A_WORD = 64;
        private static final int WORDS = (DAYS + DAYS_A_WORD - 1) / DAYS_A_WORD;

        private final int[] nodeA = new int[MOST_STREETS];
        private final int[] nodeB = new int[MOST_STREETS];
        private final int[] seconds = new int[MOST_STREETS];
        private final int[] kind = new int[MOST_STREETS];
        private final int[] firstSecond = new int[MOST_STREETS];
        private final int[] lastSecond = new int[MOST_STREETS];
        private final long[] greatest = new long[MOST_STREETS * LIMITS];
        private final long[] closedDays = new long[MOST_STREETS * WORDS];
        private int count = 0;

        int add(int a, int b, int itsSeconds, int itsKind) {
            if (count >= MOST_STREETS) {
                return NONE;
            }
            int added = count;
            count++;
            nodeA[added] = a;
            nodeB[added] = b;
            seconds[added] = itsSeconds;
            kind[added] = itsKind;
            setHours(added, 0, DAY_SECONDS - 1);
            setGreatest(added, HEIGHT, MOST_LIMIT);
            setGreatest(added, WEIGHT, MOST_LIMIT);
            return added;
        }

        boolean has(int street) {
            return street >= 0 && street < count;
        }

        int size() {
            return count;
        }

        int sides() {
            return 2 * count;
        }

        void setHours(int street, int first, int last) {
            firstSecond[street] = first;
            lastSecond[street] = last;
        }

        void setGreatest(int street, int what, long v) {
            greatest[street * LIMITS + what] = v;
        }

        long greatestOf(int street, int what) {
            return greatest[street * LIMITS + what];
        }

        void setClosed(int street, int day, boolean on) {
            int word = wordOf(street, day);
            long bit = bitOf(day);
            closedDays[word] = on ? closedDays[word] | bit : closedDays[word] & ~bit;
        }

        private boolean isClosed(int street, int day) {
            return (closedDays[wordOf(street, day)] & bitOf(day)) != 0;
        }

        private static int wordOf(int street, int day) {
            return street * WORDS + day / DAYS_A_WORD;
        }

        private static long bitOf(int day) {
            return 1L << (day % DAYS_A_WORD);
        }

        int secondsOf(int street) {
            return seconds[street];
        }

        int nodeAOf(int street) {
            return nodeA[street];
        }

        int nodeBOf(int street) {
            return nodeB[street];
        }

        int startOf(int side) {
            return side % 2 == 0 ? nodeA[streetOf(side)] : nodeB[streetOf(side)];
        }

        int endOf(int side) {
            return side % 2 == 0 ? nodeB[streetOf(side)] : nodeA[streetOf(side)];
        }

        boolean hasAnyWay(int street) {
            return kind[street] != NEITHER_WAY;
        }

        /** Kind 1 has side 0 alone, kind 2 has side 1 alone. */
        boolean hasWay(int street, int side) {
            return kind[street] == BOTH_WAYS || kind[street] == side + 1;
        }

        /** When a side of the street is begun by one who is before it at a time; NONE for never. */
        int beginning(int street, int time) {
            int day = time / DAY_SECONDS;
            if (day >= DAYS || isClosed(street, day)) {
                return NONE;
            }
            int timeOfDay = time % DAY_SECONDS;
            if (timeOfDay > lastSecond[street]) {
                return NONE;
            }
            int waits = Math.max(0, firstSecond[street] - timeOfDay);
            return time + waits;
        }
    }

    /** The turns from a street into another one. */
    private static final class Turns {
        private final int[] seconds = new int[MOST_STREETS * MOST_STREETS];
        private final boolean[] barred = new boolean[MOST_STREETS * MOST_STREETS];

        void set(int from, int to, int itsSeconds, boolean allowed) {
            seconds[slotOf(from, to)] = itsSeconds;
            barred[slotOf(from, to)] = !allowed;
        }

        /** Back into the same street takes none: that turn is never set. */
        int secondsOf(int from, int to) {
            return seconds[slotOf(from, to)];
        }

        boolean isBarred(int from, int to) {
            return barred[slotOf(from, to)];
        }

        private static int slotOf(int from, int to) {
            return from * MOST_STREETS + to;
        }
    }

    /** Nodes, streets and turns together, with the vehicle: who goes on from where into what. */
    private static final class Net {
        private final Nodes nodes = new Nodes();
        private final Streets streets = new Streets();
        private final Turns turns = new Turns();
        private final long[] vehicle = new long[LIMITS];
        private final int[] pieceOf = new int[MOST_NODES];

        private boolean canBeDriven(int side) {
            int street = streetOf(side);
            return streets.hasWay(street, side % 2)
                    && vehicle[HEIGHT] <= streets.greatestOf(street, HEIGHT)
                    && vehicle[WEIGHT] <= streets.greatestOf(street, WEIGHT);
        }

        /** Whether one goes on from the end of a side into another, time not looked at. */
        boolean goesOn(int from, int into) {
            int at = streets.endOf(from);
            if (streets.startOf(into) != at || !canBeDriven(into)) {
                return false;
            }
            int fromStreet = streetOf(from);
            int intoStreet = streetOf(into);
            if (fromStreet == intoStreet) {
                return nodes.isTurningPlace(at);
            }
            return !turns.isBarred(fromStreet, intoStreet);
        }

        /** When a side ends that is gone into from the end of another at a time; NONE for never. */
        int endBehind(int from, int into, int time) {
            if (!goesOn(from, into)) {
                return NONE;
            }
            int street = streetOf(into);
            int turned = time + turns.secondsOf(streetOf(from), street);
            int begins = streets.beginning(street, turned);
            return begins == NONE ? NONE : begins + streets.secondsOf(street);
        }

        int countPieces() {
            int pieceCount = nodes.size();
            for (int node = 0; node < nodes.size(); node++) {
                pieceOf[node] = node;
            }
            for (int street = 0; street < streets.size(); street++) {
                int one = pieceOf[streets.nodeAOf(street)];
                int other = pieceOf[streets.nodeBOf(street)];
                if (streets.hasAnyWay(street) && one != other) {
                    merge(one, other);
                    pieceCount--;
                }
            }
            return pieceCount;
        }

        private void merge(int one, int other) {
            for (int node = 0; node < nodes.size(); node++) {
                if (pieceOf[node] == other) {
                    pieceOf[node] = one;
                }
            }
        }

        long squareBetweenEnds(int street) {
            return nodes.squareBetween(streets.nodeAOf(street), streets.nodeBOf(street));
        }
    }

    /** Looks for ways; its rows are made once and used again by every call. */
    private static final class Search {
        // Later than any side ends: the last one is begun before the days are over.
        private static final int NEVER = 2 * ALL_SECONDS;

        private final int[] earliest = new int[MOST_SIDES];
        private final boolean[] settled = new boolean[MOST_SIDES];
        private final boolean[] leads = new boolean[MOST_SIDES];
        private final int[] order = new int[MOST_SIDES];
        private final int[] steps = new int[MOST_SIDES];
        private int settledCount = 0;

        /**
         * Finds the earliest end of every side. An earlier end may go on worse than a later one
         * (closed today, open tomorrow), but ways go on from the earliest alone; and as each side
         * takes a second at least, the soonest end that isn't settled can't become sooner.
         */
        void explore(Net net, int start, int second) {
            forget();
            earliest[start] = second;
            int sides = net.streets.sides();
            for (int round = 0; round < sides; round++) {
                int at = soonestUnsettled(sides);
                if (at == NONE) {
                    return;
                }
                settled[at] = true;
                order[round] = at;
                settledCount = round + 1;
                goOnFrom(net, at);
            }
        }

        private void forget() {
            for (int side = 0; side < MOST_SIDES; side++) {
                earliest[side] = NEVER;
                settled[side] = false;
                leads[side] = false;
            }
            settledCount = 0;
        }

        private int soonestUnsettled(int sides) {
            int soonest = NONE;
            int soonestEnd = NEVER;
            for (int side = 0; side < sides; side++) {
                if (!settled[side] && earliest[side] < soonestEnd) {
                    soonest = side;
                    soonestEnd = earliest[side];
                }
            }
            return soonest;
        }

        private void goOnFrom(Net net, int at) {
            for (int into = 0; into < net.streets.sides(); into++) {
                int end = net.endBehind(at, into, earliest[at]);
                if (end != NONE && end < earliest[into]) {
                    earliest[into] = end;
                }
            }
        }

        boolean comesTo(int side) {
            return earliest[side] != NEVER;
        }

        int earliestAt(int side) {
            return earliest[side];
        }

        /**
         * Marks the sides from which a way leads to the goal with each side ending at its earliest.
         * Such a way only goes to later ends, so backwards all that follows is marked already.
         */
        void markLeading(Net net, int goal) {
            leads[goal] = true;
            for (int k = settledCount - 1; k >= 0; k--) {
                if (firstLeading(net, order[k]) != NONE) {
                    leads[order[k]] = true;
                }
            }
        }

        private int firstLeading(Net net, int at) {
            for (int into = 0; into < net.streets.sides(); into++) {
                if (leads[into] && net.endBehind(at, into, earliest[at]) == earliest[into]) {
                    return into;
                }
            }
            return NONE;
        }

        void trace(Net net, int start, int goal, HeldWay held) {
            int at = start;
            for (int k = 0; k < MOST_SIDES && at != goal; k++) {
                int into = firstLeading(net, at);
                if (into == NONE) {
                    return;
                }
                held.append(into, earliest[into] - net.streets.secondsOf(streetOf(into)));
                at = into;
            }
        }

        /** How many sides it takes at least, time not looked at; NONE when there is no way. */
        int fewestSides(Net net, int start, int goal) {
            int sides = net.streets.sides();
            for (int side = 0; side < sides; side++) {
                steps[side] = NONE;
            }
            steps[start] = 0;
            for (int step = 0; step < sides && steps[goal] == NONE; step++) {
                for (int at = 0; at < sides; at++) {
                    if (steps[at] == step) {
                        stepOnFrom(net, at);
                    }
                }
            }
            return steps[goal];
        }

        private void stepOnFrom(Net net, int at) {
            for (int into = 0; into < net.streets.sides(); into++) {
                if (steps[into] == NONE && net.goesOn(at, into)) {
                    steps[into] = steps[at] + 1;
                }
            }
        }
    }

    /** The way that is held: the numbers of its sides, and when each was begun. */
    private static final class HeldWay {
        private final int[] sides = new int[MOST_SIDES];
        private final int[] seconds = new int[MOST_SIDES];
        private int length = 0;

        void forget() {
            length = 0;
        }

        void append(int side, int second) {
            if (length >= MOST_SIDES) {
                return;
            }
            sides[length] = side;
            seconds[length] = second;
            length++;
        }

        boolean has(int k) {
            return k >= 0 && k < length;
        }

        int sideAt(int k) {
            return sides[k];
        }

        int secondAt(int k) {
            return seconds[k];
        }
    }

    /** The needs, each by the number of its side. */
    private static final class Needs {
        private final int[] sides = new int[MOST_NEEDS];
        private int count = 0;

        int add(int side) {
            if (count >= MOST_NEEDS) {
                return NONE;
            }
            sides[count] = side;
            count++;
            return count - 1;
        }

        boolean has(int k) {
            return k >= 0 && k < count;
        }

        int sideAt(int k) {
            return sides[k];
        }
    }
}
