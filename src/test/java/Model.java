import java.util.ArrayList;
import java.util.HashMap;
import java.util.HashSet;
import java.util.List;
import java.util.Map;
import java.util.Set;
import java.util.TreeMap;
import java.util.TreeSet;

/** The document once more, written to be plain and slow: ways are listed, all of them. */
final class Model {
    private static final int NONE = -1;

    private static final class Street {
        int a;
        int b;
        int seconds;
        int kind;
        int opens = 0;
        int shuts = 86399;
        long height = 1000000;
        long weight = 1000000;
        final Set<Integer> closed = new HashSet<>();
    }

    private final List<long[]> nodes = new ArrayList<>();
    private final Set<Integer> turningPlaces = new HashSet<>();
    private final List<Street> streets = new ArrayList<>();
    private final Map<List<Integer>, Integer> turnSeconds = new HashMap<>();
    private final Set<List<Integer>> barred = new HashSet<>();
    private final List<int[]> needs = new ArrayList<>();
    private long height = 0;
    private long weight = 0;
    private List<Integer> way = new ArrayList<>();
    private List<Integer> begun = new ArrayList<>();

    private static boolean within(long v, long least, long most) {
        return least <= v && v <= most;
    }

    private boolean isNode(int k) {
        return within(k, 0, nodes.size() - 1);
    }

    private boolean isStreet(int k) {
        return within(k, 0, streets.size() - 1);
    }

    int node(long x, long y) {
        if (nodes.size() == 8 || !within(x, -100000, 100000) || !within(y, -100000, 100000)) {
            return NONE;
        }
        nodes.add(new long[] {x, y});
        return nodes.size() - 1;
    }

    int street(int a, int b, int seconds, int kind) {
        boolean such = isNode(a) && isNode(b) && a != b && within(seconds, 1, 10000)
                && within(kind, 0, 3);
        if (!such || streets.size() == 12) {
            return NONE;
        }
        Street s = new Street();
        s.a = a;
        s.b = b;
        s.seconds = seconds;
        s.kind = kind;
        streets.add(s);
        return streets.size() - 1;
    }

    boolean turn(int from, int to, int seconds, boolean allowed) {
        if (!isStreet(from) || !isStreet(to) || from == to || !within(seconds, 0, 1000)) {
            return false;
        }
        turnSeconds.put(List.of(from, to), seconds);
        if (allowed) {
            barred.remove(List.of(from, to));
        } else {
            barred.add(List.of(from, to));
        }
        return true;
    }

    boolean hours(int street, int from, int to) {
        if (!isStreet(street) || !within(from, 0, 86399) || !within(to, from, 86399)) {
            return false;
        }
        streets.get(street).opens = from;
        streets.get(street).shuts = to;
        return true;
    }

    boolean limit(int street, int what, long v) {
        if (!(street == NONE || isStreet(street)) || !within(what, 0, 1)
                || !within(v, 0, 1000000)) {
            return false;
        }
        if (street == NONE && what == 0) {
            height = v;
        } else if (street == NONE) {
            weight = v;
        } else if (what == 0) {
            streets.get(street).height = v;
        } else {
            streets.get(street).weight = v;
        }
        return true;
    }

    boolean deadEnd(int node, boolean turns) {
        if (!isNode(node)) {
            return false;
        }
        if (turns) {
            turningPlaces.add(node);
        } else {
            turningPlaces.remove(node);
        }
        return true;
    }

    boolean close(int street, int day, boolean on) {
        if (!isStreet(street) || !within(day, 0, 365)) {
            return false;
        }
        if (on) {
            streets.get(street).closed.add(day);
        } else {
            streets.get(street).closed.remove(day);
        }
        return true;
    }

    private boolean goesOn(int from, int into) {
        Street f = streets.get(from / 2);
        Street s = streets.get(into / 2);
        int end = from % 2 == 0 ? f.b : f.a;
        int start = into % 2 == 0 ? s.a : s.b;
        boolean hasWay = into % 2 == 0 ? s.kind == 0 || s.kind == 1 : s.kind == 0 || s.kind == 2;
        if (end != start || !hasWay || height > s.height || weight > s.weight) {
            return false;
        }
        return f == s ? turningPlaces.contains(end) : !barred.contains(List.of(from / 2, into / 2));
    }

    private int beginning(int from, int into, int time) {
        int at = time + turnSeconds.getOrDefault(List.of(from / 2, into / 2), 0);
        Street s = streets.get(into / 2);
        int day = at / 86400;
        int ofDay = at - day * 86400;
        if (!goesOn(from, into) || day > 365 || s.closed.contains(day) || ofDay > s.shuts) {
            return NONE;
        }
        return ofDay < s.opens ? day * 86400 + s.opens : at;
    }

    /** Every coming to an end of a side, by time; the first one at a side is its earliest. */
    private Map<Integer, Integer> earliest(int start, int second) {
        Map<Integer, Integer> first = new HashMap<>();
        TreeMap<Integer, Set<Integer>> coming = new TreeMap<>();
        coming.put(second, new TreeSet<>(Set.of(start)));
        while (!coming.isEmpty()) {
            Map.Entry<Integer, Set<Integer>> now = coming.pollFirstEntry();
            for (int side : now.getValue()) {
                if (first.putIfAbsent(side, now.getKey()) != null) {
                    continue;
                }
                for (int into = 0; into < 2 * streets.size(); into++) {
                    int begins = beginning(side, into, now.getKey());
                    if (begins != NONE) {
                        int end = begins + streets.get(into / 2).seconds;
                        coming.computeIfAbsent(end, k -> new TreeSet<>()).add(into);
                    }
                }
            }
        }
        return first;
    }

    private void listWays(Map<Integer, Integer> first, List<Integer> soFar, int at, int goal,
            List<List<Integer>> all) {
        if (at == goal) {
            all.add(new ArrayList<>(soFar));
        }
        for (int into = 0; into < 2 * streets.size(); into++) {
            int begins = beginning(at, into, first.get(at));
            if (begins == NONE || begins + streets.get(into / 2).seconds != first.get(into)) {
                continue;
            }
            soFar.add(into);
            listWays(first, soFar, into, goal, all);
            soFar.remove(soFar.size() - 1);
        }
    }

    private static int compare(List<Integer> one, List<Integer> other) {
        for (int k = 0; k < one.size() && k < other.size(); k++) {
            if (!one.get(k).equals(other.get(k))) {
                return one.get(k) - other.get(k);
            }
        }
        return one.size() - other.size();
    }

    /** How many ways there were for the last least, so that a test can tell that some had many. */
    int lastWays = 0;

    int least(int from, int sideA, int to, int sideB, int second) {
        lastWays = 0;
        if (!isStreet(from) || !isStreet(to) || !within(sideA, 0, 1) || !within(sideB, 0, 1)
                || !within(second, 0, 31622399)) {
            return NONE;
        }
        int start = 2 * from + sideA;
        int goal = 2 * to + sideB;
        way = new ArrayList<>();
        begun = new ArrayList<>();
        Map<Integer, Integer> first = earliest(start, second);
        if (!first.containsKey(goal)) {
            return NONE;
        }
        List<List<Integer>> all = new ArrayList<>();
        listWays(first, new ArrayList<>(), start, goal, all);
        lastWays = all.size();
        all.sort(Model::compare);
        way = all.get(0);
        int at = start;
        for (int into : way) {
            begun.add(beginning(at, into, first.get(at)));
            at = into;
        }
        return first.get(goal) - second;
    }

    int way(int k) {
        return within(k, 0, way.size() - 1) ? way.get(k) : NONE;
    }

    int begun(int k) {
        return within(k, 0, begun.size() - 1) ? begun.get(k) : NONE;
    }

    int plain(int from, int to) {
        if (!isStreet(from) || !isStreet(to)) {
            return NONE;
        }
        Set<Integer> reached = new HashSet<>(Set.of(2 * from));
        for (int count = 0; count < 30; count++) {
            if (reached.contains(2 * to)) {
                return count;
            }
            Set<Integer> more = new HashSet<>(reached);
            for (int at : reached) {
                for (int into = 0; into < 2 * streets.size(); into++) {
                    if (goesOn(at, into)) {
                        more.add(into);
                    }
                }
            }
            reached = more;
        }
        return NONE;
    }

    int need(int street, int side) {
        if (needs.size() == 20 || !isStreet(street) || !within(side, 0, 1)) {
            return NONE;
        }
        needs.add(new int[] {street, side});
        return needs.size() - 1;
    }

    int joined(int needA, int needB) {
        if (!within(needA, 0, needs.size() - 1) || !within(needB, 0, needs.size() - 1)) {
            return NONE;
        }
        int[] a = needs.get(needA);
        int[] b = needs.get(needB);
        if (a[0] == b[0] && a[1] == b[1]) {
            return 2;
        }
        return goesOn(2 * a[0] + a[1], 2 * b[0] + b[1]) ? 1 : 0;
    }

    int pieces() {
        Set<Integer> seen = new HashSet<>();
        int count = 0;
        for (int node = 0; node < nodes.size(); node++) {
            if (!seen.contains(node)) {
                count++;
                visit(node, seen);
            }
        }
        return count;
    }

    private void visit(int node, Set<Integer> seen) {
        if (!seen.add(node)) {
            return;
        }
        for (Street s : streets) {
            if (s.kind != 3 && s.a == node) {
                visit(s.b, seen);
            }
            if (s.kind != 3 && s.b == node) {
                visit(s.a, seen);
            }
        }
    }

    long span(int street) {
        if (!isStreet(street)) {
            return NONE;
        }
        long[] a = nodes.get(streets.get(street).a);
        long[] b = nodes.get(streets.get(street).b);
        return (a[0] - b[0]) * (a[0] - b[0]) + (a[1] - b[1]) * (a[1] - b[1]);
    }
}
