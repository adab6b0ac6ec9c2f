import java.util.ArrayList;
import java.util.List;
import java.util.function.Consumer;
import java.util.function.Function;
import java.util.function.Predicate;

/**
 * "A call that is refused changes nothing": two objects are built alike, one is told the refused
 * call too, and then both are asked all that can be asked. As asking changes them (the held way,
 * how many there are), each round of questions has two new objects, and stays within 512 calls.
 */
public final class RefusedTest {
    private static final int NONE = StreetSides.NONE;
    private static final int DAY = 86400;
    private static final Checks checks = new Checks();

    private record Told(String text, Predicate<StreetSides> call) { }

    private record Asked(String text, Function<StreetSides, List<Long>> answers) { }

    public static void main(String[] args) {
        questionsSeeEveryChange();
        look("a new object", x -> { }, refusedWithNothing());
        look("a town", RefusedTest::town, refusedInTheTown());
        look("a full town", RefusedTest::fullTown, refusedWhenFull());
        checks.end();
    }

    /** Five nodes and six streets, with something of everything, and a way that is held. */
    private static void town(StreetSides x) {
        for (int k = 0; k < 5; k++) {
            x.node(10 * k, k * k);
        }
        x.street(0, 1, 10, 0);
        x.street(1, 2, 20, 0);
        x.street(2, 3, 30, 1);
        x.street(3, 0, 40, 2);
        x.street(1, 3, 50, 0);
        x.street(3, 4, 60, 3);
        x.turn(0, 1, 5, true);
        x.turn(1, 2, 6, false);
        x.turn(4, 2, 1000, true);
        x.hours(1, 100, 80000);
        x.limit(NONE, 0, 50);
        x.limit(NONE, 1, 60);
        x.limit(0, 0, 50);
        x.limit(1, 1, 60);
        x.limit(3, 0, 49);
        x.deadEnd(2, true);
        x.deadEnd(3, true);
        x.close(4, 0, true);
        x.close(1, 365, true);
        x.need(0, 0);
        x.need(1, 0);
        x.need(1, 1);
        x.need(2, 0);
        x.least(0, 0, 1, 1, 200);
    }

    /** The same with as many nodes, streets and needs as there may be. */
    private static void fullTown(StreetSides x) {
        town(x);
        for (int k = 5; k < 8; k++) {
            x.node(10 * k, k);
        }
        for (int k = 6; k < 12; k++) {
            x.street(k - 5, k - 4, k, k % 3);
        }
        for (int k = 4; k < 20; k++) {
            x.need(k % 12, k % 2);
        }
    }

    private static List<Told> refusedWithNothing() {
        List<Told> all = new ArrayList<>();
        all.add(new Told("node(100001, 0)", x -> x.node(100001, 0) == NONE));
        all.add(new Told("street(0, 1, 1, 0)", x -> x.street(0, 1, 1, 0) == NONE));
        all.add(new Told("turn(0, 1, 9, false)", x -> !x.turn(0, 1, 9, false)));
        all.add(new Told("hours(0, 5, 6)", x -> !x.hours(0, 5, 6)));
        all.add(new Told("limit(0, 0, 0)", x -> !x.limit(0, 0, 0)));
        all.add(new Told("limit(0, 1, 0)", x -> !x.limit(0, 1, 0)));
        all.add(new Told("limit(-1, 2, 5)", x -> !x.limit(NONE, 2, 5)));
        all.add(new Told("limit(-1, 0, 1000001)", x -> !x.limit(NONE, 0, 1000001)));
        all.add(new Told("deadEnd(0, true)", x -> !x.deadEnd(0, true)));
        all.add(new Told("close(0, 0, true)", x -> !x.close(0, 0, true)));
        all.add(new Told("least(0, 0, 0, 0, 0)", x -> x.least(0, 0, 0, 0, 0) == NONE));
        all.add(new Told("plain(0, 0)", x -> x.plain(0, 0) == NONE));
        all.add(new Told("need(0, 0)", x -> x.need(0, 0) == NONE));
        all.add(new Told("joined(0, 0)", x -> x.joined(0, 0) == NONE));
        all.add(new Told("way(0)", x -> x.way(0) == NONE));
        all.add(new Told("begun(0)", x -> x.begun(0) == NONE));
        all.add(new Told("span(0)", x -> x.span(0) == NONE));
        return all;
    }

    private static List<Told> refusedInTheTown() {
        List<Told> all = new ArrayList<>();
        addNodes(all);
        addStreets(all);
        addTurns(all);
        addHours(all);
        addLimits(all);
        addPlacesAndDays(all);
        addWays(all);
        addNeeds(all);
        return all;
    }

    private static void addNodes(List<Told> all) {
        long[][] wrong = {{100001, 0}, {0, 100001}, {-100001, 0}, {0, -100001}, {1L << 32, 0},
            {0, 1L << 32}};
        for (long[] a : wrong) {
            all.add(new Told("node(" + a[0] + ", " + a[1] + ")",
                    x -> x.node(a[0], a[1]) == NONE));
        }
    }

    private static void addStreets(List<Told> all) {
        int[][] wrong = {{-1, 1, 5, 0}, {0, -1, 5, 0}, {5, 1, 5, 0}, {0, 5, 5, 0}, {4, 4, 5, 0},
            {0, 4, 0, 0}, {0, 4, 10001, 0}, {0, 4, 5, -1}, {0, 4, 5, 4}};
        for (int[] a : wrong) {
            all.add(new Told("street(" + a[0] + ", " + a[1] + ", " + a[2] + ", " + a[3] + ")",
                    x -> x.street(a[0], a[1], a[2], a[3]) == NONE));
        }
    }

    private static void addTurns(List<Told> all) {
        int[][] wrong = {{-1, 1, 5}, {0, -1, 5}, {6, 1, 5}, {0, 6, 5}, {0, 0, 5}, {1, 1, 5},
            {0, 1, -1}, {0, 1, 1001}, {1, 2, -1}, {1, 2, 1001}, {1, 0, 1001}, {0, 12, 7},
            {12, 0, 7}};
        for (int[] a : wrong) {
            String text = "turn(" + a[0] + ", " + a[1] + ", " + a[2];
            all.add(new Told(text + ", true)", x -> !x.turn(a[0], a[1], a[2], true)));
            all.add(new Told(text + ", false)", x -> !x.turn(a[0], a[1], a[2], false)));
        }
    }

    private static void addHours(List<Told> all) {
        int[][] wrong = {{-1, 5, 6}, {6, 5, 6}, {1, -1, 6}, {1, 5, 86400}, {1, 6, 5}, {0, -5, -1},
            {0, 86400, 86401}, {0, 1, 0}, {12, 5, 6}};
        for (int[] a : wrong) {
            all.add(new Told("hours(" + a[0] + ", " + a[1] + ", " + a[2] + ")",
                    x -> !x.hours(a[0], a[1], a[2])));
        }
    }

    private static void addLimits(List<Told> all) {
        long[][] wrong = {{-2, 0, 5}, {6, 0, 5}, {6, 1, 5}, {12, 0, 5}, {0, -1, 5}, {0, 2, 5},
            {0, 0, -1}, {0, 1, -1}, {0, 0, 1000001}, {0, 1, 1000001}, {1, -1, 5}, {1, 2, 5},
            {-1, -1, 5}, {-1, 2, 5}, {-1, 0, -1}, {-1, 1, -1}, {-1, 0, 1000001}, {-1, 1, 1000001},
            {-1, 0, 1L << 32}, {0, 1, (1L << 32) + 7}};
        for (long[] a : wrong) {
            all.add(new Told("limit(" + a[0] + ", " + a[1] + ", " + a[2] + ")",
                    x -> !x.limit((int) a[0], (int) a[1], a[2])));
        }
    }

    private static void addPlacesAndDays(List<Told> all) {
        int[] noNodes = {-1, 5, 7, 8};
        for (int node : noNodes) {
            all.add(new Told("deadEnd(" + node + ", true)", x -> !x.deadEnd(node, true)));
            all.add(new Told("deadEnd(" + node + ", false)", x -> !x.deadEnd(node, false)));
        }
        int[][] noDays = {{-1, 0}, {6, 0}, {12, 0}, {0, -1}, {0, 366}, {1, -1}, {1, 366}, {4, -1},
            {5, 366}, {4, 384}, {6, 365}};
        for (int[] a : noDays) {
            String text = "close(" + a[0] + ", " + a[1];
            all.add(new Told(text + ", true)", x -> !x.close(a[0], a[1], true)));
            all.add(new Told(text + ", false)", x -> !x.close(a[0], a[1], false)));
        }
    }

    private static void addWays(List<Told> all) {
        int[][] wrong = {{-1, 0, 1, 0, 0}, {6, 0, 1, 0, 0}, {0, -1, 1, 0, 0}, {0, 2, 1, 0, 0},
            {0, 0, -1, 0, 0}, {0, 0, 6, 0, 0}, {0, 0, 1, -1, 0}, {0, 0, 1, 2, 0}, {0, 0, 1, 0, -1},
            {0, 0, 1, 0, 31622400}, {6, 0, 6, 0, 0}, {0, 0, 0, 0, 31622400}, {0, 2, 0, 2, 0}};
        for (int[] a : wrong) {
            all.add(new Told("least(" + a[0] + ", " + a[1] + ", " + a[2] + ", " + a[3] + ", "
                    + a[4] + ")", x -> x.least(a[0], a[1], a[2], a[3], a[4]) == NONE));
        }
        int[][] noStreets = {{-1, 0}, {0, -1}, {6, 0}, {0, 6}, {6, 6}};
        for (int[] a : noStreets) {
            all.add(new Told("plain(" + a[0] + ", " + a[1] + ")",
                    x -> x.plain(a[0], a[1]) == NONE));
        }
        all.add(new Told("way(-1)", x -> x.way(-1) == NONE));
        all.add(new Told("way(24)", x -> x.way(24) == NONE));
        all.add(new Told("begun(-1)", x -> x.begun(-1) == NONE));
        all.add(new Told("begun(24)", x -> x.begun(24) == NONE));
        all.add(new Told("span(6)", x -> x.span(6) == NONE));
    }

    private static void addNeeds(List<Told> all) {
        int[][] wrong = {{-1, 0}, {6, 0}, {0, -1}, {0, 2}, {5, 2}, {12, 1}};
        for (int[] a : wrong) {
            all.add(new Told("need(" + a[0] + ", " + a[1] + ")",
                    x -> x.need(a[0], a[1]) == NONE));
        }
        int[][] noNeeds = {{-1, 0}, {0, -1}, {4, 0}, {0, 4}, {20, 20}};
        for (int[] a : noNeeds) {
            all.add(new Told("joined(" + a[0] + ", " + a[1] + ")",
                    x -> x.joined(a[0], a[1]) == NONE));
        }
    }

    private static List<Told> refusedWhenFull() {
        List<Told> all = new ArrayList<>();
        all.add(new Told("the ninth node", x -> x.node(1, 1) == NONE));
        all.add(new Told("the thirteenth street", x -> x.street(0, 6, 1, 0) == NONE));
        all.add(new Told("the 21st need", x -> x.need(0, 0) == NONE));
        all.add(new Told("deadEnd(8, true)", x -> !x.deadEnd(8, true)));
        all.add(new Told("close(12, 0, true)", x -> !x.close(12, 0, true)));
        all.add(new Told("close(11, 366, true)", x -> !x.close(11, 366, true)));
        all.add(new Told("hours(12, 5, 6)", x -> !x.hours(12, 5, 6)));
        all.add(new Told("limit(12, 0, 0)", x -> !x.limit(12, 0, 0)));
        all.add(new Told("limit(11, 2, 0)", x -> !x.limit(11, 2, 0)));
        all.add(new Told("turn(11, 12, 0, false)", x -> !x.turn(11, 12, 0, false)));
        all.add(new Told("turn(0, 12, 0, false)", x -> !x.turn(0, 12, 0, false)));
        all.add(new Told("turn(11, 11, 0, false)", x -> !x.turn(11, 11, 0, false)));
        all.add(new Told("least(0, 0, 12, 0, 0)", x -> x.least(0, 0, 12, 0, 0) == NONE));
        all.add(new Told("plain(0, 12)", x -> x.plain(0, 12) == NONE));
        all.add(new Told("joined(0, 20)", x -> x.joined(0, 20) == NONE));
        return all;
    }

    private static List<Asked> questions() {
        List<Asked> all = new ArrayList<>();
        all.add(new Asked("the held way", RefusedTest::heldWay));
        all.add(new Asked("pieces, spans, joins", RefusedTest::standing));
        all.add(new Asked("plain ways", RefusedTest::plainWays));
        int[] times = {0, 150, 80001, DAY - 30, 3 * DAY + 7, 365 * DAY + 500};
        for (int time : times) {
            for (int from = 0; from < 12; from += 3) {
                int first = from;
                all.add(new Asked("ways at " + time + " from " + from,
                        x -> leastWays(x, first, time)));
            }
        }
        all.add(new Asked("what comes next", RefusedTest::next));
        return all;
    }

    private static List<Long> heldWay(StreetSides x) {
        List<Long> answers = new ArrayList<>();
        for (int k = 0; k < 25; k++) {
            answers.add((long) x.way(k));
            answers.add((long) x.begun(k));
        }
        return answers;
    }

    private static List<Long> standing(StreetSides x) {
        List<Long> answers = new ArrayList<>();
        answers.add((long) x.pieces());
        for (int street = 0; street < 13; street++) {
            answers.add(x.span(street));
        }
        for (int a = 0; a < 20; a++) {
            for (int b = 0; b < 20; b++) {
                answers.add((long) x.joined(a, b));
            }
        }
        return answers;
    }

    private static List<Long> plainWays(StreetSides x) {
        List<Long> answers = new ArrayList<>();
        for (int from = 0; from < 12; from++) {
            for (int to = 0; to < 12; to++) {
                answers.add((long) x.plain(from, to));
            }
        }
        return answers;
    }

    private static List<Long> leastWays(StreetSides x, int first, int time) {
        List<Long> answers = new ArrayList<>();
        for (int from = 2 * first; from < 2 * first + 6; from++) {
            for (int to = 0; to < 24; to++) {
                answers.add((long) x.least(from / 2, from % 2, to / 2, to % 2, time));
                answers.add((long) x.begun(0));
            }
        }
        return answers;
    }

    /** The numbers of all that may still come, and what comes to a new street from its first. */
    private static List<Long> next(StreetSides x) {
        List<Long> answers = new ArrayList<>();
        for (int k = 0; k < 9; k++) {
            answers.add((long) x.node(k, 7 * k));
        }
        for (int k = 0; k < 13; k++) {
            answers.add((long) x.street(k % 8, (k + 1) % 8, 3, 0));
        }
        for (int k = 0; k < 12; k++) {
            answers.add((long) x.least(k, 0, k, 1, 0));
            answers.add((long) x.least(k, 1, k, 0, 365 * DAY));
            answers.add((long) x.least(k, 0, (k + 1) % 12, 0, 5));
            answers.add((long) x.least(k, 0, (k + 1) % 12, 0, DAY - 1));
            answers.add((long) x.least((k + 1) % 12, 1, k, 1, 365 * DAY));
            answers.add(x.span(k));
        }
        for (int k = 0; k < 21; k++) {
            answers.add((long) x.need(k % 12, 0));
        }
        for (int k = 0; k < 20; k++) {
            answers.add((long) x.joined(0, k));
            answers.add((long) x.joined(k, 0));
        }
        return answers;
    }

    private static StreetSides built(Consumer<StreetSides> builder) {
        StreetSides x = new StreetSides();
        builder.accept(x);
        return x;
    }

    private static void look(String where, Consumer<StreetSides> builder, List<Told> all) {
        List<Asked> questions = questions();
        List<List<Long>> due = new ArrayList<>();
        for (Asked asked : questions) {
            due.add(asked.answers().apply(built(builder)));
        }
        for (Told told : all) {
            String text = where + ": " + told.text();
            for (int k = 0; k < questions.size(); k++) {
                StreetSides x = built(builder);
                checks.due(text + " is refused", told.call().test(x), true);
                List<Long> got = questions.get(k).answers().apply(x);
                checks.due(text + " leaves " + questions.get(k).text() + " as it was",
                        got.equals(due.get(k)), true);
            }
        }
    }

    /** Were the questions blind for some part of the object, the rest here would tell nothing. */
    private static void questionsSeeEveryChange() {
        List<Told> changes = new ArrayList<>();
        changes.add(new Told("node", x -> x.node(1, 1) == 5));
        changes.add(new Told("street", x -> x.street(0, 4, 5, 0) == 6));
        changes.add(new Told("street of kind 3", x -> x.street(0, 4, 5, 3) == 6));
        changes.add(new Told("turn's seconds", x -> x.turn(0, 1, 6, true)));
        changes.add(new Told("turn barred", x -> x.turn(0, 1, 5, false)));
        changes.add(new Told("turn allowed", x -> x.turn(1, 2, 6, true)));
        changes.add(new Told("hours begin", x -> x.hours(1, 200, 80000)));
        changes.add(new Told("hours end", x -> x.hours(1, 100, 80100)));
        changes.add(new Told("the vehicle's height", x -> x.limit(NONE, 0, 51)));
        changes.add(new Told("the vehicle's weight", x -> x.limit(NONE, 1, 61)));
        changes.add(new Told("a street's height", x -> x.limit(0, 0, 49)));
        changes.add(new Told("a street's weight", x -> x.limit(1, 1, 59)));
        changes.add(new Told("a turning place", x -> x.deadEnd(1, true)));
        changes.add(new Told("no turning place", x -> x.deadEnd(2, false)));
        changes.add(new Told("closed on the first day", x -> x.close(0, 0, true)));
        changes.add(new Told("closed on the last day", x -> x.close(0, 365, true)));
        changes.add(new Told("open on the first day", x -> x.close(4, 0, false)));
        changes.add(new Told("open on the last day", x -> x.close(1, 365, false)));
        changes.add(new Told("need", x -> x.need(0, 0) == 4));
        changes.add(new Told("another way", x -> x.least(0, 0, 1, 0, 200) != NONE));
        changes.add(new Told("the same way later", x -> x.least(0, 0, 1, 1, 201) != NONE));
        changes.add(new Told("no way", x -> x.least(0, 0, 5, 0, 0) == NONE));
        for (Told change : changes) {
            boolean seen = false;
            for (Asked asked : questions()) {
                StreetSides x = built(RefusedTest::town);
                List<Long> before = asked.answers().apply(built(RefusedTest::town));
                checks.due("accepted: " + change.text(), change.call().test(x), true);
                seen = seen || !asked.answers().apply(x).equals(before);
            }
            checks.due("the questions see " + change.text(), seen, true);
        }
    }
}
