import java.util.ArrayList;
import java.util.List;

/**
 * A call that is refused leaves everything as it was, and so does one that only asks: what can be
 * asked behind it, at once and behind further calls, is what it would be without it.
 */
public final class RefusedTest {
    private static final int MAX = Integer.MAX_VALUE;
    private static final int MIN = Integer.MIN_VALUE;
    private static final int BAD = CarSeeds.BAD;
    private static final int NO = 0;
    private static final Checks CHECKS = new Checks();

    private final String name;
    private final Story story;
    private final int lanes;
    private final int length;
    private final List<List<Story.Call>> futures = new ArrayList<>();
    private final List<int[]> due = new ArrayList<>();

    private RefusedTest(String name, Story story, int lanes, int length) {
        this.name = name;
        this.story = story;
        this.lanes = lanes;
        this.length = length;
        future();
        future(x -> x.run(1));
        future(x -> x.run(40), x -> x.run(700));
        future(x -> x.back(0));
        future(x -> x.back(1), x -> x.run(300));
        future(x -> x.come(0, 1), x -> Roads.yes(x.light(900, 1, 2)), x -> Roads.yes(x.close(0, 800, 0, 5_000)),
                x -> Roads.yes(x.stop(700, 3)), x -> x.line(600), x -> x.save(1), x -> x.run(200));
    }

    public static void main(String[] args) {
        onNothing();
        onABusyRoad();
        onAFullRoad();
        CHECKS.end();
    }

    private void future(Story.Call... calls) {
        futures.add(List.of(calls));
        due.add(story.and(calls).everything());
    }

    /** The call answers as it is due, and leaves everything as it was. */
    private void leaves(String call, int want, Story.Call made) {
        Story with = story.and(made);
        CHECKS.due(name + ", " + call, with.lastAnswer(), want);
        for (int i = 0; i < futures.size(); i++) {
            Story.same(CHECKS, name + ", behind " + call + " and future " + i,
                    with.and(futures.get(i)).everything(), due.get(i));
        }
    }

    private void come(int lane, int kind) {
        leaves("come(" + lane + ", " + kind + ")", BAD, x -> x.come(lane, kind));
    }

    private void light(int place, int red, int cycle) {
        leaves("light(" + place + ", " + red + ", " + cycle + ")", NO, x -> Roads.yes(x.light(place, red, cycle)));
    }

    private void close(int lane, int place, int from, int to) {
        leaves("close(" + lane + ", " + place + ", " + from + ", " + to + ")", NO,
                x -> Roads.yes(x.close(lane, place, from, to)));
    }

    private void stop(int place, int dwell) {
        leaves("stop(" + place + ", " + dwell + ")", NO, x -> Roads.yes(x.stop(place, dwell)));
    }

    private void line(int place) {
        leaves("line(" + place + ")", BAD, x -> x.line(place));
    }

    private void run(int steps) {
        leaves("run(" + steps + ")", BAD, x -> x.run(steps));
    }

    private void save(int slot) {
        leaves("save(" + slot + ")", BAD, x -> x.save(slot));
    }

    private void back(int slot) {
        leaves("back(" + slot + ")", BAD, x -> x.back(slot));
    }

    /** The first arguments that are refused, on either side, and the ones farthest off. */
    private void wrongArguments() {
        for (int lane : new int[] {-1, lanes, MIN, MAX}) {
            come(lane, 0);
            close(lane, 10, 0, 5);
        }
        for (int kind : new int[] {-1, 2, MIN, MAX}) {
            come(0, kind);
        }
        for (int place : new int[] {-1, length + 1, MIN, MAX}) {
            light(place, 1, 2);
            close(0, place, 0, 5);
            stop(place, 5);
            line(place);
        }
        int[][] lights = {{-1, 2}, {3, 2}, {0, 0}, {1, 0}, {0, 2_001}, {2_001, 2_001}, {MIN, 5}, {MAX, MAX}, {0, MIN}};
        for (int[] numbers : lights) {
            light(10, numbers[0], numbers[1]);
        }
        int[][] closings = {{-1, 5}, {-1, -1}, {6, 5}, {MIN, MAX}, {MAX, MIN}};
        for (int[] steps : closings) {
            close(0, 10, steps[0], steps[1]);
        }
        for (int dwell : new int[] {0, -1, 501, MIN, MAX}) {
            stop(10, dwell);
        }
        for (int steps : new int[] {0, -1, 1_001, MIN, MAX}) {
            run(steps);
        }
        for (int slot : new int[] {-1, 2, MIN, MAX}) {
            save(slot);
            back(slot);
        }
    }

    private void wrongQuestions() {
        leaves("told(-1, 0)", BAD, x -> x.told(-1, 0));
        leaves("told(60, 0)", BAD, x -> x.told(60, 0));
        leaves("told(0, 6)", BAD, x -> x.told(0, 6));
        leaves("drawn(-1, 0)", BAD, x -> x.drawn(-1, 0));
        leaves("drawn(0, 3)", BAD, x -> x.drawn(0, 3));
        leaves("gap(-1)", BAD, x -> x.gap(-1));
        leaves("gap(60)", BAD, x -> x.gap(60));
        leaves("counted(4, 0)", BAD, x -> x.counted(4, 0));
        leaves("counted(0, -1)", BAD, x -> x.counted(0, -1));
        leaves("many(3)", BAD, x -> x.many(3));
        leaves("waiting(lanes)", BAD, x -> x.waiting(lanes));
        leaves("count(10)", BAD, x -> x.count(10));
    }

    /** All questions that can be asked, in two halves since an object has 512 calls alone. */
    private void questions() {
        int half = Story.questions() / 2;
        leaves("the first questions", 0, x -> askAll(x, 0, half));
        leaves("the last questions", 0, x -> askAll(x, half, Story.questions()));
    }

    private static int askAll(Tried x, int from, int to) {
        for (int question = from; question < to; question++) {
            Story.ask(x, question);
        }
        return 0;
    }

    private static void onNothing() {
        RefusedTest test = new RefusedTest("nothing", new Story(0L, 2, 5_000), 2, 5_000);
        test.wrongArguments();
        test.wrongQuestions();
        test.questions();
        test.back(0);
        test.back(1);
        test.leaves("told(0, 0)", BAD, x -> x.told(0, 0));
        test.leaves("drawn(0, 0)", BAD, x -> x.drawn(0, 0));
        test.leaves("gap(0)", BAD, x -> x.gap(0));
        test.leaves("counted(0, 0)", BAD, x -> x.counted(0, 0));
        test.leaves("times()", 0, x -> x.times());
        test.leaves("ordered()", 1, x -> Roads.yes(x.ordered()));
    }

    private static void onABusyRoad() {
        Story story = Roads.busy().and(x -> x.run(120), x -> x.save(0), x -> x.run(150));
        Tried x = story.told();
        CHECKS.atLeast("busy: cars that wait", x.waiting(0) + x.waiting(1), 1);
        CHECKS.atLeast("busy: cars on the road", x.count(1), 1);
        CHECKS.atLeast("busy: cars gone", x.count(2), 1);
        RefusedTest test = new RefusedTest("busy", story, 2, 12_000);
        test.wrongArguments();
        test.wrongQuestions();
        test.questions();
        test.back(1);
        test.leaves("told(20, 0)", BAD, y -> y.told(20, 0));
        test.leaves("drawn(20, 0)", BAD, y -> y.drawn(20, 0));
        test.leaves("counted(1, 0)", BAD, y -> y.counted(1, 0));
        test.leaves("counted(0, 2)", BAD, y -> y.counted(0, 2));
        test.leaves("waiting(2)", BAD, y -> y.waiting(2));
        test.leaves("gap of one that waits", BAD, y -> y.gap(19));
        test.leaves("gap of one that is gone", BAD, y -> y.gap(1));
    }

    private static void onAFullRoad() {
        Story story = Roads.full().and(x -> x.run(200), x -> x.save(0), x -> x.run(100), x -> x.save(1),
                x -> x.run(50));
        RefusedTest test = new RefusedTest("full", story, 3, 20_000);
        test.wrongArguments();
        test.wrongQuestions();
        test.questions();
        for (int lane = 0; lane < 3; lane++) {
            test.come(lane, 0);
            test.come(lane, 1);
            test.close(lane, 10, 0, MAX);
        }
        for (int place : new int[] {0, 10, 20_000}) {
            test.light(place, 1, 2);
            test.stop(place, 5);
            test.line(place);
        }
    }
}
