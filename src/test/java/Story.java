import java.util.ArrayList;
import java.util.List;

/**
 * A road and a row of calls on it, which can be made again on new objects: so everything can be
 * asked about the state they lead to, though an object has 512 calls alone.
 */
final class Story {
    /** A call and its answer; a boolean counts 1 or 0. */
    interface Call {
        int on(Tried x);
    }

    private static final List<String> NAMES = new ArrayList<>();
    private static final List<Call> QUESTIONS = new ArrayList<>();

    static {
        for (int what = 0; what < 10; what++) {
            int w = what;
            question("count(" + w + ")", x -> x.count(w));
        }
        for (int number = 0; number < 60; number++) {
            questionsAbout(number);
        }
        for (int row = 0; row < 4; row++) {
            for (int column = 0; column < 3; column++) {
                int line = row;
                int lane = column;
                question("counted(" + line + ", " + lane + ")", x -> x.counted(line, lane));
            }
        }
        for (int number = 0; number < 3; number++) {
            int n = number;
            question("many(" + n + ")", x -> x.many(n));
            question("waiting(" + n + ")", x -> x.waiting(n));
        }
        question("times()", x -> x.times());
        question("ordered()", x -> x.ordered() ? 1 : 0);
    }

    private final long seed;
    private final int lanes;
    private final int length;
    private final List<Call> calls = new ArrayList<>();

    Story(long seed, int lanes, int length) {
        this.seed = seed;
        this.lanes = lanes;
        this.length = length;
    }

    private static void questionsAbout(int car) {
        for (int what = 0; what < 6; what++) {
            int w = what;
            question("told(" + car + ", " + w + ")", x -> x.told(car, w));
        }
        for (int what = 0; what < 3; what++) {
            int w = what;
            question("drawn(" + car + ", " + w + ")", x -> x.drawn(car, w));
        }
        question("gap(" + car + ")", x -> x.gap(car));
    }

    private static void question(String name, Call call) {
        NAMES.add(name);
        QUESTIONS.add(call);
    }

    /** This story with more calls at its end. */
    Story and(Call... more) {
        Story longer = new Story(seed, lanes, length);
        longer.calls.addAll(calls);
        for (Call call : more) {
            longer.calls.add(call);
        }
        return longer;
    }

    Story and(List<Call> more) {
        return and(more.toArray(new Call[0]));
    }

    /** A new object on which the calls were made. */
    Tried told() {
        Tried x = new Tried(seed, lanes, length);
        for (Call call : calls) {
            call.on(x);
        }
        return x;
    }

    /** What the last call answers. */
    int lastAnswer() {
        Tried x = new Tried(seed, lanes, length);
        int answer = 0;
        for (Call call : calls) {
            answer = call.on(x);
        }
        return answer;
    }

    /** The answers to all that can be asked. */
    int[] everything() {
        int[] answers = new int[QUESTIONS.size()];
        Tried x = told();
        for (int i = 0; i < answers.length; i++) {
            if (x.callsLeft() == 0) {
                x = told();
            }
            answers[i] = ask(x, i);
        }
        return answers;
    }

    static int questions() {
        return QUESTIONS.size();
    }

    static String nameOf(int question) {
        return NAMES.get(question);
    }

    static int ask(Tried x, int question) {
        return QUESTIONS.get(question).on(x);
    }

    /** Everything that can be asked answers as it is due. */
    static void same(Checks checks, String when, int[] got, int[] want) {
        for (int i = 0; i < want.length; i++) {
            checks.due(when + ": " + nameOf(i), got[i], want[i]);
        }
    }
}
