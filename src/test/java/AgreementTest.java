import java.util.ArrayList;
import java.util.List;
import java.util.Random;

/** Random runs of up to 512 calls: every answer is compared with the plain model's. */
public final class AgreementTest {
    private static final int RUNS = 900;
    private static final int QUESTIONS = 6;
    private static final int[] ODD = {-1, -2, Integer.MIN_VALUE, Integer.MAX_VALUE, 60, 61, 1001, 100_001};

    private final Checks checks;
    private final Random random;
    private final Tried seeds;
    private final PlainRoad plain;
    private final PlainRoad.Kept[] kept = new PlainRoad.Kept[2];
    private final Story start;
    private final List<Story.Call> calls = new ArrayList<>();
    private final int busShare;
    private final int longestRun;
    private String at = "";

    private AgreementTest(Checks checks, Random random) {
        this.checks = checks;
        this.random = random;
        long seed = random.nextInt(4) == 0 ? random.nextLong() : random.nextInt(1000) - 500;
        int lanes = 1 + random.nextInt(3);
        int[] reaches = {1_000, 4_000, 12_000, 40_000, 100_000};
        int reach = reaches[random.nextInt(reaches.length)];
        int length = Math.max(1_000, 1 + random.nextInt(reach));
        seeds = new Tried(seed, lanes, length);
        plain = new PlainRoad(seed, lanes, length);
        start = new Story(seed, lanes, length);
        busShare = random.nextInt(5);
        longestRun = random.nextInt(8) == 0 ? 1_000 : 1 + random.nextInt(60);
    }

    public static void main(String[] args) {
        Checks checks = new Checks();
        long changes = 0;
        long brakings = 0;
        long counted = 0;
        long servings = 0;
        for (int run = 0; run < RUNS; run++) {
            AgreementTest test = new AgreementTest(checks, new Random(run));
            test.makeCalls(run, run % 4 == 0 ? QUESTIONS : 512 - 150);
            changes += test.plain.many[2];
            brakings += test.plain.many[1];
            servings += test.plain.servings;
            counted += test.plain.counted[0][0];
        }
        // The runs are only worth something if much happens in them.
        checks.atLeast("changes of lanes", changes, 1_000);
        checks.atLeast("hard brakings", brakings, 300);
        checks.atLeast("buses served", servings, 200);
        checks.atLeast("cars counted", counted, 500);
        checks.end();
    }

    /** Makes calls until no more than some are left, and looks at everything on the way and at the end. */
    private void makeCalls(int run, int callsLeft) {
        int half = (512 + callsLeft) / 2;
        while (seeds.callsLeft() > callsLeft) {
            boolean isFirstHalf = seeds.callsLeft() > half;
            at = "run " + run + ", call " + calls.size() + ": ";
            call();
            if (isFirstHalf && seeds.callsLeft() <= half) {
                lookAtAll();
            }
        }
        lookAtAll();
    }

    private int any(int bound) {
        return random.nextInt(bound);
    }

    private int some(int bound) {
        return any(20) == 0 ? ODD[any(ODD.length)] : any(bound);
    }

    private int place() {
        return any(3) == 0 ? some(plain.length + 2) : any(Math.min(plain.length, 12_000) + 1);
    }

    private void call() {
        switch (any(22)) {
            case 0: case 1: case 2: case 3: case 4: case 5:
                come(some(plain.lanes + 1), any(20) == 0 ? some(3) : any(5) < busShare ? 1 : 0);
                break;
            case 6: case 7: case 8: case 9: case 10: case 11: case 12:
                run(any(15) == 0 ? some(1002) : 1 + any(longestRun));
                break;
            case 13:
                if (any(6) == 0) {
                    light(place(), some(120), some(200));
                }
                break;
            case 14:
                int from = any(3) == 0 ? 0 : some(600);
                close(some(plain.lanes + 1), place(), from, from + some(600));
                break;
            case 15:
                if (any(4) == 0) {
                    stop(place(), some(60));
                }
                break;
            case 16:
                if (any(3) == 0) {
                    line(place());
                }
                break;
            case 17:
                if (any(3) == 0) {
                    save(some(3));
                }
                break;
            case 18:
                if (any(3) == 0) {
                    back(some(3));
                }
                break;
            default:
                if (any(3) == 0) {
                    lookAtSome();
                }
                break;
        }
    }

    private boolean isLane(int lane) {
        return lane >= 0 && lane < plain.lanes;
    }

    private boolean isPlace(int place) {
        return place >= 0 && place <= plain.length;
    }

    private void make(String name, int due, Story.Call call) {
        calls.add(call);
        checks.due(at + name, call.on(seeds), due);
    }

    private void come(int lane, int kind) {
        boolean good = isLane(lane) && (kind == 0 || kind == 1) && plain.cars.size() < 60;
        make("come(" + lane + ", " + kind + ")", good ? plain.cars.size() : -1, x -> x.come(lane, kind));
        if (good) {
            plain.come(lane, kind);
        }
    }

    private void run(int steps) {
        boolean good = steps >= 1 && steps <= 1000;
        for (int i = 0; good && i < steps; i++) {
            plain.step();
        }
        make("run(" + steps + ")", good ? plain.step : -1, x -> x.run(steps));
    }

    private void light(int place, int red, int cycle) {
        boolean good = isPlace(place) && cycle >= 1 && cycle <= 2000 && red >= 0 && red <= cycle
                && plain.lights.size() < 4;
        make("light(" + place + ", " + red + ", " + cycle + ")", good ? 1 : 0, x -> x.light(place, red, cycle) ? 1 : 0);
        if (good) {
            plain.lights.add(new int[] {place, red, cycle});
        }
    }

    private void close(int lane, int place, int from, int to) {
        boolean good = isLane(lane) && isPlace(place) && 0 <= from && from <= to && plain.closed.size() < 6;
        make("close(" + lane + ", " + place + ", " + from + ", " + to + ")", good ? 1 : 0,
                x -> x.close(lane, place, from, to) ? 1 : 0);
        if (good) {
            plain.closed.add(new int[] {lane, place, from, to});
        }
    }

    private void stop(int place, int dwell) {
        boolean good = isPlace(place) && dwell >= 1 && dwell <= 500 && plain.stops.size() < 4;
        make("stop(" + place + ", " + dwell + ")", good ? 1 : 0, x -> x.stop(place, dwell) ? 1 : 0);
        if (good) {
            plain.stops.add(new int[] {place, dwell});
        }
    }

    private void line(int place) {
        boolean good = isPlace(place) && plain.lines.size() < 4;
        make("line(" + place + ")", good ? plain.lines.size() : -1, x -> x.line(place));
        if (good) {
            plain.lines.add(place);
        }
    }

    private void save(int slot) {
        boolean good = slot == 0 || slot == 1;
        make("save(" + slot + ")", good ? plain.step : -1, x -> x.save(slot));
        if (good) {
            kept[slot] = plain.keep();
        }
    }

    private void back(int slot) {
        boolean good = (slot == 0 || slot == 1) && kept[slot] != null;
        if (good) {
            plain.restore(kept[slot]);
        }
        make("back(" + slot + ")", good ? plain.step : -1, x -> x.back(slot));
    }

    private void lookAtSome() {
        int[] due = plain.everything();
        for (int i = 0; i < QUESTIONS; i++) {
            // Most questions are about the cars: the first of those are there more often.
            int question = any(2) == 0 ? any(Story.questions()) : any(10 + 10 * plain.cars.size());
            checks.due(at + Story.nameOf(question), Story.ask(seeds, question), due[question]);
        }
    }

    private void lookAtAll() {
        Story.same(checks, at + "then", start.and(calls).everything(), plain.everything());
    }
}
