import java.util.Random;

/** Random runs of up to 512 calls: every answer is compared with the plain model's. */
public final class AgreementTest {
    private static final int RUNS = 600;
    private static final int CALLS = 512;
    private static final int[] ODD = {-1, -2, Integer.MIN_VALUE, Integer.MAX_VALUE, 60, 61, 1001, 100_001};

    private final Checks checks;
    private final Random random;
    private final CarSeeds seeds;
    private final PlainRoad plain;
    private final PlainRoad.Kept[] kept = new PlainRoad.Kept[2];
    private final int busShare;
    private final int longestRun;

    private AgreementTest(Checks checks, Random random) {
        this.checks = checks;
        this.random = random;
        long seed = random.nextInt(4) == 0 ? random.nextLong() : random.nextInt(1000) - 500;
        int lanes = 1 + random.nextInt(3);
        int[] reaches = {1_000, 4_000, 12_000, 40_000, 100_000};
        int reach = reaches[random.nextInt(reaches.length)];
        int length = Math.max(1_000, 1 + random.nextInt(reach));
        seeds = new CarSeeds(seed, lanes, length);
        plain = new PlainRoad(seed, lanes, length);
        busShare = random.nextInt(5);
        longestRun = random.nextInt(8) == 0 ? 1_000 : 1 + random.nextInt(60);
    }

    public static void main(String[] args) {
        Checks checks = new Checks();
        long changes = 0;
        long brakings = 0;
        long counted = 0;
        long servings = 0;
        for (int run = 0; run < RUNS; run++) {
            AgreementTest test = new AgreementTest(checks, new Random(run));
            int calls = run % 4 == 0 ? CALLS : 120;
            for (int call = 0; call < calls; call++) {
                test.call("run " + run + ", call " + call + ": ");
            }
            test.lookAtAll("run " + run + ", at its end: ");
            changes += test.plain.many[2];
            brakings += test.plain.many[1];
            servings += test.plain.servings;
            counted += test.seeds.counted(0, 0);
        }
        // The runs are only worth something if much happens in them.
        checks.atLeast("changes of lanes", changes, 1_000);
        checks.atLeast("hard brakings", brakings, 300);
        checks.atLeast("buses served", servings, 200);
        checks.atLeast("cars counted", counted, 500);
        checks.end();
    }

    private int any(int bound) {
        return random.nextInt(bound);
    }

    private int some(int bound) {
        return any(20) == 0 ? ODD[any(ODD.length)] : any(bound);
    }

    private int place() {
        return any(3) == 0 ? some(plain.length + 2) : any(Math.min(plain.length, 12_000) + 1);
    }

    private void call(String at) {
        switch (any(24)) {
            case 0: case 1: case 2: case 3: case 4: case 5:
                come(at, some(plain.lanes + 1), any(20) == 0 ? some(3) : any(5) < busShare ? 1 : 0);
                break;
            case 6: case 7: case 8: case 9: case 10: case 11: case 12:
                run(at, any(15) == 0 ? some(1002) : 1 + any(longestRun));
                break;
            case 13:
                if (any(6) == 0) {
                    light(at, place(), some(120), some(200));
                }
                break;
            case 14:
                int from = any(3) == 0 ? 0 : some(600);
                close(at, some(plain.lanes + 1), place(), from, from + some(600));
                break;
            case 15:
                if (any(4) == 0) {
                    stop(at, place(), some(60));
                }
                break;
            case 16:
                if (any(3) == 0) {
                    line(at, place());
                }
                break;
            case 17:
                if (any(3) == 0) {
                    save(at, some(3));
                }
                break;
            case 18:
                if (any(3) == 0) {
                    back(at, some(3));
                }
                break;
            case 19:
                lookAtAll(at);
                break;
            default:
                look(at, some(plain.cars.size() + 2));
                break;
        }
    }

    private boolean isLane(int lane) {
        return lane >= 0 && lane < plain.lanes;
    }

    private boolean isPlace(int place) {
        return place >= 0 && place <= plain.length;
    }

    private void come(String at, int lane, int kind) {
        boolean good = isLane(lane) && (kind == 0 || kind == 1) && plain.cars.size() < 60;
        int due = good ? plain.cars.size() : -1;
        checks.due(at + "come(" + lane + ", " + kind + ")", seeds.come(lane, kind), due);
        if (good) {
            plain.come(lane, kind);
        }
    }

    private void run(String at, int steps) {
        boolean good = steps >= 1 && steps <= 1000;
        for (int i = 0; good && i < steps; i++) {
            plain.step();
        }
        checks.due(at + "run(" + steps + ")", seeds.run(steps), good ? plain.step : -1);
    }

    private void light(String at, int place, int red, int cycle) {
        boolean good = isPlace(place) && cycle >= 1 && cycle <= 2000 && red >= 0 && red <= cycle
                && plain.lights.size() < 4;
        checks.due(at + "light(" + place + ", " + red + ", " + cycle + ")", seeds.light(place, red, cycle), good);
        if (good) {
            plain.lights.add(new int[] {place, red, cycle});
        }
    }

    private void close(String at, int lane, int place, int from, int to) {
        boolean good = isLane(lane) && isPlace(place) && 0 <= from && from <= to && plain.closed.size() < 6;
        String call = "close(" + lane + ", " + place + ", " + from + ", " + to + ")";
        checks.due(at + call, seeds.close(lane, place, from, to), good);
        if (good) {
            plain.closed.add(new int[] {lane, place, from, to});
        }
    }

    private void stop(String at, int place, int dwell) {
        boolean good = isPlace(place) && dwell >= 1 && dwell <= 500 && plain.stops.size() < 4;
        checks.due(at + "stop(" + place + ", " + dwell + ")", seeds.stop(place, dwell), good);
        if (good) {
            plain.stops.add(new int[] {place, dwell});
        }
    }

    private void line(String at, int place) {
        boolean good = isPlace(place) && plain.lines.size() < 4;
        checks.due(at + "line(" + place + ")", seeds.line(place), good ? plain.lines.size() : -1);
        if (good) {
            plain.lines.add(place);
        }
    }

    private void save(String at, int slot) {
        boolean good = slot == 0 || slot == 1;
        checks.due(at + "save(" + slot + ")", seeds.save(slot), good ? plain.step : -1);
        if (good) {
            kept[slot] = plain.keep();
        }
    }

    private void back(String at, int slot) {
        boolean good = (slot == 0 || slot == 1) && kept[slot] != null;
        if (good) {
            plain.restore(kept[slot]);
        }
        checks.due(at + "back(" + slot + ")", seeds.back(slot), good ? plain.step : -1);
    }

    private void look(String at, int number) {
        boolean good = number >= 0 && number < plain.cars.size();
        PlainRoad.Car car = good ? plain.cars.get(number) : new PlainRoad.Car();
        int[] told = {car.state, car.lane, car.front, car.speed, car.came, car.gone};
        for (int what = -1; what <= 6; what++) {
            int due = good && what >= 0 && what < 6 ? told[what] : -1;
            checks.due(at + "told(" + number + ", " + what + ")", seeds.told(number, what), due);
        }
        int[] drawn = {car.length, car.wish, car.delay};
        for (int what = -1; what <= 3; what++) {
            int due = good && what >= 0 && what < 3 ? drawn[what] : -1;
            checks.due(at + "drawn(" + number + ", " + what + ")", seeds.drawn(number, what), due);
        }
        int gap = good && car.state == 1 ? plain.gap(car, car.lane) : -1;
        checks.due(at + "gap(" + number + ")", seeds.gap(number), gap);
    }

    private void lookAtAll(String at) {
        int[] states = new int[3];
        int[] waiting = new int[5];
        int times = 0;
        for (int i = 0; i < plain.cars.size(); i++) {
            PlainRoad.Car car = plain.cars.get(i);
            look(at, i);
            states[car.state]++;
            waiting[car.lane] += car.state == 0 ? 1 : 0;
            times += car.state == 2 ? car.gone - car.came : 0;
        }
        int[] count = {plain.cars.size(), states[1], states[2], plain.step, plain.lights.size(),
            plain.closed.size(), plain.stops.size(), plain.lines.size(), plain.lanes, plain.length};
        for (int what = -1; what <= 10; what++) {
            checks.due(at + "count(" + what + ")", seeds.count(what), what >= 0 && what < 10 ? count[what] : -1);
        }
        for (int what = -1; what <= 3; what++) {
            checks.due(at + "many(" + what + ")", seeds.many(what), what >= 0 && what < 3 ? plain.many[what] : -1);
        }
        for (int lane = -1; lane <= 3; lane++) {
            checks.due(at + "waiting(" + lane + ")", seeds.waiting(lane), isLane(lane) ? waiting[lane] : -1);
            for (int line = -1; line <= 4; line++) {
                boolean good = isLane(lane) && line >= 0 && line < plain.lines.size();
                checks.due(at + "counted(" + line + ", " + lane + ")", seeds.counted(line, lane),
                        good ? plain.counted[line][lane] : -1);
            }
        }
        checks.due(at + "times()", seeds.times(), times);
        checks.due(at + "ordered()", seeds.ordered(), plain.ordered());
    }
}
