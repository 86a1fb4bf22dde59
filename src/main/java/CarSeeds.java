/**
 * Cars and buses on a road with lanes, one by one, in steps of a tenth of a
 * second and whole centimetres.
 */
public final class CarSeeds {
    public static final int BAD = -1;

    private static final int MOST_LANES = 3;
    private static final int SHORTEST_ROAD = 1_000;
    private static final int LONGEST_ROAD = 100_000;
    private static final int MOST_CARS = 60;
    private static final int MOST_LIGHTS = 4;
    private static final int MOST_CLOSED = 6;
    private static final int MOST_STOPS = 4;
    private static final int MOST_LINES = 4;
    private static final int MOST_KEPT = 2;
    private static final int MOST_STEPS = 1_000;
    private static final int LONGEST_CYCLE = 2_000;
    private static final int LONGEST_DWELL = 500;

    private static final int CAR = 0;
    private static final int BUS = 1;

    private static final int WAITS = 0;
    private static final int ON_ROAD = 1;
    private static final int GONE = 2;

    private static final int FREE_GAP = 1_000_000;
    private static final int KEPT_SPACE = 200;
    private static final int GAP_PER_SPEED = 10;

    private final long seed;
    private final int lanes;
    private final int length;
    private final Road road;
    private final Things things;
    private final State now;
    private final State[] kept;

    public CarSeeds(long seed, int lanes, int length) {
        this.seed = seed;
        this.lanes = Math.max(1, Math.min(MOST_LANES, lanes));
        this.length = Math.max(SHORTEST_ROAD, Math.min(LONGEST_ROAD, length));
        this.road = new Road(this.lanes, this.length);
        this.things = road.things;
        this.now = road.now;
        this.kept = new State[MOST_KEPT];
    }

    public int come(int lane, int kind) {
        if (!isLane(lane) || (kind != CAR && kind != BUS)) {
            return BAD;
        }
        return now.cars.add(seed, lane, kind);
    }

    public boolean light(int place, int red, int cycle) {
        if (!isPlace(place) || cycle < 1 || cycle > LONGEST_CYCLE) {
            return false;
        }
        return red >= 0 && red <= cycle && things.addLight(place, red, cycle);
    }

    public boolean close(int lane, int place, int from, int to) {
        if (!isLane(lane) || !isPlace(place)) {
            return false;
        }
        return from >= 0 && from <= to && things.addClosed(lane, place, from, to);
    }

    public boolean stop(int place, int dwell) {
        if (!isPlace(place) || dwell < 1 || dwell > LONGEST_DWELL) {
            return false;
        }
        return things.addStop(place, dwell);
    }

    public int line(int place) {
        return isPlace(place) ? things.addLine(place) : BAD;
    }

    public int run(int steps) {
        if (steps < 1 || steps > MOST_STEPS) {
            return BAD;
        }
        int done = 0;
        while (done < steps && !road.isIdle()) {
            road.doStep();
            done++;
        }
        // Without a car on the road or waiting, a step changes nothing but its number.
        now.step += steps - done;
        return now.step;
    }

    public int told(int car, int what) {
        if (!isCar(car)) {
            return BAD;
        }
        switch (what) {
            case 0:
                return now.cars.state[car];
            case 1:
                return now.cars.lane[car];
            case 2:
                return now.cars.front[car];
            case 3:
                return now.cars.speed[car];
            case 4:
                return now.cars.cameIn[car];
            case 5:
                return now.cars.goneIn[car];
            default:
                return BAD;
        }
    }

    public int drawn(int car, int what) {
        if (!isCar(car)) {
            return BAD;
        }
        switch (what) {
            case 0:
                return now.cars.length[car];
            case 1:
                return now.cars.wish[car];
            case 2:
                return now.cars.delay[car];
            default:
                return BAD;
        }
    }

    public int gap(int car) {
        if (!isCar(car) || now.cars.state[car] != ON_ROAD) {
            return BAD;
        }
        int lane = now.cars.lane[car];
        return road.gapIn(lane, now.rankFor(lane, now.cars.front[car]), car);
    }

    public int counted(int line, int lane) {
        if (line < 0 || line >= things.lines || !isLane(lane)) {
            return BAD;
        }
        return now.passed[line * MOST_LANES + lane];
    }

    public int times() {
        return now.cars.stepsOfGone();
    }

    public int many(int what) {
        switch (what) {
            case 0:
                return now.nearMisses;
            case 1:
                return now.hardBrakings;
            case 2:
                return now.changes;
            default:
                return BAD;
        }
    }

    public int waiting(int lane) {
        return isLane(lane) ? now.cars.waitersFor(lane) : BAD;
    }

    public boolean ordered() {
        return now.cars.haveNoPlaceInCommon();
    }

    public int save(int slot) {
        if (slot < 0 || slot >= MOST_KEPT) {
            return BAD;
        }
        if (kept[slot] == null) {
            kept[slot] = new State();
        }
        kept[slot].copyFrom(now);
        return now.step;
    }

    public int back(int slot) {
        if (slot < 0 || slot >= MOST_KEPT || kept[slot] == null) {
            return BAD;
        }
        now.copyFrom(kept[slot]);
        return now.step;
    }

    public int count(int what) {
        switch (what) {
            case 0:
                return now.cars.size;
            case 1:
                return now.cars.sizeOf(ON_ROAD);
            case 2:
                return now.cars.sizeOf(GONE);
            case 3:
                return now.step;
            case 4:
                return things.lights;
            case 5:
                return things.closed;
            case 6:
                return things.stops;
            case 7:
                return things.lines;
            case 8:
                return lanes;
            case 9:
                return length;
            default:
                return BAD;
        }
    }

    private boolean isLane(int lane) {
        return lane >= 0 && lane < lanes;
    }

    private boolean isPlace(int place) {
        return place >= 0 && place <= length;
    }

    private boolean isCar(int car) {
        return car >= 0 && car < now.cars.size;
    }

    /** The things that may stand, and the lines: told once and never taken back. */
    private static final class Things {
        final int[] lightPlace = new int[MOST_LIGHTS];
        final int[] lightRed = new int[MOST_LIGHTS];
        final int[] lightCycle = new int[MOST_LIGHTS];
        final int[] closedLane = new int[MOST_CLOSED];
        final int[] closedPlace = new int[MOST_CLOSED];
        final int[] closedFrom = new int[MOST_CLOSED];
        final int[] closedTo = new int[MOST_CLOSED];
        final int[] stopPlace = new int[MOST_STOPS];
        final int[] stopDwell = new int[MOST_STOPS];
        final int[] linePlace = new int[MOST_LINES];
        int lights;
        int closed;
        int stops;
        int lines;

        boolean addLight(int place, int red, int cycle) {
            if (lights >= MOST_LIGHTS) {
                return false;
            }
            lightPlace[lights] = place;
            lightRed[lights] = red;
            lightCycle[lights] = cycle;
            lights++;
            return true;
        }

        boolean addClosed(int lane, int place, int from, int to) {
            if (closed >= MOST_CLOSED) {
                return false;
            }
            closedLane[closed] = lane;
            closedPlace[closed] = place;
            closedFrom[closed] = from;
            closedTo[closed] = to;
            closed++;
            return true;
        }

        boolean addStop(int place, int dwell) {
            if (stops >= MOST_STOPS) {
                return false;
            }
            stopPlace[stops] = place;
            stopDwell[stops] = dwell;
            stops++;
            return true;
        }

        int addLine(int place) {
            if (lines >= MOST_LINES) {
                return BAD;
            }
            linePlace[lines] = place;
            lines++;
            return lines - 1;
        }

        /** How far it is to the nearest light or closed place, at most as far as told. */
        int nearestForAll(int lane, int front, int step, int atMost) {
            int nearest = atMost;
            for (int i = 0; i < lights; i++) {
                int far = lightPlace[i] - front;
                if (far >= 0 && far < nearest && isRed(i, step)) {
                    nearest = far;
                }
            }
            for (int i = 0; i < closed; i++) {
                int far = closedPlace[i] - front;
                if (far >= 0 && far < nearest && isClosed(i, lane, step)) {
                    nearest = far;
                }
            }
            return nearest;
        }

        private boolean isRed(int light, int step) {
            int cycle = lightCycle[light];
            return cycle > 0 && step % cycle < lightRed[light];
        }

        private boolean isClosed(int place, int lane, int step) {
            return closedLane[place] == lane && closedFrom[place] <= step && step < closedTo[place];
        }
    }

    /** The cars by their numbers, one row for each thing that is known of them. */
    private static final class Cars {
        private static final long LOWEST_31_BITS = 0x7fffffffL;

        final int[] kind = new int[MOST_CARS];
        final int[] length = new int[MOST_CARS];
        final int[] wish = new int[MOST_CARS];
        final int[] delay = new int[MOST_CARS];
        final int[] lane = new int[MOST_CARS];
        final int[] state = new int[MOST_CARS];
        final int[] front = new int[MOST_CARS];
        final int[] speed = new int[MOST_CARS];
        final int[] cameIn = new int[MOST_CARS];
        final int[] goneIn = new int[MOST_CARS];
        final int[] settledIn = new int[MOST_CARS];
        final int[] stood = new int[MOST_CARS * MOST_STOPS];
        int size;

        int add(long seed, int toLane, int ofKind) {
            if (size >= MOST_CARS) {
                return BAD;
            }
            int car = size;
            size++;
            kind[car] = ofKind;
            lane[car] = toLane;
            state[car] = WAITS;
            front[car] = 0;
            speed[car] = 0;
            cameIn[car] = BAD;
            goneIn[car] = BAD;
            settledIn[car] = BAD;
            // No car beyond size has ever stood at a stop: copyFrom brings that back too.
            draw(seed, car);
            return car;
        }

        private void draw(long seed, int car) {
            boolean isBus = kind[car] == BUS;
            long x = nextDraw(seed + 7919L * car);
            length[car] = isBus ? 1200 : 400 + highPart(x) % 121;
            x = nextDraw(x);
            wish[car] = 80 + highPart(x) % 120 - (isBus ? 40 : 0);
            x = nextDraw(x);
            delay[car] = 1 + highPart(x) % 9;
        }

        private static long nextDraw(long x) {
            return ((x & LOWEST_31_BITS) * 1103515245L + 12345L) & LOWEST_31_BITS;
        }

        private static int highPart(long x) {
            return (int) (x / 65536L);
        }

        int rear(int car) {
            return front[car] - length[car];
        }

        int sizeOf(int wanted) {
            int found = 0;
            for (int car = 0; car < size; car++) {
                if (state[car] == wanted) {
                    found++;
                }
            }
            return found;
        }

        int waitersFor(int wanted) {
            int found = 0;
            for (int car = 0; car < size; car++) {
                if (waitsFor(car, wanted)) {
                    found++;
                }
            }
            return found;
        }

        boolean waitsFor(int car, int wanted) {
            return state[car] == WAITS && lane[car] == wanted;
        }

        int stepsOfGone() {
            int sum = 0;
            for (int car = 0; car < size; car++) {
                if (state[car] == GONE) {
                    sum += goneIn[car] - cameIn[car];
                }
            }
            return sum;
        }

        boolean haveNoPlaceInCommon() {
            for (int one = 0; one < size; one++) {
                for (int other = 0; other < one; other++) {
                    if (meet(one, other)) {
                        return false;
                    }
                }
            }
            return true;
        }

        private boolean meet(int one, int other) {
            return state[one] == ON_ROAD && state[other] == ON_ROAD && lane[one] == lane[other]
                    && rear(one) < front[other] && rear(other) < front[one];
        }

        void copyFrom(Cars other) {
            System.arraycopy(other.kind, 0, kind, 0, MOST_CARS);
            System.arraycopy(other.length, 0, length, 0, MOST_CARS);
            System.arraycopy(other.wish, 0, wish, 0, MOST_CARS);
            System.arraycopy(other.delay, 0, delay, 0, MOST_CARS);
            System.arraycopy(other.lane, 0, lane, 0, MOST_CARS);
            System.arraycopy(other.state, 0, state, 0, MOST_CARS);
            System.arraycopy(other.front, 0, front, 0, MOST_CARS);
            System.arraycopy(other.speed, 0, speed, 0, MOST_CARS);
            System.arraycopy(other.cameIn, 0, cameIn, 0, MOST_CARS);
            System.arraycopy(other.goneIn, 0, goneIn, 0, MOST_CARS);
            System.arraycopy(other.settledIn, 0, settledIn, 0, MOST_CARS);
            System.arraycopy(other.stood, 0, stood, 0, MOST_CARS * MOST_STOPS);
            size = other.size;
        }
    }

    /** The cars on the road, lane by lane, the foremost first: a car's rank is its place in that row. */
    private static final class Rows {
        final int[] cars = new int[MOST_LANES * MOST_CARS];
        final int[] sizes = new int[MOST_LANES];

        int carAt(int lane, int rank) {
            return rank >= 0 && rank < sizes[lane] ? cars[lane * MOST_CARS + rank] : BAD;
        }

        void insert(int lane, int rank, int car) {
            if (rank < 0 || rank > sizes[lane] || sizes[lane] >= MOST_CARS) {
                return;
            }
            int first = lane * MOST_CARS;
            for (int i = sizes[lane]; i > rank; i--) {
                cars[first + i] = cars[first + i - 1];
            }
            cars[first + rank] = car;
            sizes[lane]++;
        }

        void remove(int lane, int rank) {
            if (rank < 0 || rank >= sizes[lane]) {
                return;
            }
            sizes[lane]--;
            int first = lane * MOST_CARS;
            for (int i = rank; i < sizes[lane]; i++) {
                cars[first + i] = cars[first + i + 1];
            }
        }

        void copyFrom(Rows other) {
            System.arraycopy(other.cars, 0, cars, 0, MOST_LANES * MOST_CARS);
            System.arraycopy(other.sizes, 0, sizes, 0, MOST_LANES);
        }
    }

    /** All that is kept and comes back. */
    private static final class State {
        final Cars cars = new Cars();
        final Rows rows = new Rows();
        final int[] nextWaiter = new int[MOST_LANES];
        final int[] passed = new int[MOST_LINES * MOST_LANES];
        int step;
        int nearMisses;
        int hardBrakings;
        int changes;

        /** How many cars on the road in a lane have their front beyond a place. */
        int rankFor(int lane, int front) {
            int first = lane * MOST_CARS;
            int rank = 0;
            while (rank < rows.sizes[lane] && cars.front[rows.cars[first + rank]] > front) {
                rank++;
            }
            return rank;
        }

        /** The car that waits longest for a lane; those before nextWaiter never wait for it again. */
        int longestWaiter(int lane) {
            int car = nextWaiter[lane];
            while (car < cars.size && !cars.waitsFor(car, lane)) {
                car++;
            }
            nextWaiter[lane] = car;
            return car < cars.size ? car : BAD;
        }

        void copyFrom(State other) {
            cars.copyFrom(other.cars);
            rows.copyFrom(other.rows);
            System.arraycopy(other.nextWaiter, 0, nextWaiter, 0, MOST_LANES);
            System.arraycopy(other.passed, 0, passed, 0, MOST_LINES * MOST_LANES);
            step = other.step;
            nearMisses = other.nearMisses;
            hardBrakings = other.hardBrakings;
            changes = other.changes;
        }
    }

    /** The road as it is now, and what a step does on it. */
    private static final class Road {
        private static final int CHANGE_PAUSE = 30;
        private static final int CHANGE_GAIN = 500;
        private static final int SPEED_UP = 6;
        private static final int HARD = 20;
        private static final int STOP_REACH = 400;
        private static final int NEAR_STEPS = 5;

        final Things things = new Things();
        final State now = new State();
        private final Cars cars = now.cars;
        private final Rows rows = now.rows;
        private final int lanes;
        private final int end;

        Road(int lanes, int end) {
            this.lanes = lanes;
            this.end = end;
        }

        boolean isIdle() {
            for (int lane = 0; lane < lanes; lane++) {
                if (rows.sizes[lane] > 0 || now.longestWaiter(lane) != BAD) {
                    return false;
                }
            }
            return true;
        }

        void doStep() {
            for (int lane = 0; lane < lanes; lane++) {
                letIn(lane);
            }
            for (int car = 0; car < cars.size; car++) {
                if (cars.state[car] == ON_ROAD && now.step - cars.settledIn[car] > CHANGE_PAUSE) {
                    lookAround(car);
                }
            }
            for (int lane = 0; lane < lanes; lane++) {
                makeSpeeds(lane);
            }
            for (int lane = 0; lane < lanes; lane++) {
                moveAll(lane);
                letOut(lane);
                findNearMisses(lane);
            }
            now.step++;
        }

        /**
         * The gap of a car with a rank in a lane. Cars on the road never have a place in
         * common, so the nearest rear is that of the next one in the row.
         */
        int gapIn(int lane, int rank, int car) {
            int gap = FREE_GAP;
            int leader = rows.carAt(lane, rank - 1);
            if (leader != BAD) {
                gap = Math.min(gap, cars.rear(leader) - cars.front[car]);
            }
            gap = things.nearestForAll(lane, cars.front[car], now.step, gap);
            return cars.kind[car] == BUS ? nearestStop(car, gap) : gap;
        }

        private int nearestStop(int bus, int atMost) {
            int nearest = atMost;
            for (int stop = 0; stop < things.stops; stop++) {
                int far = things.stopPlace[stop] - cars.front[bus];
                if (far >= 0 && far < nearest && !isServed(bus, stop)) {
                    nearest = far;
                }
            }
            return nearest;
        }

        private boolean isServed(int bus, int stop) {
            return cars.stood[bus * MOST_STOPS + stop] >= things.stopDwell[stop];
        }

        private static int allowedBy(int gap) {
            return Math.max(0, (gap - KEPT_SPACE) / GAP_PER_SPEED);
        }

        private void letIn(int lane) {
            int car = now.longestWaiter(lane);
            if (car == BAD || !hasRoom(lane, cars.length[car])) {
                return;
            }
            cars.state[car] = ON_ROAD;
            cars.front[car] = cars.length[car];
            cars.cameIn[car] = now.step;
            cars.settledIn[car] = now.step;
            int rank = rows.sizes[lane];
            rows.insert(lane, rank, car);
            cars.speed[car] = Math.min(cars.wish[car], allowedBy(gapIn(lane, rank, car)));
        }

        private boolean hasRoom(int lane, int carLength) {
            int last = rows.carAt(lane, rows.sizes[lane] - 1);
            return last == BAD || cars.rear(last) >= carLength + KEPT_SPACE;
        }

        private void lookAround(int car) {
            int lane = cars.lane[car];
            int rank = now.rankFor(lane, cars.front[car]);
            int gap = gapIn(lane, rank, car);
            if (allowedBy(gap) >= cars.wish[car]) {
                return;
            }
            if (isBetter(lane - 1, car, gap)) {
                changeTo(lane - 1, rank, car);
            } else if (isBetter(lane + 1, car, gap)) {
                changeTo(lane + 1, rank, car);
            }
        }

        private boolean isBetter(int lane, int car, int gap) {
            if (lane < 0 || lane >= lanes) {
                return false;
            }
            int rank = now.rankFor(lane, cars.front[car]);
            return gapIn(lane, rank, car) - gap >= CHANGE_GAIN
                    && isFreeBefore(lane, rank, car) && isFreeBehind(lane, rank, car);
        }

        private boolean isFreeBefore(int lane, int rank, int car) {
            int leader = rows.carAt(lane, rank - 1);
            return leader == BAD || cars.rear(leader) >= cars.front[car];
        }

        private boolean isFreeBehind(int lane, int rank, int car) {
            int rear = cars.rear(car);
            int first = lane * MOST_CARS;
            for (int i = rank; i < rows.sizes[lane]; i++) {
                int other = rows.cars[first + i];
                if (rear - cars.front[other] < KEPT_SPACE + GAP_PER_SPEED * cars.speed[other]) {
                    return false;
                }
            }
            return true;
        }

        private void changeTo(int lane, int oldRank, int car) {
            rows.remove(cars.lane[car], oldRank);
            rows.insert(lane, now.rankFor(lane, cars.front[car]), car);
            cars.lane[car] = lane;
            cars.settledIn[car] = now.step;
            now.changes++;
        }

        private void makeSpeeds(int lane) {
            int first = lane * MOST_CARS;
            for (int rank = 0; rank < rows.sizes[lane]; rank++) {
                int car = rows.cars[first + rank];
                int before = cars.speed[car];
                int after = Math.min(allowedBy(gapIn(lane, rank, car)), wishedSpeed(car));
                cars.speed[car] = after;
                if (before - after >= HARD) {
                    now.hardBrakings++;
                }
            }
        }

        private int wishedSpeed(int car) {
            int delay = cars.delay[car];
            boolean mayGrow = delay > 0 && now.step % delay == 0;
            return Math.min(cars.wish[car], cars.speed[car] + (mayGrow ? SPEED_UP : 0));
        }

        private void moveAll(int lane) {
            int first = lane * MOST_CARS;
            for (int rank = 0; rank < rows.sizes[lane]; rank++) {
                int car = rows.cars[first + rank];
                int before = cars.front[car];
                cars.front[car] = before + cars.speed[car];
                passLines(lane, before, cars.front[car]);
                if (cars.kind[car] == BUS && cars.speed[car] == 0) {
                    standAtStops(car);
                }
            }
        }

        private void passLines(int lane, int before, int after) {
            for (int line = 0; line < things.lines; line++) {
                int place = things.linePlace[line];
                if (before <= place && after > place) {
                    now.passed[line * MOST_LANES + lane]++;
                }
            }
        }

        private void standAtStops(int bus) {
            for (int stop = 0; stop < things.stops; stop++) {
                int far = things.stopPlace[stop] - cars.front[bus];
                if (far >= 0 && far <= STOP_REACH) {
                    cars.stood[bus * MOST_STOPS + stop]++;
                }
            }
        }

        private void letOut(int lane) {
            for (int rank = rows.sizes[lane] - 1; rank >= 0; rank--) {
                int car = rows.carAt(lane, rank);
                if (car != BAD && cars.rear(car) > end) {
                    cars.state[car] = GONE;
                    cars.goneIn[car] = now.step;
                    rows.remove(lane, rank);
                }
            }
        }

        private void findNearMisses(int lane) {
            int first = lane * MOST_CARS;
            for (int rank = 1; rank < rows.sizes[lane]; rank++) {
                int leader = rows.cars[first + rank - 1];
                int car = rows.cars[first + rank];
                int gap = cars.rear(leader) - cars.front[car];
                if (cars.speed[car] > cars.speed[leader] && gap < NEAR_STEPS * cars.speed[car]) {
                    now.nearMisses++;
                }
            }
        }
    }
}
