import java.util.ArrayList;
import java.util.List;

/**
 * The document's words one by one, slowly: every gap looks at every car, nothing is sorted and
 * a kept state is a copy of every object. It has no limits and refuses nothing: only calls that
 * the class took are told to it.
 */
final class PlainRoad {
    static final class Car {
        boolean bus;
        int lane;
        int length;
        int wish;
        int delay;
        int state;
        int front;
        int speed;
        int came = -1;
        int gone = -1;
        int changed = -1;
        int[] stood = new int[4];

        int rear() {
            return front - length;
        }

        Car copy() {
            Car other = new Car();
            other.bus = bus;
            other.lane = lane;
            other.length = length;
            other.wish = wish;
            other.delay = delay;
            other.state = state;
            other.front = front;
            other.speed = speed;
            other.came = came;
            other.gone = gone;
            other.changed = changed;
            other.stood = stood.clone();
            return other;
        }
    }

    static final class Kept {
        final List<Car> cars = new ArrayList<>();
        int step;
        int[] many;
        int[][] counted;
    }

    final long seed;
    final int lanes;
    final int length;
    List<Car> cars = new ArrayList<>();
    final List<int[]> lights = new ArrayList<>();
    final List<int[]> closed = new ArrayList<>();
    final List<int[]> stops = new ArrayList<>();
    final List<Integer> lines = new ArrayList<>();
    int step;
    int[] many = new int[3];
    int[][] counted = new int[4][3];
    int servings;

    PlainRoad(long seed, int lanes, int length) {
        this.seed = seed;
        this.lanes = lanes;
        this.length = length;
    }

    void come(int lane, int kind) {
        Car car = new Car();
        long x = (seed + 7919L * cars.size()) & ((1L << 31) - 1);
        int[] y = new int[3];
        for (int i = 0; i < 3; i++) {
            x = (x * 1103515245L + 12345L) % (1L << 31);
            y[i] = (int) (x / 65536);
        }
        car.bus = kind == 1;
        car.lane = lane;
        car.length = car.bus ? 1200 : 400 + y[0] % 121;
        car.wish = 80 + y[1] % 120 - (car.bus ? 40 : 0);
        car.delay = 1 + y[2] % 9;
        cars.add(car);
    }

    /** The car whose rear a gap would be to, without things that stand. */
    Car before(int lane, int front) {
        Car nearest = null;
        for (Car other : cars) {
            if (other.state == 1 && other.lane == lane && other.front > front
                    && (nearest == null || other.rear() < nearest.rear())) {
                nearest = other;
            }
        }
        return nearest;
    }

    int gap(Car car, int lane) {
        int gap = 1_000_000;
        Car leader = before(lane, car.front);
        if (leader != null) {
            gap = leader.rear() - car.front;
        }
        for (int[] light : lights) {
            if (car.front <= light[0] && step % light[2] < light[1]) {
                gap = Math.min(gap, light[0] - car.front);
            }
        }
        for (int[] place : closed) {
            if (place[0] == lane && car.front <= place[1] && place[2] <= step && step < place[3]) {
                gap = Math.min(gap, place[1] - car.front);
            }
        }
        for (int i = 0; i < stops.size(); i++) {
            int[] stop = stops.get(i);
            if (car.bus && car.stood[i] < stop[1] && car.front <= stop[0]) {
                gap = Math.min(gap, stop[0] - car.front);
            }
        }
        return gap;
    }

    static int allowed(int gap) {
        return gap < 200 ? 0 : (gap - 200) / 10;
    }

    void step() {
        for (int lane = 0; lane < lanes; lane++) {
            enter(lane);
        }
        for (Car car : cars) {
            if (car.state == 1) {
                change(car);
            }
        }
        int[] speeds = new int[cars.size()];
        for (int i = 0; i < cars.size(); i++) {
            Car car = cars.get(i);
            if (car.state == 1) {
                int faster = step % car.delay == 0 ? car.speed + 6 : car.speed;
                speeds[i] = Math.min(Math.min(allowed(gap(car, car.lane)), car.wish), faster);
            }
        }
        for (int i = 0; i < cars.size(); i++) {
            if (cars.get(i).state == 1) {
                many[1] += speeds[i] <= cars.get(i).speed - 20 ? 1 : 0;
                move(cars.get(i), speeds[i]);
            }
        }
        for (Car car : cars) {
            if (car.state == 1 && car.rear() > length) {
                car.state = 2;
                car.gone = step;
            }
        }
        step++;
        for (Car car : cars) {
            Car leader = car.state == 1 ? before(car.lane, car.front) : null;
            if (leader != null && car.speed > leader.speed
                    && leader.rear() - car.front < 5 * car.speed) {
                many[0]++;
            }
        }
    }

    private void enter(int lane) {
        for (Car car : cars) {
            if (car.state == 0 && car.lane == lane) {
                for (Car other : cars) {
                    if (other.state == 1 && other.lane == lane && other.rear() < car.length + 200) {
                        return;
                    }
                }
                car.front = car.length;
                car.speed = Math.min(car.wish, allowed(gap(car, lane)));
                car.state = 1;
                car.came = step;
                return;
            }
        }
    }

    private void change(Car car) {
        boolean rested = car.came < step - 30 && (car.changed == -1 || car.changed < step - 30);
        int own = rested ? gap(car, car.lane) : 0;
        if (!rested || allowed(own) >= car.wish) {
            return;
        }
        for (int lane = car.lane - 1; lane <= car.lane + 1; lane += 2) {
            if (lane >= 0 && lane < lanes && gap(car, lane) >= own + 500 && fits(car, lane)) {
                car.lane = lane;
                car.changed = step;
                many[2]++;
                return;
            }
        }
    }

    private boolean fits(Car car, int lane) {
        for (Car other : cars) {
            if (other.state == 1 && other.lane == lane) {
                boolean beyond = other.front > car.front;
                if (!beyond && other.front + 200 + 10 * other.speed > car.rear()) {
                    return false;
                }
                if (beyond && other.rear() < car.front) {
                    return false;
                }
            }
        }
        return true;
    }

    private void move(Car car, int speed) {
        int was = car.front;
        car.speed = speed;
        car.front += speed;
        for (int i = 0; i < lines.size(); i++) {
            if (was <= lines.get(i) && car.front > lines.get(i)) {
                counted[i][car.lane]++;
            }
        }
        for (int i = 0; i < stops.size(); i++) {
            int far = stops.get(i)[0] - car.front;
            if (car.bus && speed == 0 && far >= 0 && far <= 400) {
                car.stood[i]++;
                servings += car.stood[i] == stops.get(i)[1] ? 1 : 0;
            }
        }
    }

    boolean ordered() {
        for (Car one : cars) {
            for (Car other : cars) {
                if (one != other && one.state == 1 && other.state == 1 && one.lane == other.lane
                        && one.rear() < other.front && other.rear() < one.front) {
                    return false;
                }
            }
        }
        return true;
    }

    /** The answers to all that can be asked, in the order of a Story's questions. */
    int[] everything() {
        List<Integer> all = new ArrayList<>();
        int[] states = new int[3];
        int[] waiting = new int[3];
        int times = 0;
        for (Car car : cars) {
            states[car.state]++;
            waiting[car.lane] += car.state == 0 ? 1 : 0;
            times += car.state == 2 ? car.gone - car.came : 0;
        }
        addAll(all, cars.size(), states[1], states[2], step, lights.size(), closed.size(), stops.size(),
                lines.size(), lanes, length);
        for (int i = 0; i < 60; i++) {
            if (i < cars.size()) {
                Car car = cars.get(i);
                addAll(all, car.state, car.lane, car.front, car.speed, car.came, car.gone, car.length, car.wish,
                        car.delay, car.state == 1 ? gap(car, car.lane) : -1);
            } else {
                addAll(all, -1, -1, -1, -1, -1, -1, -1, -1, -1, -1);
            }
        }
        for (int line = 0; line < 4; line++) {
            for (int lane = 0; lane < 3; lane++) {
                all.add(line < lines.size() && lane < lanes ? counted[line][lane] : -1);
            }
        }
        for (int i = 0; i < 3; i++) {
            addAll(all, many[i], i < lanes ? waiting[i] : -1);
        }
        addAll(all, times, ordered() ? 1 : 0);
        return all.stream().mapToInt(Integer::intValue).toArray();
    }

    private static void addAll(List<Integer> all, int... more) {
        for (int one : more) {
            all.add(one);
        }
    }

    Kept keep() {
        Kept kept = new Kept();
        for (Car car : cars) {
            kept.cars.add(car.copy());
        }
        kept.step = step;
        kept.many = many.clone();
        kept.counted = new int[][] {counted[0].clone(), counted[1].clone(), counted[2].clone(), counted[3].clone()};
        return kept;
    }

    void restore(Kept kept) {
        cars = new ArrayList<>();
        for (Car car : kept.cars) {
            cars.add(car.copy());
        }
        step = kept.step;
        many = kept.many.clone();
        for (int i = 0; i < 4; i++) {
            counted[i] = kept.counted[i].clone();
        }
    }
}
