/**
 * A CarSeeds whose calls are counted: what an object answers behind its 512th call is free, so
 * no test may lean on it.
 */
final class Tried {
    private static final int MOST_CALLS = 512;

    private final CarSeeds seeds;
    private int calls;

    Tried(long seed, int lanes, int length) {
        seeds = new CarSeeds(seed, lanes, length);
    }

    int callsLeft() {
        return MOST_CALLS - calls;
    }

    private CarSeeds use() {
        calls++;
        if (calls > MOST_CALLS) {
            throw new IllegalStateException("this test makes more than 512 calls on one object");
        }
        return seeds;
    }

    int come(int lane, int kind) {
        return use().come(lane, kind);
    }

    boolean light(int place, int red, int cycle) {
        return use().light(place, red, cycle);
    }

    boolean close(int lane, int place, int from, int to) {
        return use().close(lane, place, from, to);
    }

    boolean stop(int place, int dwell) {
        return use().stop(place, dwell);
    }

    int line(int place) {
        return use().line(place);
    }

    int run(int steps) {
        return use().run(steps);
    }

    int told(int car, int what) {
        return use().told(car, what);
    }

    int drawn(int car, int what) {
        return use().drawn(car, what);
    }

    int gap(int car) {
        return use().gap(car);
    }

    int counted(int line, int lane) {
        return use().counted(line, lane);
    }

    int times() {
        return use().times();
    }

    int many(int what) {
        return use().many(what);
    }

    int waiting(int lane) {
        return use().waiting(lane);
    }

    boolean ordered() {
        return use().ordered();
    }

    int save(int slot) {
        return use().save(slot);
    }

    int back(int slot) {
        return use().back(slot);
    }

    int count(int what) {
        return use().count(what);
    }
}
