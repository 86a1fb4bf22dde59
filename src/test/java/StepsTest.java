/**
 * The sentences of 'Terms' that say what a step does, each at its bounds, with places worked out
 * by hand. With seed 0, car 0 has length 400, wish 188, delay 8; car 1 has 518, 162, 8; bus 0 has
 * 1200, 148, 8. A car that drives up to a place comes to rest 209 before it, for (g - 200) / 10
 * is 0 from there on.
 */
public final class StepsTest {
    private static final int FREE = 1_000_000;
    private static final int REST = 209;
    private static final int EVER = Integer.MAX_VALUE;
    private static final Checks CHECKS = new Checks();

    public static void main(String[] args) {
        aCarAloneDrivesAtItsWish();
        oneCarALaneComesInAStep();
        theOneThatWaitsLongestComes();
        theNextCarComesWhenThereIsRoom();
        roomIsLengthAnd200();
        aComingCarHasTheLesserSpeed();
        changesWait30Steps();
        changesNeedAGapThatAllowsLessThanTheWish();
        changesTryTheLaneOneLessFirst();
        changesNeedSuchALane();
        changesNeed500More();
        changesNeed500MoreToARear();
        changesLeaveRoomForAStandingCar();
        changesLeaveRoomForADrivingCar();
        changesHeedACarBeside();
        changesHeedACarPartlyBefore();
        changesGoByNumbers();
        speedsGrowInStepsThatTheDelayDivides();
        speedsAreTheLeastOfThree();
        brakingIsHardFrom20On();
        busesStandWithin400();
        busesStandWithSpeed0Alone();
        busesAreServedBehindTheDwell();
        busesStandWhereTheyCome();
        busesAreServedOneByOne();
        linesCountWhatIsBeyond();
        linesCountOnce();
        linesCountInTheLaneOfTheCar();
        linesAtTheRoadsEnds();
        carsAreGoneWithTheRearBeyondTheEnd();
        nearMissesAreNeverMet();
        CHECKS.end();
    }

    private static void due(String call, long got, long want) {
        CHECKS.due(call, got, want);
    }

    private static Tried road(int lanes) {
        return new Tried(0L, lanes, 60_000);
    }

    /** "Then all move by their speeds.", "The step's number is one more." */
    private static void aCarAloneDrivesAtItsWish() {
        Tried x = new Tried(0L, 1, 18_000);
        x.come(0, 0);
        for (int step = 1; step < 96; step++) {
            due("alone, step", x.run(1), step);
            due("alone, front", x.told(0, 2), 400 + 188 * step);
            due("alone, speed", x.told(0, 3), 188);
            due("alone, on the road", x.told(0, 0), 1);
        }
        x.run(1);
        due("alone, gone", x.told(0, 0), 2);
        due("alone, gone in", x.told(0, 5), 95);
        due("alone, times", x.times(), 95);
    }

    /** "First, lane by lane, the car that waits there longest comes onto the road" */
    private static void oneCarALaneComesInAStep() {
        Tried x = road(3);
        int[] lanes = {2, 2, 0, 0, 1};
        for (int lane : lanes) {
            x.come(lane, 0);
        }
        x.run(1);
        int[] states = {1, 0, 1, 0, 1};
        for (int car = 0; car < 5; car++) {
            due("one a lane, car " + car, x.told(car, 0), states[car]);
            due("one a lane, lane of car " + car, x.told(car, 1), lanes[car]);
        }
    }

    /** The longest one comes first, and no other instead of it, though that had room. */
    private static void theOneThatWaitsLongestComes() {
        Tried x = road(2);
        x.close(0, 1_000 + 400 + REST, 0, EVER);
        x.close(1, 1_000 + 400 + REST, 0, EVER);
        x.come(0, 0);
        x.come(0, 1);
        x.come(0, 0);
        x.run(300);
        due("longest, the first rests", x.told(0, 2) - 400, 1_000);
        due("longest, a bus has no room", x.told(1, 0), 0);
        due("longest, a car behind it waits too", x.told(2, 0), 0);
        Tried y = road(1);
        y.close(0, 1_000 + 400 + REST, 0, EVER);
        y.come(0, 0);
        y.come(0, 0);
        y.come(0, 1);
        y.run(300);
        due("longest, the car has room", y.told(1, 0), 1);
        due("longest, the bus behind it waits", y.told(2, 0), 0);
    }

    private static void theNextCarComesWhenThereIsRoom() {
        Tried x = road(1);
        x.come(0, 0);
        x.come(0, 0);
        x.run(4);
        due("next, waits while the rear is at 564", x.told(1, 0), 0);
        // In step 4 the rear is at 752, at least 718; the gap of 234 allows 3.
        int[] fronts = {521, 524, 527, 530, 539, 548};
        int[] speeds = {3, 3, 3, 3, 9, 9};
        for (int i = 0; i < fronts.length; i++) {
            x.run(1);
            due("next, came in", x.told(1, 4), 4);
            due("next, front behind step " + (4 + i), x.told(1, 2), fronts[i]);
            due("next, speed behind step " + (4 + i), x.told(1, 3), speeds[i]);
        }
    }

    /** "if no rear in that lane is below its length and 200" */
    private static void roomIsLengthAnd200() {
        int[] lengths = {518, 1_200};
        for (int kind = 0; kind <= 1; kind++) {
            for (int less = 0; less <= 1; less++) {
                int rear = lengths[kind] + 200 - less;
                Tried x = road(1);
                x.close(0, rear + 400 + REST, 0, EVER);
                x.come(0, 0);
                x.come(0, kind);
                x.run(200);
                due("room, rear", x.told(0, 2) - 400, rear);
                due("room, kind " + kind + " on the road", x.told(1, 0), 1 - less);
                due("room, it came and stands", x.told(1, 3), 0);
            }
        }
    }

    /** "its front is its length, its speed the lesser one of its wish and what its gap allows" */
    private static void aComingCarHasTheLesserSpeed() {
        int[][] allowed = {{0, 0}, {209, 0}, {210, 1}, {1_209, 100}, {2_079, 187}, {2_080, 188}, {2_090, 188}};
        for (int[] pair : allowed) {
            Tried x = road(1);
            x.close(0, 400 + pair[0], 0, EVER);
            x.come(0, 0);
            // The delay divides step 0 alone of the first ones, so in step 1 no speed grows.
            Tried y = road(1);
            y.close(0, 400 + pair[0], 0, EVER);
            y.run(1);
            y.come(0, 0);
            x.run(1);
            y.run(1);
            due("coming in step 0, gap " + pair[0] + ", speed", x.told(0, 3), pair[1]);
            due("coming in step 0, gap " + pair[0] + ", front", x.told(0, 2), 400 + pair[1]);
            due("coming in step 1, gap " + pair[0] + ", speed", y.told(0, 3), pair[1]);
            due("coming in step 1, gap " + pair[0] + ", front", y.told(0, 2), 400 + pair[1]);
        }
        Tried beyond = road(1);
        beyond.close(0, 399, 0, EVER);
        beyond.come(0, 0);
        beyond.run(1);
        due("coming beyond a closed place", beyond.told(0, 3), 188);
    }

    /** "neither changed nor come onto the road in this step and the 30 before it" */
    private static void changesWait30Steps() {
        Tried x = road(2);
        x.close(0, 3_000, 0, 32);
        x.close(1, 4_000, 32, EVER);
        x.come(0, 0);
        x.run(31);
        due("wait, lane till step 30", x.told(0, 1), 0);
        x.run(1);
        due("wait, lane in step 31", x.told(0, 1), 1);
        x.run(30);
        due("wait, lane till step 61", x.told(0, 1), 1);
        x.run(1);
        due("wait, lane in step 62", x.told(0, 1), 0);
        due("wait, changes", x.many(2), 2);
        Tried late = road(2);
        late.close(0, 3_000, 0, EVER);
        late.run(100);
        late.come(0, 0);
        late.run(31);
        due("came in step 100, lane till step 130", late.told(0, 1), 0);
        late.run(1);
        due("came in step 100, lane in step 131", late.told(0, 1), 1);
    }

    /** "whose gap allows less than its wish" */
    private static void changesNeedAGapThatAllowsLessThanTheWish() {
        for (int less = 0; less <= 1; less++) {
            Tried x = road(2);
            x.come(0, 0);
            x.run(31);
            int front = x.told(0, 2);
            due("wish, front", front, 400 + 31 * 188);
            x.close(0, front + 200 + 1_880 - less, 0, EVER);
            x.run(1);
            due("wish, lane with " + less + " less", x.told(0, 1), less);
            due("wish, changes with " + less + " less", x.many(2), less);
        }
    }

    /** "looks at the lane one less, then at the lane one more", "It goes to the first such lane." */
    private static void changesTryTheLaneOneLessFirst() {
        Tried x = road(3);
        x.close(1, 3_000, 0, EVER);
        x.come(1, 0);
        x.run(32);
        due("one less", x.told(0, 1), 0);
        Tried farther = road(3);
        farther.close(1, 3_000, 0, EVER);
        farther.close(0, 3_500, 0, EVER);
        farther.come(1, 0);
        farther.run(32);
        due("one less, though one more is freer", farther.told(0, 1), 0);
        Tried y = road(3);
        y.close(1, 3_000, 0, EVER);
        y.close(0, 3_499, 0, EVER);
        y.come(1, 0);
        y.run(32);
        due("one more", y.told(0, 1), 2);
        Tried z = road(3);
        z.close(2, 3_000, 0, EVER);
        z.close(1, 3_100, 0, EVER);
        z.come(2, 0);
        z.run(300);
        due("never two lanes at once", z.told(0, 1), 2);
    }

    /** "(if there are such)" */
    private static void changesNeedSuchALane() {
        for (int lanes = 1; lanes <= 3; lanes++) {
            for (int lane = 0; lane < lanes; lane++) {
                Tried x = road(lanes);
                for (int other = 0; other < lanes; other++) {
                    x.close(other, 3_000, 0, EVER);
                }
                x.come(lane, 0);
                x.run(500);
                due("all " + lanes + " lanes closed, lane", x.told(0, 1), lane);
                due("all " + lanes + " lanes closed, changes", x.many(2), 0);
            }
        }
        for (int first = 0; first <= 1; first++) {
            Tried x = road(2);
            x.close(first, 3_000, 0, EVER);
            x.come(first, 0);
            x.run(32);
            due("two lanes, from " + first, x.told(0, 1), 1 - first);
        }
    }

    /** "if its gap there is at least 500 more than its own" */
    private static void changesNeed500More() {
        for (int more = 499; more <= 500; more++) {
            Tried x = road(2);
            x.close(0, 3_000, 0, EVER);
            x.close(1, 3_000 + more, 0, EVER);
            x.come(0, 0);
            x.run(32);
            due("gap there " + more + " more, lane", x.told(0, 1), more - 499);
            due("gap there " + more + " more, changes", x.many(2), more - 499);
        }
    }

    private static void changesNeed500MoreToARear() {
        for (int more = 499; more <= 500; more++) {
            // Car 0 rests in lane 1, its rear 499 or 500 beyond the place that is closed in lane 0.
            Tried x = road(2);
            x.close(1, 3_000 + more + 400 + REST, 0, EVER);
            x.close(0, 3_000 + more + 400 + REST, 0, 200);
            x.come(1, 0);
            x.run(200);
            due("rear there " + more + " more, rear", x.told(0, 2) - 400, 3_000 + more);
            x.close(0, 3_000, 0, EVER);
            // Lane 0 is closed before car 0's rear, so that car 0 has nothing to look for there.
            x.close(0, 3_000 + more + 400 + REST, 200, EVER);
            x.come(0, 0);
            x.run(31);
            due("rear there " + more + " more, not yet", x.told(1, 1), 0);
            x.run(1);
            due("rear there " + more + " more, lane", x.told(1, 1), more - 499);
        }
    }

    /** Car 0 rests in lane 0; from step 300 on lane 1 is free before it. */
    private static Tried besideARestingCar(int place) {
        Tried x = road(2);
        x.close(0, place, 0, EVER);
        x.close(1, place, 0, 300);
        x.come(0, 0);
        return x;
    }

    /** "has that at least 200 + 10 times its speed (that car's) before its rear" */
    private static void changesLeaveRoomForAStandingCar() {
        for (int more = 0; more <= 1; more++) {
            Tried x = besideARestingCar(4_000);
            // Car 1 rests 200 behind car 0's rear, or one less.
            x.close(1, 4_000 - 400 - 200 + more, 0, EVER);
            x.come(1, 0);
            x.run(300);
            due("standing, rests", x.told(0, 2) - 400 - x.told(1, 2), 200 - more);
            due("standing, no change till step 299", x.many(2), 0);
            x.run(1);
            due("standing, lane with " + more + " more", x.told(0, 1), 1 - more);
        }
    }

    private static void changesLeaveRoomForADrivingCar() {
        for (int less = 0; less <= 1; less++) {
            // Car 1 has driven 6 steps at 162 behind its coming, and wants 200 + 1,620.
            int rear = 518 + 6 * 162 + 1_820 - less;
            Tried x = besideARestingCar(rear + 400 + REST);
            x.run(294);
            x.come(1, 0);
            x.run(6);
            due("driving, front", x.told(1, 2), 518 + 6 * 162);
            due("driving, rear", x.told(0, 2) - 400, rear);
            x.run(1);
            due("driving, lane with " + less + " less", x.told(0, 1), 1 - less);
        }
    }

    /** "each car there whose front is not beyond its own one": one at the same place too. */
    private static void changesHeedACarBeside() {
        Tried x = besideARestingCar(4_000);
        x.come(1, 0);
        x.run(300);
        due("beside, first front", x.told(0, 2), 4_000 - REST);
        due("beside, second front", x.told(1, 2), 4_000 - REST);
        x.run(1);
        due("beside, no change", x.told(0, 1), 0);
        due("beside, changes", x.many(2), 0);
        CHECKS.due("beside, ordered", x.ordered(), true);
    }

    /** "and no car there has its rear below its front and its front beyond it" */
    private static void changesHeedACarPartlyBefore() {
        int[] fars = {1, 200, 517, 518, 519};
        for (int far : fars) {
            Tried x = road(2);
            x.close(0, 4_000, 0, EVER);
            x.close(1, 4_000 + far, 0, EVER);
            x.come(0, 0);
            x.come(1, 0);
            x.run(300);
            due("partly before, how far", x.told(1, 2) - x.told(0, 2), far);
            due("partly before by " + far + ", lane", x.told(0, 1), 0);
            CHECKS.due("partly before by " + far + ", ordered", x.ordered(), true);
        }
    }

    /** "Then, by their numbers": of two that would go to the same place the lower number goes. */
    private static void changesGoByNumbers() {
        for (int first = 0; first <= 2; first += 2) {
            Tried x = road(3);
            x.close(0, 4_000, 0, EVER);
            x.close(1, 4_000, 0, 300);
            x.close(2, 4_000, 0, EVER);
            x.come(first, 0);
            x.come(2 - first, 0);
            x.run(300);
            due("numbers, none till step 299", x.many(2), 0);
            x.run(1);
            due("numbers, the lower one from " + first, x.told(0, 1), 1);
            due("numbers, the higher one", x.told(1, 1), 2 - first);
            due("numbers, one changed", x.many(2), 1);
        }
    }

    /** "or, in steps that its delay divides, its speed and 6" */
    private static void speedsGrowInStepsThatTheDelayDivides() {
        // seed, delay, wish
        int[][] cars = {{0, 8, 188}, {26, 1, 199}, {28, 9, 108}};
        for (int[] car : cars) {
            Tried x = new Tried(car[0], 1, 100_000);
            x.close(0, 2_000, 0, 200);
            x.come(0, 0);
            x.run(200);
            due("delay " + car[1], x.drawn(0, 2), car[1]);
            due("delay " + car[1] + ", at rest", x.told(0, 2), 2_000 - REST);
            int speed = 0;
            for (int step = 200; step < 450; step++) {
                x.run(1);
                speed = step % car[1] == 0 ? Math.min(car[2], speed + 6) : speed;
                due("delay " + car[1] + ", speed in step " + step, x.told(0, 3), speed);
            }
        }
    }

    /** "the least of what its gap allows, its wish, and its speed" */
    private static void speedsAreTheLeastOfThree() {
        Tried x = road(1);
        x.close(0, 2_000, 0, 200);
        x.come(0, 0);
        x.run(201);
        // In step 200 it has grown to 6, and in step 208 it would grow to 12.
        due("least, its speed", x.told(0, 3), 6);
        x.run(7);
        int front = x.told(0, 2);
        due("least, front in step 208", front, 2_000 - REST + 8 * 6);
        int[][] gaps = {{309, 10}, {310, 11}, {319, 11}, {320, 12}, {330, 12}};
        for (int[] pair : gaps) {
            Tried y = road(1);
            y.close(0, 2_000, 0, 200);
            y.come(0, 0);
            y.run(208);
            y.close(0, front + pair[0], 208, 209);
            y.run(1);
            due("least, with a gap of " + pair[0], y.told(0, 3), pair[1]);
        }
    }

    /** "It BRAKES HARD, if that is at least 20 less than before." */
    private static void brakingIsHardFrom20On() {
        for (int drop = 19; drop <= 21; drop++) {
            Tried x = road(1);
            x.come(0, 0);
            x.run(1);
            x.close(0, 588 + 200 + 10 * (188 - drop), 1, 2);
            x.run(1);
            due("braking by " + drop, x.told(0, 3), 188 - drop);
            due("hard brakings by " + drop, x.many(1), drop >= 20 ? 1 : 0);
            x.run(1);
            due("hard brakings by " + drop + ", no more", x.many(1), drop >= 20 ? 1 : 0);
        }
        Tried halt = road(1);
        halt.come(0, 0);
        halt.run(1);
        halt.close(0, 588, 1, EVER);
        halt.run(5);
        due("braking to a halt, once", halt.many(1), 1);
    }

    /** "whose front is within 400 before a stop (or at it)" */
    private static void busesStandWithin400() {
        int rest = 5_000 - REST;
        // how far the stop is, its dwell, the gap when the closed place is open again
        int[][] stops = {{400, 200, FREE}, {400, 201, 400}, {401, 1, 401}, {399, 200, FREE}, {1, 200, FREE},
            {0, 200, FREE}, {0, 201, 0}, {-1, 500, FREE}};
        for (int[] stop : stops) {
            Tried x = road(1);
            x.close(0, 5_000, 0, 400);
            x.come(0, 1);
            x.run(200);
            due("within 400, rests", x.told(0, 2), rest);
            x.stop(rest + stop[0], stop[1]);
            x.run(199);
            due("within 400, rests on", x.told(0, 2), rest);
            x.run(1);
            due("stop " + stop[0] + " far, dwell " + stop[1], x.gap(0), stop[2]);
        }
    }

    /** "A bus whose speed is 0" */
    private static void busesStandWithSpeed0Alone() {
        Tried x = road(1);
        x.stop(5_000, 1);
        x.come(0, 1);
        int slow = 0;
        int far = 0;
        for (int step = 0; step < 100 && (step == 0 || x.told(0, 3) > 0); step++) {
            x.run(1);
            far = 5_000 - x.told(0, 2);
            if (x.told(0, 3) > 0) {
                due("drives " + far + " before a stop, not served", x.gap(0), far);
                slow += far <= 400 ? 1 : 0;
            }
        }
        CHECKS.atLeast("steps that it drove within 400", slow, 10);
        due("stands", far, REST);
        due("stood one step, served", x.gap(0), FREE);
    }

    /** "behind as many as the stop's DWELL it is served there" */
    private static void busesAreServedBehindTheDwell() {
        int[] dwells = {2, 3, 30, 499, 500};
        for (int dwell : dwells) {
            Tried x = road(1);
            x.stop(5_000, dwell);
            x.come(0, 1);
            x.run(1);
            for (int step = 1; step < 100 && x.told(0, 3) > 0; step++) {
                x.run(1);
            }
            due("dwell " + dwell + ", stands", x.told(0, 2), 5_000 - REST);
            if (dwell > 2) {
                x.run(dwell - 2);
            }
            due("dwell " + dwell + ", one step is left", x.gap(0), REST);
            x.run(1);
            due("dwell " + dwell + ", served", x.gap(0), FREE);
            due("dwell " + dwell + ", stood as long", x.told(0, 2), 5_000 - REST);
            x.run(8);
            CHECKS.atLeast("dwell " + dwell + ", drives on", x.told(0, 2), 5_000 - REST + 1);
        }
    }

    private static void busesStandWhereTheyCome() {
        Tried x = road(1);
        x.stop(1_200, 3);
        x.come(0, 1);
        int[] gaps = {0, 0, FREE};
        for (int gap : gaps) {
            x.run(1);
            due("comes at a stop, front", x.told(0, 2), 1_200);
            due("comes at a stop, gap in step " + x.count(3), x.gap(0), gap);
        }
        Tried y = road(1);
        y.stop(1_199, 3);
        y.come(0, 1);
        y.run(1);
        due("comes beyond a stop", y.told(0, 2), 1_200 + 148);
    }

    /** "a bus that has not been SERVED there": each bus at each stop. */
    private static void busesAreServedOneByOne() {
        Tried x = road(1);
        x.stop(5_000, 10);
        x.stop(9_000, 20);
        x.come(0, 1);
        x.run(60);
        x.come(0, 1);
        for (int step = 60; step < 200 && x.told(0, 2) < 5_001; step++) {
            x.run(1);
        }
        due("served at the first, not at the second", x.gap(0), 9_000 - x.told(0, 2));
        x.run(80);
        int rear = x.told(0, 2) - 1_200;
        due("another bus is not served", x.gap(1), Math.min(rear, 5_000) - x.told(1, 2));
        Tried y = road(2);
        y.stop(5_000, 10);
        y.come(0, 1);
        y.run(300);
        y.come(1, 1);
        y.run(20);
        due("one is gone on", y.gap(0), FREE);
        due("the other is not served", y.gap(1), 5_000 - y.told(1, 2));
    }

    /** "when its front was at or before the line and is beyond it" */
    private static void linesCountWhatIsBeyond() {
        Tried x = road(2);
        x.line(399);
        x.line(400);
        x.line(587);
        x.line(588);
        x.come(1, 0);
        int[][] counts = {{0, 1, 1, 0}, {0, 1, 1, 1}, {0, 1, 1, 1}};
        for (int[] count : counts) {
            x.run(1);
            for (int line = 0; line < 4; line++) {
                due("counted(" + line + ", 1) in step " + x.count(3), x.counted(line, 1), count[line]);
                due("counted(" + line + ", 0) in step " + x.count(3), x.counted(line, 0), 0);
            }
        }
        Tried y = road(1);
        y.come(0, 0);
        y.run(1);
        y.line(587);
        y.line(588);
        y.line(589);
        y.run(1);
        int[] late = {0, 1, 1};
        for (int line = 0; line < 3; line++) {
            due("a line told at 588, counted(" + line + ", 0)", y.counted(line, 0), late[line]);
        }
    }

    /** A car that rests at the line itself is counted once, when it goes on. */
    private static void linesCountOnce() {
        Tried x = road(1);
        x.close(0, 3_000, 0, 200);
        x.line(3_000 - REST);
        x.line(3_000 - REST - 1);
        x.come(0, 0);
        x.run(200);
        due("rests at the line", x.told(0, 2), 3_000 - REST);
        due("at the line", x.counted(0, 0), 0);
        due("beyond the other", x.counted(1, 0), 1);
        x.run(1);
        due("one step beyond", x.counted(0, 0), 1);
        x.run(100);
        due("counted once", x.counted(0, 0), 1);
        due("and once at the other", x.counted(1, 0), 1);
    }

    /** "A line counts a car in its lane" */
    private static void linesCountInTheLaneOfTheCar() {
        Tried x = road(2);
        x.close(0, 3_000, 0, EVER);
        x.line(2_900);
        x.line(500);
        x.come(0, 0);
        x.run(400);
        due("counted where it came", x.counted(0, 0), 0);
        due("counted where it is", x.counted(0, 1), 1);
        due("counted where it was then", x.counted(1, 0), 1);
        due("not counted where it is now", x.counted(1, 1), 0);
    }

    private static void linesAtTheRoadsEnds() {
        Tried x = new Tried(0L, 1, 5_000);
        x.line(0);
        x.line(5_000);
        x.come(0, 0);
        x.run(24);
        due("ends, front", x.told(0, 2), 4_912);
        due("ends, not yet", x.counted(1, 0), 0);
        x.run(1);
        due("ends, beyond the last place", x.counted(1, 0), 1);
        x.run(100);
        due("ends, gone", x.told(0, 0), 2);
        due("ends, the last place", x.counted(1, 0), 1);
        due("ends, place 0", x.counted(0, 0), 0);
    }

    /** "A car whose rear is beyond the road's end is gone." */
    private static void carsAreGoneWithTheRearBeyondTheEnd() {
        for (int less = 0; less <= 1; less++) {
            Tried x = new Tried(0L, 1, 1_880 - less);
            x.come(0, 0);
            x.run(10);
            due("rear at 1,880", x.told(0, 2) - 400, 1_880);
            due("rear " + less + " beyond the end", x.told(0, 0), 1 + less);
            due("rear " + less + " beyond the end, in step", x.told(0, 5), less == 1 ? 9 : -1);
            due("rear " + less + " beyond the end, on the road", x.count(1), 1 - less);
            x.run(1);
            due("gone at last", x.told(0, 0), 2);
            due("gone in step", x.told(0, 5), 10 - less);
        }
    }

    /**
     * A speed v is at most what the gap allows before the move, so that at least 200 + 9 v is
     * left behind it: never less than 5 times v, however fast a car comes up to a standing one.
     */
    private static void nearMissesAreNeverMet() {
        Tried x = new Tried(0L, 2, 20_000);
        x.close(0, 9_000, 0, EVER);
        x.close(1, 9_000, 0, 250);
        for (int car = 0; car < 30; car++) {
            x.come(car % 2, car % 9 == 8 ? 1 : 0);
        }
        for (int i = 0; i < 200; i++) {
            x.run(3);
            due("near misses", x.many(0), 0);
        }
        CHECKS.atLeast("cars stood in rows", x.count(1), 10);
    }
}
