/**
 * What a step does, with places worked out by hand. With seed 0 the first cars are drawn so:
 * car 0 has length 400, wish 188, delay 8; car 1 has 518, 162, 8; bus 0 has 1200, 148, 8.
 * A car that drives up to a place comes to rest 209 before it, for (g - 200) / 10 is 0 from
 * there on.
 */
public final class StepsTest {
    private static final int FREE = 1_000_000;
    private static final int REST = 209;
    private static final int EVER = Integer.MAX_VALUE;
    private static final Checks CHECKS = new Checks();

    public static void main(String[] args) {
        aCarAloneDrivesAtItsWish();
        theNextCarComesWhenThereIsRoom();
        roomIsLengthAnd200();
        oneCarALaneAStep();
        lightsAreRedFirst();
        lightsStandForThoseNotBeyond();
        closedPlacesStandFromToBefore();
        speedGrowsInStepsThatTheDelayDivides();
        brakingIsHardFrom20On();
        changesWait30Steps();
        changesNeed500More();
        changesTryTheLaneOneLessFirst();
        changesNeedAGapThatAllowsLessThanTheWish();
        changesLeaveRoomForAStandingCar();
        changesLeaveRoomForADrivingCar();
        busesAreServed();
        busesStandWithin400();
        stopsAreForBusesAlone();
        linesCountWhatPasses();
        CHECKS.end();
    }

    private static void due(String call, long got, long want) {
        CHECKS.due(call, got, want);
    }

    private static CarSeeds road(int lanes) {
        return new CarSeeds(0L, lanes, 60_000);
    }

    private static void aCarAloneDrivesAtItsWish() {
        CarSeeds x = new CarSeeds(0L, 1, 30_000);
        x.come(0, 0);
        for (int step = 1; step < 160; step++) {
            x.run(1);
            due("alone, front", x.told(0, 2), 400 + 188 * step);
            due("alone, speed", x.told(0, 3), 188);
            due("alone, on the road", x.told(0, 0), 1);
        }
        x.run(1);
        due("alone, gone", x.told(0, 0), 2);
        due("alone, gone in", x.told(0, 5), 159);
        due("alone, times", x.times(), 159);
    }

    private static void theNextCarComesWhenThereIsRoom() {
        CarSeeds x = road(1);
        x.come(0, 0);
        x.come(0, 0);
        x.run(4);
        due("next, waits while the rear is at 564", x.told(1, 0), 0);
        // In step 4 the rear is at 752, at least 718; the gap of 234 allows 3.
        int[] fronts = {521, 524, 527, 530, 539, 548};
        int[] speeds = {3, 3, 3, 3, 9, 9};
        for (int i = 0; i < fronts.length; i++) {
            x.run(1);
            due("next, came in", x.told(1, 4), 4);
            due("next, front behind step " + (4 + i), x.told(1, 2), fronts[i]);
            due("next, speed behind step " + (4 + i), x.told(1, 3), speeds[i]);
        }
    }

    private static void roomIsLengthAnd200() {
        for (int less = 0; less <= 1; less++) {
            CarSeeds x = road(1);
            x.close(0, 718 + 400 + REST - less, 0, EVER);
            x.come(0, 0);
            x.come(0, 0);
            x.run(200);
            due("room, rear", x.told(0, 2) - 400, 718 - less);
            due("room, car 1 on the road", x.told(1, 0), 1 - less);
            due("room, it came and stands", x.told(1, 3), 0);
        }
    }

    private static void oneCarALaneAStep() {
        CarSeeds x = road(3);
        int[] lanes = {2, 2, 0, 0, 1};
        for (int lane : lanes) {
            x.come(lane, 0);
        }
        x.run(1);
        int[] states = {1, 0, 1, 0, 1};
        for (int car = 0; car < 5; car++) {
            due("one a lane, car " + car, x.told(car, 0), states[car]);
            due("one a lane, lane of car " + car, x.told(car, 1), lanes[car]);
        }
    }

    private static void lightsAreRedFirst() {
        CarSeeds x = road(2);
        x.light(50_000, 3, 10);
        x.come(1, 0);
        x.run(1);
        for (int step = 1; step <= 45; step++) {
            boolean red = step % 10 < 3;
            due("red in step " + step, x.gap(0), red ? 50_000 - x.told(0, 2) : FREE);
            x.run(1);
        }
        CarSeeds never = road(1);
        never.light(5_000, 0, 1);
        never.come(0, 0);
        never.run(30);
        due("never red", never.told(0, 2), 400 + 30 * 188);
        CarSeeds ever = road(1);
        ever.light(5_000, 7, 7);
        ever.come(0, 0);
        ever.run(500);
        due("ever red", ever.told(0, 2), 5_000 - REST);
    }

    private static void lightsStandForThoseNotBeyond() {
        CarSeeds x = road(1);
        x.come(0, 0);
        x.run(1);
        x.light(587, 1, 1);
        due("beyond a light", x.gap(0), FREE);
        x.light(588, 1, 1);
        due("at a light", x.gap(0), 0);
        x.run(1);
        due("at a light, stands", x.told(0, 2), 588);
        due("at a light, speed", x.told(0, 3), 0);
    }

    private static void closedPlacesStandFromToBefore() {
        CarSeeds x = road(2);
        x.close(0, 50_000, 3, 5);
        x.close(1, 40_000, 0, EVER);
        x.close(0, 30_000, 4, 4);
        x.come(0, 0);
        for (int step = 1; step <= 8; step++) {
            x.run(1);
            boolean closed = step == 3 || step == 4;
            due("closed in step " + step, x.gap(0), closed ? 50_000 - x.told(0, 2) : FREE);
        }
        CarSeeds near = road(1);
        near.come(0, 0);
        near.run(1);
        near.close(0, 587, 0, EVER);
        due("beyond a closed place", near.gap(0), FREE);
        near.close(0, 588, 0, EVER);
        due("at a closed place", near.gap(0), 0);
        CarSeeds atOnce = road(1);
        atOnce.close(0, 400 + 200 + 57, 0, 1);
        atOnce.come(0, 0);
        atOnce.run(1);
        due("the gap of 257 allows 5 at once", atOnce.told(0, 3), 5);
    }

    private static void speedGrowsInStepsThatTheDelayDivides() {
        CarSeeds x = road(1);
        x.close(0, 2_000, 0, 100);
        x.come(0, 0);
        x.run(104);
        due("delay, stands till step 103", x.told(0, 3), 0);
        due("delay, at rest", x.told(0, 2), 2_000 - REST);
        for (int step = 104; step < 500 && x.told(0, 0) == 1; step++) {
            x.run(1);
            int grown = Math.min(188, 6 * ((step - 104) / 8 + 1));
            due("delay, speed in step " + step, x.told(0, 3), grown);
        }
        due("delay, no hard braking", x.many(1), 0);
    }

    private static void brakingIsHardFrom20On() {
        for (int drop = 19; drop <= 20; drop++) {
            CarSeeds x = road(1);
            x.come(0, 0);
            x.run(1);
            x.close(0, 588 + 200 + 10 * (188 - drop), 1, 2);
            x.run(1);
            due("braking by " + drop, x.told(0, 3), 188 - drop);
            due("hard brakings by " + drop, x.many(1), drop == 20 ? 1 : 0);
        }
    }

    private static void changesWait30Steps() {
        CarSeeds x = road(2);
        x.close(0, 3_000, 0, 32);
        x.close(1, 4_000, 32, EVER);
        x.come(0, 0);
        x.run(31);
        due("wait, lane till step 30", x.told(0, 1), 0);
        x.run(1);
        due("wait, lane in step 31", x.told(0, 1), 1);
        x.run(30);
        due("wait, lane till step 61", x.told(0, 1), 1);
        x.run(1);
        due("wait, lane in step 62", x.told(0, 1), 0);
        due("wait, changes", x.many(2), 2);
    }

    private static void changesNeed500More() {
        for (int more = 499; more <= 500; more++) {
            CarSeeds x = road(2);
            x.close(0, 3_000, 0, EVER);
            x.close(1, 3_000 + more, 0, EVER);
            x.come(0, 0);
            x.run(32);
            due("gap there " + more + " more, lane", x.told(0, 1), more - 499);
            due("gap there " + more + " more, changes", x.many(2), more - 499);
        }
        CarSeeds alone = road(1);
        alone.close(0, 3_000, 0, EVER);
        alone.come(0, 0);
        alone.run(500);
        due("no other lane", alone.many(2), 0);
    }

    private static void changesTryTheLaneOneLessFirst() {
        CarSeeds x = road(3);
        x.close(1, 3_000, 0, EVER);
        x.come(1, 0);
        x.run(32);
        due("one less", x.told(0, 1), 0);
        CarSeeds y = road(3);
        y.close(1, 3_000, 0, EVER);
        y.close(0, 3_499, 0, EVER);
        y.come(1, 0);
        y.run(32);
        due("one more", y.told(0, 1), 2);
        CarSeeds z = road(3);
        z.close(2, 3_000, 0, EVER);
        z.close(1, 3_100, 0, EVER);
        z.come(2, 0);
        z.run(300);
        due("never two lanes at once", z.told(0, 1), 2);
    }

    private static void changesNeedAGapThatAllowsLessThanTheWish() {
        for (int less = 0; less <= 1; less++) {
            CarSeeds x = road(2);
            x.come(0, 0);
            x.run(31);
            int front = x.told(0, 2);
            due("wish, front", front, 400 + 31 * 188);
            x.close(0, front + 200 + 1_880 - less, 0, EVER);
            x.run(1);
            due("wish, lane with " + less + " less", x.told(0, 1), less);
        }
    }

    /** Car 0 rests in lane 0; from step 300 on lane 1 is free before it. */
    private static CarSeeds besideARestingCar(int place) {
        CarSeeds x = road(2);
        x.close(0, place, 0, EVER);
        x.close(1, place, 0, 300);
        x.come(0, 0);
        return x;
    }

    private static void changesLeaveRoomForAStandingCar() {
        for (int more = 0; more <= 1; more++) {
            CarSeeds x = besideARestingCar(4_000);
            // Car 1 rests 200 behind car 0's rear, or one less.
            x.close(1, 4_000 - 400 - 200 + more, 0, EVER);
            x.come(1, 0);
            x.run(300);
            due("standing, rests", x.told(0, 2) - 400 - x.told(1, 2), 200 - more);
            due("standing, no change till step 299", x.many(2), 0);
            x.run(1);
            due("standing, lane with " + more + " more", x.told(0, 1), 1 - more);
        }
    }

    private static void changesLeaveRoomForADrivingCar() {
        for (int less = 0; less <= 1; less++) {
            // Car 1 has driven 6 steps at 162 behind its coming, and wants 200 + 1,620.
            int rear = 518 + 6 * 162 + 1_820 - less;
            CarSeeds x = besideARestingCar(rear + 400 + REST);
            x.run(294);
            x.come(1, 0);
            x.run(6);
            due("driving, front", x.told(1, 2), 518 + 6 * 162);
            due("driving, rear", x.told(0, 2) - 400, rear);
            x.run(1);
            due("driving, lane with " + less + " less", x.told(0, 1), 1 - less);
        }
    }

    private static void busesAreServed() {
        CarSeeds x = road(1);
        x.stop(5_000, 30);
        x.come(0, 1);
        int stood = 0;
        for (int step = 0; step < 400; step++) {
            x.run(1);
            int far = 5_000 - x.told(0, 2);
            stood += far >= 0 && far <= 400 && x.told(0, 3) == 0 ? 1 : 0;
            due("served behind step " + step, x.gap(0), stood < 30 ? far : FREE);
        }
        CHECKS.atLeast("steps that the bus stood", stood, 30);
        CHECKS.atLeast("the bus drives on", x.told(0, 2), 5_001);
    }

    private static void busesStandWithin400() {
        int rest = 5_000 - REST;
        // how far the stop is, its dwell, the gap when the closed place is open again
        int[][] stops = {{400, 200, FREE}, {400, 201, 400}, {401, 1, 401}, {0, 200, FREE}, {0, 201, 0}, {-1, 500, FREE}};
        for (int[] stop : stops) {
            CarSeeds x = road(1);
            x.close(0, 5_000, 0, 400);
            x.come(0, 1);
            x.run(200);
            due("within 400, rests", x.told(0, 2), rest);
            x.stop(rest + stop[0], stop[1]);
            x.run(199);
            due("within 400, rests on", x.told(0, 2), rest);
            x.run(1);
            due("stop " + stop[0] + " far, dwell " + stop[1], x.gap(0), stop[2]);
        }
    }

    private static void stopsAreForBusesAlone() {
        CarSeeds x = road(2);
        x.stop(5_000, 30);
        x.come(0, 0);
        x.come(1, 1);
        x.run(20);
        due("a car and a stop", x.gap(0), FREE);
        due("a bus and a stop", x.gap(1), 5_000 - x.told(1, 2));
        x.run(20);
        due("a car drives past", x.told(0, 2), 400 + 40 * 188);
    }

    private static void linesCountWhatPasses() {
        CarSeeds x = road(2);
        x.line(399);
        x.line(400);
        x.line(588);
        x.line(589);
        x.come(1, 0);
        int[][] counts = {{0, 1, 0, 0}, {0, 1, 1, 1}, {0, 1, 1, 1}};
        for (int[] count : counts) {
            x.run(1);
            for (int line = 0; line < 4; line++) {
                due("counted(" + line + ", 1) in step " + x.count(3), x.counted(line, 1), count[line]);
                due("counted(" + line + ", 0) in step " + x.count(3), x.counted(line, 0), 0);
            }
        }
        CarSeeds y = road(2);
        y.close(0, 3_000, 0, EVER);
        y.line(2_900);
        y.come(0, 0);
        y.run(400);
        due("counted where it came", y.counted(0, 0), 0);
        due("counted where it is", y.counted(0, 1), 1);
    }
}
