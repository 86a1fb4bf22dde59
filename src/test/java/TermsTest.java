/**
 * The sentences of 'Terms' that say what a road, a car, its draws, a thing that stands and a gap
 * are, each at its bounds. With seed 0, car 0 has length 400, wish 188, delay 8; car 1 has 518,
 * 162, 8; bus 0 has 1200, 148, 8. A car that drives up to a place comes to rest 209 before it,
 * for (g - 200) / 10 is 0 from there on.
 */
public final class TermsTest {
    private static final int MAX = Integer.MAX_VALUE;
    private static final int MIN = Integer.MIN_VALUE;
    private static final int BAD = CarSeeds.BAD;
    private static final int FREE = 1_000_000;
    private static final int REST = 209;
    private static final int EVER = Integer.MAX_VALUE;
    private static final Checks CHECKS = new Checks();

    public static void main(String[] args) {
        anObjectIsUsedFor512Calls();
        lanesAre1To3BoundSo();
        lengthIs1000To100000BoundSo();
        carsAre60AtMost();
        carsAre60AtMostOnTheRoad();
        carsWaitThenAreOnTheRoadThenGone();
        drawsTakeTheLowest31Bits();
        drawsReachTheirEnds();
        busesAre1200LongAndWish40Less();
        lightsAreRedInTheFirstStepsOfACycle();
        lightsAreRedInStep0();
        lightsWithTheLongestCycle();
        lightsRedInNoStepOrInAll();
        lightsStandForAllLanes();
        closedPlacesStandFromTheFirstUpToBeforeTheLast();
        closedPlacesStandInStep0();
        closedPlacesStandInOneLane();
        stopsStandForBusesAlone();
        thingsStandForFrontsNotBeyond();
        gapsAreFreeWithoutAny();
        gapsAreToTheNearestRearBeyond();
        gapsAreToARearStillOnTheRoad();
        gapsAreToTheNearestThingIfNearer();
        gapsAllowTenthsCutOff();
        CHECKS.end();
    }

    private static void due(String call, long got, long want) {
        CHECKS.due(call, got, want);
    }

    private static void due(String call, boolean got, boolean want) {
        CHECKS.due(call, got, want);
    }

    private static Tried road(int lanes) {
        return new Tried(0L, lanes, 60_000);
    }

    /** "An object is used for at most 512 calls after it has been made." */
    private static void anObjectIsUsedFor512Calls() {
        Tried x = road(1);
        x.close(0, 3_000, 0, EVER);
        x.light(2_900, 1, 2_000);
        x.come(0, 0);
        for (int call = 4; call < 511; call++) {
            x.run(1_000);
        }
        due("512 calls: the last but one", x.gap(0), REST);
        due("512 calls: the last one", x.run(1_000), 508_000);
        due("512 calls: that was the last one", x.callsLeft(), 0);
    }

    /** "lanes 0 .. n - 1 (1 .. 3, bound so)" */
    private static void lanesAre1To3BoundSo() {
        int[][] lanes = {{1, 1}, {2, 2}, {3, 3}, {0, 1}, {4, 3}, {-1, 1}, {5, 3}, {MIN, 1}, {MAX, 3}};
        for (int[] pair : lanes) {
            String of = "lanes of " + pair[0] + ": ";
            Tried x = new Tried(0L, pair[0], 2_000);
            int last = pair[1] - 1;
            due(of + "how many", x.count(8), pair[1]);
            due(of + "the first", x.come(0, 0), 0);
            due(of + "the last", x.come(last, 0), 1);
            due(of + "one before the first", x.come(-1, 0), BAD);
            due(of + "one behind the last", x.come(last + 1, 0), BAD);
            due(of + "closed, the last", x.close(last, 5, 0, 1), true);
            due(of + "closed, one behind the last", x.close(last + 1, 5, 0, 1), false);
            due(of + "waiting, the last", x.waiting(last), last == 0 ? 2 : 1);
            due(of + "waiting, one behind the last", x.waiting(last + 1), BAD);
        }
    }

    /** "is 1,000 .. 100,000 centimetres long (bound so)" */
    private static void lengthIs1000To100000BoundSo() {
        int[][] lengths = {{1_000, 1_000}, {1_001, 1_001}, {999, 1_000}, {0, 1_000}, {-1, 1_000}, {MIN, 1_000},
            {100_000, 100_000}, {99_999, 99_999}, {100_001, 100_000}, {MAX, 100_000}};
        for (int[] pair : lengths) {
            String of = "length of " + pair[0] + ": ";
            Tried x = new Tried(0L, 1, pair[0]);
            due(of + "how long", x.count(9), pair[1]);
            due(of + "the end", x.line(pair[1]), 0);
            due(of + "beyond the end", x.line(pair[1] + 1), BAD);
            // The rear is at 188 times the steps done, and gone with the first one beyond the end.
            int steps = pair[1] / 188 + 1;
            x.come(0, 0);
            x.run(steps - 1);
            due(of + "not yet gone", x.told(0, 0), 1);
            x.run(1);
            due(of + "gone", x.told(0, 0), 2);
        }
    }

    /** "CARS are 0, 1, .. as they come (60 at most)" */
    private static void carsAre60AtMost() {
        Tried x = road(3);
        for (int car = 0; car < 60; car++) {
            due("60 cars: one more", x.come(car % 3, car % 2), car);
        }
        due("60 cars: the last one is there", x.told(59, 0), 0);
        due("60 cars: and one more", x.come(0, 0), BAD);
        due("60 cars: or a bus", x.come(2, 1), BAD);
        due("60 cars: there is no such", x.told(60, 0), BAD);
        due("60 cars: there are", x.count(0), 60);
    }

    /** All 60 at once on the road in a lane, and then gone. */
    private static void carsAre60AtMostOnTheRoad() {
        Tried x = new Tried(0L, 1, 100_000);
        x.close(0, 90_000, 0, 5_000);
        for (int car = 0; car < 60; car++) {
            x.come(0, 0);
        }
        for (int i = 0; i < 5; i++) {
            x.run(1_000);
        }
        due("60 on the road", x.count(1), 60);
        due("60 on the road, none waits", x.waiting(0), 0);
        for (int car = 1; car < 60; car++) {
            due("60 on the road, front of " + car, x.told(car, 2),
                    x.told(car - 1, 2) - x.drawn(car - 1, 0) - REST);
        }
        for (int i = 0; i < 5; i++) {
            x.run(1_000);
        }
        due("60 gone", x.count(2), 60);
    }

    /** "each WAITS for its lane, then is on the road, then GONE" */
    private static void carsWaitThenAreOnTheRoadThenGone() {
        Tried x = new Tried(0L, 1, 1_000);
        x.come(0, 0);
        due("waits", x.told(0, 0), 0);
        for (int step = 0; step < 5; step++) {
            x.run(1);
            due("on the road in step " + step, x.told(0, 0), 1);
        }
        x.run(1);
        due("gone", x.told(0, 0), 2);
        x.run(1_000);
        due("gone for good", x.told(0, 0), 2);
    }

    /** "x is the lowest 31 bits of seed + 7919 times its number" */
    private static void drawsTakeTheLowest31Bits() {
        long half = 1L << 31;
        // seed, number, length, wish, delay
        long[][] draws = {{0, 0, 400, 188, 8}, {0, 1, 518, 162, 8}, {0, 59, 492, 105, 8},
            {-1, 0, 478, 169, 8}, {-1, 1, 475, 151, 8}, {-1, 59, 450, 86, 9},
            {half - 1, 0, 478, 169, 8}, {half - 1, 1, 475, 151, 8}, {half, 0, 400, 188, 8}, {half, 59, 492, 105, 8},
            {half - 7919, 1, 400, 188, 8}, {half - 7920, 1, 478, 169, 8},
            {-7919, 1, 400, 188, 8}, {-7920, 1, 478, 169, 8}, {-half, 0, 400, 188, 8}, {2 * half, 1, 518, 162, 8},
            {Long.MAX_VALUE, 0, 478, 169, 8}, {Long.MAX_VALUE, 1, 475, 151, 8}, {Long.MAX_VALUE, 59, 450, 86, 9},
            {Long.MIN_VALUE, 0, 400, 188, 8}, {Long.MIN_VALUE, 59, 492, 105, 8}};
        for (long[] draw : draws) {
            drawsAre(draw[0], (int) draw[1], new int[] {(int) draw[2], (int) draw[3], (int) draw[4]});
        }
    }

    private static void drawsAre(long seed, int number, int[] want) {
        Tried x = new Tried(seed, 1, 1_000);
        for (int car = 0; car <= number; car++) {
            x.come(0, 0);
        }
        for (int what = 0; what < 3; what++) {
            due("seed " + seed + ", drawn(" + number + ", " + what + ")", x.drawn(number, what), want[what]);
        }
    }

    /** "400 + y modulo 121", "80 + y modulo 120", "1 + y modulo 9" */
    private static void drawsReachTheirEnds() {
        drawsAre(0, 0, new int[] {400, 188, 8});
        drawsAre(646, 0, new int[] {520, 157, 2});
        drawsAre(51, 0, new int[] {409, 80, 3});
        drawsAre(26, 0, new int[] {475, 199, 1});
        drawsAre(28, 0, new int[] {415, 108, 9});
        drawsAre(10_905, 0, new int[] {520, 199, 9});
    }

    /** "a bus: 1200, but drawn all the same", "A bus wishes 40 less." */
    private static void busesAre1200LongAndWish40Less() {
        long[] seeds = {0, 51, 26, 28, 646, -1, Long.MIN_VALUE};
        for (long seed : seeds) {
            Tried car = new Tried(seed, 1, 1_000);
            Tried bus = new Tried(seed, 1, 1_000);
            car.come(0, 0);
            bus.come(0, 1);
            due("bus of seed " + seed + ", length", bus.drawn(0, 0), 1_200);
            due("bus of seed " + seed + ", wish", bus.drawn(0, 1), car.drawn(0, 1) - 40);
            due("bus of seed " + seed + ", delay", bus.drawn(0, 2), car.drawn(0, 2));
        }
        Tried slowest = new Tried(51L, 1, 1_000);
        slowest.come(0, 1);
        due("the slowest bus", slowest.drawn(0, 1), 40);
    }

    /** In step 140 car 0 rests at 2,791, with a gap of 209 for ever. */
    private static Tried resting() {
        Tried x = road(1);
        x.close(0, 3_000, 0, EVER);
        x.come(0, 0);
        x.run(140);
        return x;
    }

    private static void runTo(Tried x, int step) {
        int left = step - x.count(3);
        for (int i = 0; i < 100 && left > 1_000; i++) {
            x.run(1_000);
            left -= 1_000;
        }
        x.run(left);
    }

    /** "in the steps that are RED, the first ones of each cycle" */
    private static void lightsAreRedInTheFirstStepsOfACycle() {
        Tried x = resting();
        x.light(2_900, 3, 10);
        runTo(x, 199);
        for (int step = 199; step <= 231; step++) {
            boolean red = step % 10 < 3;
            due("light of 3 in 10, step " + step, x.gap(0), red ? 109 : REST);
            x.run(1);
        }
    }

    /** "counted from step 0 on" */
    private static void lightsAreRedInStep0() {
        for (int red = 0; red <= 1; red++) {
            Tried x = road(1);
            x.light(400 + 257, red, 2);
            x.come(0, 0);
            x.run(1);
            due("a light of " + red + " in 2, coming in step 0", x.told(0, 3), red == 1 ? 5 : 188);
            Tried y = road(1);
            y.light(400 + 257, red, 2);
            y.run(1);
            y.come(0, 0);
            y.run(1);
            due("a light of " + red + " in 2, coming in step 1", y.told(0, 3), 188);
        }
    }

    /** "cycle 1 .. 2,000" */
    private static void lightsWithTheLongestCycle() {
        int[] reds = {1, 1_999};
        for (int red : reds) {
            int[] steps = {red - 1 + 2_000, red + 2_000, 3_999, 4_000, 4_000 + red - 1, 4_000 + red, 6_000};
            Tried x = resting();
            x.light(2_900, red, 2_000);
            for (int step : steps) {
                if (step > x.count(3)) {
                    runTo(x, step);
                }
                int now = x.count(3);
                due("light of " + red + " in 2,000, step " + now, x.gap(0), now % 2_000 < red ? 109 : REST);
            }
        }
    }

    /** "red 0 .. cycle" */
    private static void lightsRedInNoStepOrInAll() {
        int[] cycles = {1, 2, 2_000};
        for (int cycle : cycles) {
            Tried never = road(1);
            never.light(5_000, 0, cycle);
            never.come(0, 0);
            never.run(30);
            due("never red in " + cycle, never.told(0, 2), 400 + 30 * 188);
            Tried ever = road(1);
            ever.light(5_000, cycle, cycle);
            ever.come(0, 0);
            for (int i = 0; i < 5; i++) {
                ever.run(1_000);
                due("ever red in " + cycle, ever.told(0, 2), 5_000 - REST);
                due("ever red in " + cycle + ", gap", ever.gap(0), REST);
            }
        }
    }

    /** "a light (at a place, for all lanes)" */
    private static void lightsStandForAllLanes() {
        Tried x = road(3);
        x.light(5_000, 1, 1);
        for (int lane = 0; lane < 3; lane++) {
            x.come(lane, 0);
        }
        x.run(1);
        for (int car = 0; car < 3; car++) {
            due("a light in lane " + car, x.gap(car), 5_000 - x.told(car, 2));
        }
    }

    /** "a closed place of a lane in the steps from its first up to before its last" */
    private static void closedPlacesStandFromTheFirstUpToBeforeTheLast() {
        int[][] closings = {{150, 152}, {150, 151}, {150, 150}, {0, 150}, {150, EVER}, {EVER, EVER}};
        for (int[] closing : closings) {
            Tried x = resting();
            x.close(0, 2_900, closing[0], closing[1]);
            runTo(x, 148);
            for (int step = 148; step <= 154; step++) {
                boolean closed = closing[0] <= step && step < closing[1];
                due("closed " + closing[0] + " to " + closing[1] + ", step " + step, x.gap(0), closed ? 109 : REST);
                x.run(1);
            }
        }
    }

    /** "steps 0 <= from" */
    private static void closedPlacesStandInStep0() {
        int[][] speeds = {{0, 0, 188}, {0, 1, 5}, {1, 2, 188}};
        for (int[] closing : speeds) {
            Tried x = road(1);
            x.close(0, 400 + 257, closing[0], closing[1]);
            x.come(0, 0);
            x.run(1);
            due("closed " + closing[0] + " to " + closing[1] + ", coming", x.told(0, 3), closing[2]);
        }
    }

    private static void closedPlacesStandInOneLane() {
        for (int closed = 0; closed < 3; closed++) {
            Tried x = road(3);
            x.close(closed, 50_000, 0, EVER);
            for (int lane = 0; lane < 3; lane++) {
                x.come(lane, 0);
            }
            x.run(1);
            for (int car = 0; car < 3; car++) {
                int want = car == closed ? 50_000 - x.told(car, 2) : FREE;
                due("lane " + closed + " closed, gap in " + car, x.gap(car), want);
            }
        }
    }

    /** "a bus stop, for a bus that has not been SERVED there" */
    private static void stopsStandForBusesAlone() {
        Tried x = road(3);
        x.stop(5_000, 30);
        x.come(0, 0);
        x.come(1, 1);
        x.come(2, 1);
        x.run(20);
        due("a car and a stop", x.gap(0), FREE);
        due("a bus and a stop", x.gap(1), 5_000 - x.told(1, 2));
        due("a bus and a stop in another lane", x.gap(2), 5_000 - x.told(2, 2));
        x.run(20);
        due("a car drives past", x.told(0, 2), 400 + 40 * 188);
    }

    /** "They stand for those whose front is not beyond the place." */
    private static void thingsStandForFrontsNotBeyond() {
        for (int far = -1; far <= 1; far++) {
            int want = far < 0 ? FREE : far;
            Tried light = road(1);
            light.come(0, 0);
            light.run(1);
            light.light(588 + far, 1, 1);
            due("a light " + far + " before a front", light.gap(0), want);
            light.run(1);
            due("a light " + far + " before a front, speed", light.told(0, 3), far < 0 ? 188 : 0);
            Tried closed = road(1);
            closed.come(0, 0);
            closed.run(1);
            closed.close(0, 588 + far, 0, EVER);
            due("a closed place " + far + " before a front", closed.gap(0), want);
            closed.run(1);
            due("a closed place " + far + " before a front, speed", closed.told(0, 3), far < 0 ? 188 : 0);
            Tried stop = road(1);
            stop.come(0, 1);
            stop.run(1);
            stop.stop(1_348 + far, 500);
            due("a stop " + far + " before a front", stop.gap(0), want);
            stop.run(1);
            due("a stop " + far + " before a front, speed", stop.told(0, 3), far < 0 ? 148 : 0);
        }
    }

    /** "1,000,000 without any" */
    private static void gapsAreFreeWithoutAny() {
        Tried x = new Tried(0L, 2, 100_000);
        x.come(0, 0);
        x.run(1);
        due("alone", x.gap(0), FREE);
        x.come(1, 1);
        x.run(1);
        due("another one in another lane", x.gap(0), FREE);
        due("and that one's", x.gap(1), FREE);
        x.come(0, 0);
        due("one that waits", x.gap(0), FREE);
        x.run(3);
        due("it came", x.told(2, 0), 1);
        due("one behind", x.gap(0), FREE);
        Tried far = new Tried(0L, 1, 100_000);
        far.light(100_000, 1, 1);
        far.come(0, 0);
        far.run(1);
        due("a light at the farthest place", far.gap(0), 100_000 - 588);
    }

    /** "the nearest rear of a car on the road in that lane whose front is beyond its own" */
    private static void gapsAreToTheNearestRearBeyond() {
        Tried x = road(1);
        x.close(0, 5_000, 0, EVER);
        x.come(0, 0);
        x.come(0, 0);
        x.come(0, 0);
        x.run(400);
        due("a row of cars, first front", x.told(0, 2), 4_791);
        due("a row of cars, second front", x.told(1, 2), 4_791 - 400 - REST);
        due("a row of cars, third front", x.told(2, 2), 4_791 - 400 - REST - 518 - REST);
        for (int car = 0; car < 3; car++) {
            due("a row of cars, gap of " + car, x.gap(car), REST);
        }
    }

    /** A car is on the road, and before others, until its rear is beyond the end. */
    private static void gapsAreToARearStillOnTheRoad() {
        Tried x = new Tried(0L, 1, 1_880);
        x.come(0, 0);
        x.come(0, 0);
        x.run(10);
        due("a rear at the end", x.told(0, 2) - 400, 1_880);
        due("gap to it", x.gap(1), 1_880 - x.told(1, 2));
        x.run(1);
        due("it is gone", x.told(0, 0), 2);
        due("no gap to it", x.gap(1), FREE);
    }

    /** "or to the nearest thing that stands there for it, if that is nearer" */
    private static void gapsAreToTheNearestThingIfNearer() {
        int[] places = {4_392, 4_391, 4_390, 4_389};
        int[] gaps = {REST, REST, REST - 1, REST - 2};
        for (int kind = 0; kind < 3; kind++) {
            Tried x = road(1);
            x.close(0, 5_000, 0, EVER);
            x.come(0, 0);
            x.come(0, 1);
            x.run(300);
            due("behind a rear at 4,391", x.told(1, 2), 4_391 - REST);
            for (int i = 0; i < places.length; i++) {
                if (kind == 0) {
                    x.light(places[i], 1, 1);
                } else if (kind == 1) {
                    x.close(0, places[i], 0, EVER);
                } else {
                    x.stop(places[i], 500);
                }
                due("thing of kind " + kind + " at " + places[i], x.gap(1), gaps[i]);
            }
        }
        // A farther thing told later is not the nearest one.
        Tried y = road(1);
        y.come(0, 1);
        y.run(1);
        y.stop(3_000, 5);
        y.stop(4_000, 5);
        due("the nearer stop", y.gap(0), 3_000 - 1_348);
        y.light(2_900, 1, 1);
        y.light(2_950, 1, 1);
        due("the nearer light", y.gap(0), 2_900 - 1_348);
        y.close(0, 2_800, 0, EVER);
        y.close(0, 2_850, 0, EVER);
        due("the nearer closed place", y.gap(0), 2_800 - 1_348);
    }

    /** "A gap g ALLOWS a speed of (g - 200) / 10, cut off, 0 at least." */
    private static void gapsAllowTenthsCutOff() {
        int[][] allowed = {{0, 0}, {1, 0}, {100, 0}, {189, 0}, {190, 0}, {191, 0}, {199, 0}, {200, 0}, {201, 0},
            {209, 0}, {210, 1}, {219, 1}, {220, 2}, {229, 2}, {1_199, 99}, {1_200, 100}, {2_079, 187},
            {2_080, 188}, {2_089, 188}, {2_090, 188}, {9_999, 188}};
        for (int[] pair : allowed) {
            Tried x = road(1);
            x.close(0, 400 + pair[0], 0, EVER);
            x.come(0, 0);
            x.run(1);
            due("a gap of " + pair[0] + " allows", x.told(0, 3), pair[1]);
        }
    }
}
