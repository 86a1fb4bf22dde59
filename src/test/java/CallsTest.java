/**
 * For each promise its ordinary inputs, and on either side of each bound the last input that is
 * taken and the first that is refused. That a refused call leaves everything as it was is looked
 * at in RefusedTest.
 */
public final class CallsTest {
    private static final int MAX = Integer.MAX_VALUE;
    private static final int MIN = Integer.MIN_VALUE;
    private static final int BAD = CarSeeds.BAD;
    private static final int FREE = 1_000_000;
    private static final int REST = 209;
    private static final Checks CHECKS = new Checks();

    public static void main(String[] args) {
        promise1NewObject();
        promise2Come();
        promise2ThereAre60();
        promise3Light();
        promise3ThereAre4();
        promise4Close();
        promise4ThereAre6();
        promise5Stop();
        promise5ThereAre4();
        promise6Line();
        promise6ThereAre4();
        promise7Run();
        promise7RunOnNothing();
        promise8Told();
        promise8NoSuchCar();
        promise9Drawn();
        promise10Gap();
        promise11Counted();
        promise12Times();
        promise13Many();
        promise14Waiting();
        promise15Ordered();
        promise16SaveAnd17Back();
        promise16SaveOnNothing();
        promise16SavesAgain();
        promise17BackBringsAllBack();
        promise17BackBringsTheBusBack();
        promise17BackForgetsWhatCameSince();
        promise17BackSetsNewLinesTo0();
        promise17BackKeepsThings();
        promise17BackMakesRoomForCars();
        promise18Count();
        CHECKS.end();
    }

    private static void due(String call, long got, long want) {
        CHECKS.due(call, got, want);
    }

    private static void due(String call, boolean got, boolean want) {
        CHECKS.due(call, got, want);
    }

    /** "A road without cars, at step 0." */
    private static void promise1NewObject() {
        for (int lanes = 1; lanes <= 3; lanes++) {
            Tried x = new Tried(5L, lanes, 4_321);
            int[] counts = {0, 0, 0, 0, 0, 0, 0, 0, lanes, 4_321};
            for (int what = 0; what < counts.length; what++) {
                due("1: count(" + what + ")", x.count(what), counts[what]);
            }
            for (int what = 0; what < 6; what++) {
                due("1: told(0, " + what + ")", x.told(0, what), BAD);
            }
            due("1: drawn(0, 0)", x.drawn(0, 0), BAD);
            due("1: gap(0)", x.gap(0), BAD);
            due("1: counted(0, 0)", x.counted(0, 0), BAD);
            due("1: times()", x.times(), 0);
            for (int what = 0; what < 3; what++) {
                due("1: many(" + what + ")", x.many(what), 0);
                due("1: waiting(" + what + ")", x.waiting(what), what < lanes ? 0 : BAD);
            }
            due("1: ordered()", x.ordered(), true);
            due("1: back(0)", x.back(0), BAD);
            due("1: back(1)", x.back(1), BAD);
        }
    }

    /** "One more car (kind 0) or bus (1) waits for a lane: which one. BAD: none such" */
    private static void promise2Come() {
        int[] numbers = {MIN, -2, -1, 0, 1, 2, 3, 4, MAX};
        for (int lanes = 1; lanes <= 3; lanes++) {
            Tried x = new Tried(0L, lanes, 10_000);
            int cars = 0;
            for (int lane : numbers) {
                for (int kind : numbers) {
                    boolean good = lane >= 0 && lane < lanes && (kind == 0 || kind == 1);
                    due("2: come(" + lane + ", " + kind + ") with " + lanes, x.come(lane, kind), good ? cars : BAD);
                    cars += good ? 1 : 0;
                    due("2: how many", x.count(0), cars);
                }
            }
            due("2: cars and buses for all lanes", cars, 2 * lanes);
            due("2: a car waits", x.told(0, 0), 0);
            due("2: for its lane", x.told(cars - 1, 1), lanes - 1);
            due("2: kind 0 is a car", x.drawn(0, 0), 400);
            due("2: kind 1 is a bus", x.drawn(1, 0), 1_200);
        }
    }

    /** "there are 60": the 60th comes, the next one not, not even when all are gone. */
    private static void promise2ThereAre60() {
        Tried x = new Tried(0L, 2, 1_000);
        for (int car = 0; car < 59; car++) {
            x.come(car % 2, car % 3 == 0 ? 1 : 0);
        }
        due("2: the 60th", x.come(0, 0), 59);
        due("2: one too many", x.come(0, 0), BAD);
        due("2: half of them wait in lane 0", x.waiting(0), 31);
        x.run(1_000);
        due("2: still one too many", x.come(1, 1), BAD);
        x.run(1_000);
        x.run(1_000);
        due("2: all are gone", x.count(2), 60);
        due("2: and still one too many", x.come(1, 1), BAD);
        due("2: they are 60", x.count(0), 60);
    }

    /** "red 0 .. cycle, cycle 1 .. 2,000. False: no such place (0 .. the length), or numbers" */
    private static void promise3Light() {
        int[][] good = {{0, 1, 2}, {5_000, 1, 2}, {10, 0, 2}, {10, 2, 2}, {10, 0, 1}, {10, 1, 1}, {10, 0, 2_000},
            {10, 1_999, 2_000}, {10, 2_000, 2_000}};
        int[][] bad = {{-1, 1, 2}, {5_001, 1, 2}, {10, -1, 2}, {10, 3, 2}, {10, 0, 0}, {10, 1, 0}, {10, 2, 1},
            {10, -1, 1}, {10, 0, -1}, {10, -1, -1}, {10, 0, 2_001}, {10, 2_001, 2_000}, {10, 2_001, 2_001},
            {MAX, 1, 2}, {MIN, 1, 2}, {10, MAX, MAX}, {10, MIN, 5}, {10, MIN, MIN}, {10, MAX, 5}, {10, 0, MIN}};
        for (int[] call : good) {
            lightIs(call, true);
        }
        for (int[] call : bad) {
            lightIs(call, false);
        }
    }

    private static void lightIs(int[] call, boolean want) {
        Tried x = new Tried(0L, 1, 5_000);
        String name = "3: light(" + call[0] + ", " + call[1] + ", " + call[2] + ")";
        due(name, x.light(call[0], call[1], call[2]), want);
        due(name + ", lights", x.count(4), want ? 1 : 0);
    }

    private static void promise3ThereAre4() {
        Tried x = new Tried(0L, 1, 5_000);
        for (int light = 1; light <= 4; light++) {
            due("3: light " + light, x.light(1_000 * light, 2_000, 2_000), true);
            due("3: lights", x.count(4), light);
        }
        due("3: a fifth one", x.light(900, 1, 1), false);
        due("3: a fifth one at the same place", x.light(4_000, 2_000, 2_000), false);
        due("3: there are 4", x.count(4), 4);
        x.come(0, 0);
        x.run(100);
        due("3: the first stands, and no fifth", x.told(0, 2), 1_000 - REST);
    }

    /** "steps 0 <= from <= to. False: none such" */
    private static void promise4Close() {
        int[][] good = {{0, 10, 0, 5}, {1, 10, 0, 5}, {0, 0, 0, 5}, {0, 5_000, 0, 5}, {0, 10, 0, 0}, {0, 10, 5, 5},
            {0, 10, 4, 5}, {0, 10, MAX, MAX}, {0, 10, 0, MAX}, {0, 10, MAX - 1, MAX}};
        int[][] bad = {{-1, 10, 0, 5}, {2, 10, 0, 5}, {0, -1, 0, 5}, {0, 5_001, 0, 5}, {0, 10, -1, 5}, {0, 10, -1, -1},
            {0, 10, 6, 5}, {0, 10, 1, 0}, {0, 10, 0, -1}, {0, 10, MAX, MAX - 1}, {0, 10, MAX, 0}, {0, 10, MIN, MAX},
            {0, 10, 0, MIN}, {MAX, MAX, MAX, MAX}, {MIN, MIN, MIN, MIN}, {MAX, 10, 0, 5}, {MIN, 10, 0, 5},
            {0, MAX, 0, 5}, {0, MIN, 0, 5}};
        for (int[] call : good) {
            closeIs(call, true);
        }
        for (int[] call : bad) {
            closeIs(call, false);
        }
    }

    private static void closeIs(int[] call, boolean want) {
        Tried x = new Tried(0L, 2, 5_000);
        String name = "4: close(" + call[0] + ", " + call[1] + ", " + call[2] + ", " + call[3] + ")";
        due(name, x.close(call[0], call[1], call[2], call[3]), want);
        due(name + ", closed places", x.count(5), want ? 1 : 0);
    }

    private static void promise4ThereAre6() {
        Tried x = new Tried(0L, 2, 7_000);
        for (int closed = 1; closed <= 6; closed++) {
            due("4: closed place " + closed, x.close(0, 1_000 * closed, 0, MAX), true);
            due("4: closed places", x.count(5), closed);
        }
        due("4: a seventh one", x.close(0, 900, 0, MAX), false);
        due("4: a seventh one in another lane", x.close(1, 900, 0, MAX), false);
        due("4: there are 6", x.count(5), 6);
        x.come(0, 0);
        x.run(31);
        due("4: the first stands, and no seventh", x.gap(0), 1_000 - x.told(0, 2));
    }

    /** "for all lanes, with a dwell of 1 .. 500 steps. False: none such" */
    private static void promise5Stop() {
        int[][] good = {{0, 5}, {5_000, 5}, {10, 1}, {10, 2}, {10, 499}, {10, 500}};
        int[][] bad = {{-1, 5}, {5_001, 5}, {10, 0}, {10, 501}, {10, -1}, {MAX, 5}, {MIN, 5}, {10, MAX}, {10, MIN}};
        for (int[] call : good) {
            stopIs(call, true);
        }
        for (int[] call : bad) {
            stopIs(call, false);
        }
    }

    private static void stopIs(int[] call, boolean want) {
        Tried x = new Tried(0L, 2, 5_000);
        String name = "5: stop(" + call[0] + ", " + call[1] + ")";
        due(name, x.stop(call[0], call[1]), want);
        due(name + ", stops", x.count(6), want ? 1 : 0);
    }

    private static void promise5ThereAre4() {
        Tried x = new Tried(0L, 1, 9_000);
        for (int stop = 1; stop <= 4; stop++) {
            due("5: stop " + stop, x.stop(2_000 * stop, 5), true);
            due("5: stops", x.count(6), stop);
        }
        due("5: a fifth one", x.stop(1_900, 5), false);
        due("5: there are 4", x.count(6), 4);
        x.come(0, 1);
        x.run(1);
        due("5: the first stands, and no fifth", x.gap(0), 2_000 - x.told(0, 2));
    }

    /** "One more line: which one. BAD: no such place" */
    private static void promise6Line() {
        int[] good = {0, 1, 4_999, 5_000};
        int[] bad = {-1, 5_001, MAX, MIN};
        for (int place : good) {
            Tried x = new Tried(0L, 2, 5_000);
            due("6: line(" + place + ")", x.line(place), 0);
            due("6: line(" + place + "), lines", x.count(7), 1);
        }
        for (int place : bad) {
            Tried x = new Tried(0L, 2, 5_000);
            due("6: line(" + place + ")", x.line(place), BAD);
            due("6: line(" + place + "), lines", x.count(7), 0);
        }
    }

    private static void promise6ThereAre4() {
        Tried x = new Tried(0L, 1, 5_000);
        for (int line = 0; line < 4; line++) {
            due("6: which one", x.line(1_000), line);
            due("6: lines", x.count(7), line + 1);
            due("6: it is there", x.counted(line, 0), 0);
        }
        due("6: a fifth one", x.line(1_000), BAD);
        due("6: there are 4", x.count(7), 4);
        due("6: there is no fifth", x.counted(4, 0), BAD);
        x.come(0, 0);
        x.run(100);
        for (int line = 0; line < 4; line++) {
            due("6: all count", x.counted(line, 0), 1);
        }
    }

    /** "Steps are done, 1 .. 1,000: how many there were in all. BAD: none such." */
    private static void promise7Run() {
        int[] good = {1, 2, 999, 1_000};
        int[] bad = {0, -1, 1_001, MAX, MIN};
        for (int steps : good) {
            Tried x = new Tried(0L, 1, 100_000);
            x.come(0, 0);
            x.run(3);
            due("7: run(" + steps + ")", x.run(steps), 3 + steps);
            due("7: run(" + steps + "), the step", x.count(3), 3 + steps);
            int front = 400 + 188 * Math.min(3 + steps, 532);
            due("7: run(" + steps + "), the front", x.told(0, 2), front);
        }
        for (int steps : bad) {
            Tried x = new Tried(0L, 1, 100_000);
            x.come(0, 0);
            x.run(3);
            due("7: run(" + steps + ")", x.run(steps), BAD);
            due("7: run(" + steps + "), the step", x.count(3), 3);
            due("7: run(" + steps + "), the front", x.told(0, 2), 400 + 188 * 3);
        }
    }

    private static void promise7RunOnNothing() {
        Tried x = new Tried(0L, 1, 1_000);
        due("7: run(1)", x.run(1), 1);
        due("7: run(1000)", x.run(1_000), 1_001);
        x.come(0, 0);
        due("7: run(2)", x.run(2), 1_003);
        due("7: run(1000) while the car goes", x.run(1_000), 2_003);
        due("7: it came in the step behind the empty ones", x.told(0, 4), 1_001);
        due("7: it was gone six steps on", x.told(0, 5), 1_006);
        due("7: the step", x.count(3), 2_003);
    }

    /** "(2, 3: 0 while it waits; as they were last, when it is gone)", "(BAD: not yet)" */
    private static void promise8Told() {
        Tried x = new Tried(0L, 2, 1_880);
        x.run(7);
        x.come(1, 0);
        int[] waits = {0, 1, 0, 0, BAD, BAD};
        int[] drives = {1, 1, 588, 188, 7, BAD};
        int[] isGone = {2, 1, 400 + 11 * 188, 188, 7, 17};
        told("8: waits", x, waits);
        x.run(1);
        told("8: drives", x, drives);
        x.run(9);
        // The rear is at the road's end now, not beyond it.
        due("8: still there", x.told(0, 0), 1);
        due("8: not yet gone", x.told(0, 5), BAD);
        x.run(1);
        told("8: gone", x, isGone);
        x.run(50);
        told("8: gone for long", x, isGone);
        Tried y = new Tried(0L, 1, 5_000);
        y.come(0, 0);
        y.come(0, 0);
        y.run(4);
        int[] stillWaits = {0, 0, 0, 0, BAD, BAD};
        for (int what = 0; what < 6; what++) {
            due("8: waits behind another, told(1, " + what + ")", y.told(1, what), stillWaits[what]);
        }
        Tried change = new Tried(0L, 2, 60_000);
        change.close(0, 3_000, 0, MAX);
        change.come(0, 0);
        change.run(32);
        due("8: its lane is the one that it is in", change.told(0, 1), 1);
    }

    private static void told(String when, Tried x, int[] want) {
        for (int what = 0; what < want.length; what++) {
            due(when + ", told(0, " + what + ")", x.told(0, what), want[what]);
        }
        for (int what : new int[] {-1, 6, MIN, MAX}) {
            due(when + ", told(0, " + what + ")", x.told(0, what), BAD);
        }
    }

    private static void promise8NoSuchCar() {
        Tried x = new Tried(0L, 2, 1_880);
        for (int cars = 0; cars <= 2; cars++) {
            for (int what = 0; what < 6; what++) {
                due("8: told(-1, " + what + ")", x.told(-1, what), BAD);
                due("8: told(" + cars + ", " + what + ")", x.told(cars, what), BAD);
                due("8: told(60, " + what + ")", x.told(60, what), BAD);
                due("8: told(MIN, " + what + ")", x.told(MIN, what), BAD);
                due("8: told(MAX, " + what + ")", x.told(MAX, what), BAD);
            }
            due("8: the last one is there", x.told(cars - 1, 0), cars == 0 ? BAD : 0);
            x.come(1, 0);
        }
    }

    /** "0 its length, 1 its wish, 2 its delay. BAD: none such." */
    private static void promise9Drawn() {
        // seed, number, kind, length, wish, delay
        long[][] draws = {{0, 0, 0, 400, 188, 8}, {0, 1, 0, 518, 162, 8}, {0, 2, 1, 1200, 105, 9},
            {0, 3, 0, 512, 119, 1}, {0, 59, 1, 1200, 65, 8}, {42, 0, 1, 1200, 153, 6}, {42, 3, 0, 498, 124, 8}};
        for (long[] draw : draws) {
            Tried x = new Tried(draw[0], 1, 1_000);
            int car = (int) draw[1];
            for (int other = 0; other < car; other++) {
                x.come(0, other % 2);
            }
            due("9: not yet come", x.drawn(car, 0), BAD);
            x.come(0, (int) draw[2]);
            for (int what = 0; what < 3; what++) {
                String call = "9: seed " + draw[0] + ", drawn(" + car + ", " + what + ")";
                due(call, x.drawn(car, what), draw[3 + what]);
                due("9: the next one", x.drawn(car + 1, what), BAD);
                due("9: drawn(-1, " + what + ")", x.drawn(-1, what), BAD);
            }
            for (int what : new int[] {-1, 3, MIN, MAX}) {
                due("9: drawn(" + car + ", " + what + ")", x.drawn(car, what), BAD);
            }
            due("9: drawn(MAX, 0)", x.drawn(MAX, 0), BAD);
            due("9: drawn(MIN, 0)", x.drawn(MIN, 0), BAD);
            x.run(1_000);
            due("9: a car keeps its draws", x.drawn(car, 1), draw[4]);
        }
    }

    /** "The gap of a car on the road. BAD: none such." */
    private static void promise10Gap() {
        Tried x = new Tried(0L, 2, 30_000);
        due("10: no car", x.gap(0), BAD);
        x.come(0, 0);
        x.come(0, 0);
        due("10: it waits", x.gap(0), BAD);
        x.run(1);
        due("10: free", x.gap(0), FREE);
        due("10: the second one waits", x.gap(1), BAD);
        x.run(4);
        // The first rear is at 5 * 188, the second front at 518 + 3.
        due("10: to the rear before", x.gap(1), 940 - 521);
        x.light(900, 2_000, 2_000);
        due("10: to a light before that", x.gap(1), 900 - 521);
        x.close(0, 700, 0, 2_000);
        due("10: to a closed place before that", x.gap(1), 700 - 521);
        due("10: the first is beyond both", x.gap(0), FREE);
        for (int car : new int[] {-1, 2, 60, MAX, MIN}) {
            due("10: gap(" + car + ")", x.gap(car), BAD);
        }
        Tried y = new Tried(0L, 1, 1_880);
        y.come(0, 0);
        y.run(10);
        due("10: the last step on the road", y.gap(0), FREE);
        y.run(1);
        due("10: gone", y.gap(0), BAD);
    }

    /** "How many cars a line has counted in a lane. BAD: none such." */
    private static void promise11Counted() {
        Tried x = new Tried(0L, 2, 5_000);
        due("11: no line", x.counted(0, 0), BAD);
        x.line(2_000);
        due("11: no second line", x.counted(1, 0), BAD);
        x.line(1_000);
        due("11: none yet", x.counted(1, 1), 0);
        x.come(1, 0);
        x.run(3);
        due("11: at 964, counted(0, 1)", x.counted(0, 1), 0);
        due("11: at 964, counted(1, 1)", x.counted(1, 1), 0);
        x.run(1);
        due("11: at 1,152, counted(0, 1)", x.counted(0, 1), 0);
        due("11: at 1,152, counted(1, 1)", x.counted(1, 1), 1);
        x.run(100);
        x.come(0, 0);
        x.come(1, 1);
        x.run(100);
        due("11: counted(0, 0)", x.counted(0, 0), 1);
        due("11: counted(0, 1)", x.counted(0, 1), 2);
        due("11: counted(1, 0)", x.counted(1, 0), 1);
        due("11: a bus comes beyond 1,000, counted(1, 1)", x.counted(1, 1), 1);
        for (int number : new int[] {-1, 2, 3, 4, MIN, MAX}) {
            due("11: counted(" + number + ", 0)", x.counted(number, 0), BAD);
            due("11: counted(0, " + number + ")", x.counted(0, number), BAD);
            due("11: counted(" + number + ", " + number + ")", x.counted(number, number), BAD);
        }
        for (int lanes = 1; lanes <= 3; lanes++) {
            Tried y = new Tried(0L, lanes, 5_000);
            for (int line = 0; line < 4; line++) {
                y.line(2_000);
            }
            due("11: the last line and lane", y.counted(3, lanes - 1), 0);
            due("11: no such line", y.counted(4, 0), BAD);
            due("11: no such lane", y.counted(3, lanes), BAD);
        }
    }

    /** "The sum of all steps from coming to going, of those gone." */
    private static void promise12Times() {
        Tried x = new Tried(0L, 2, 1_880);
        due("12: no car", x.times(), 0);
        x.come(0, 0);
        due("12: it waits", x.times(), 0);
        x.run(10);
        due("12: none gone", x.times(), 0);
        x.run(1);
        due("12: one gone", x.times(), 10);
        x.come(1, 0);
        x.run(11);
        due("12: another on the road", x.times(), 10);
        x.run(1);
        // 162 a step, so its rear is beyond 1,880 behind 12 steps.
        due("12: two gone", x.times(), 10 + 11);
        x.run(500);
        due("12: two gone for long", x.times(), 10 + 11);
        due("12: from its coming", x.told(1, 4), 11);
        due("12: to its going", x.told(1, 5), 22);
    }

    /** "0 near misses, 1 hard brakings, 2 changes of lanes. BAD: another number." */
    private static void promise13Many() {
        Tried x = new Tried(0L, 2, 30_000);
        for (int what : new int[] {-1, 3, MAX, MIN}) {
            due("13: many(" + what + ")", x.many(what), BAD);
        }
        x.come(0, 0);
        x.run(1);
        due("13: no hard braking", x.many(1), 0);
        // The gap allows 168 now, 20 less than 188.
        x.close(0, 588 + 200 + 1_689, 1, 1_000);
        x.run(1);
        due("13: a hard braking", x.many(1), 1);
        x.run(28);
        due("13: braking further is none", x.many(1), 1);
        due("13: no change yet", x.many(2), 0);
        x.run(3);
        due("13: a change", x.many(2), 1);
        // A gap always allows the speed, so that near misses can't be met: see README.
        due("13: no near miss", x.many(0), 0);
    }

    /** "How many cars wait for a lane. BAD: none such." */
    private static void promise14Waiting() {
        Tried x = new Tried(0L, 2, 10_000);
        due("14: none", x.waiting(0), 0);
        due("14: none in the last lane", x.waiting(1), 0);
        x.come(0, 0);
        x.come(0, 0);
        x.come(1, 1);
        due("14: lane 0", x.waiting(0), 2);
        due("14: lane 1", x.waiting(1), 1);
        x.run(1);
        due("14: one of two came onto the road", x.waiting(0), 1);
        due("14: none is left", x.waiting(1), 0);
        x.run(500);
        due("14: all came", x.waiting(0), 0);
        for (int lane : new int[] {-1, 2, 3, MAX, MIN}) {
            due("14: waiting(" + lane + ")", x.waiting(lane), BAD);
        }
        Tried full = new Tried(0L, 3, 10_000);
        for (int car = 0; car < 60; car++) {
            full.come(2, 0);
        }
        full.come(2, 0);
        due("14: all 60 for a lane", full.waiting(2), 60);
    }

    /** "Whether no two cars on the road in a lane have a place in common" */
    private static void promise15Ordered() {
        Tried x = new Tried(77L, 3, 20_000);
        due("15: nothing is ordered", x.ordered(), true);
        x.close(1, 9_000, 0, 3_000);
        x.light(15_000, 100, 300);
        x.stop(5_000, 20);
        for (int car = 0; car < 60; car++) {
            x.come(car % 3, car % 7 == 0 ? 1 : 0);
        }
        // Those that wait have all their front at 0, but are not on the road.
        due("15: those that wait", x.ordered(), true);
        for (int i = 0; i < 200; i++) {
            x.run(11);
            due("15: ordered", x.ordered(), true);
        }
        CHECKS.atLeast("15: cars gone, which are not on the road either", x.count(2), 20);
        // Cars of two lanes may be at the same place.
        Tried beside = new Tried(0L, 2, 20_000);
        beside.come(0, 0);
        beside.come(1, 0);
        beside.run(1);
        due("15: beside one another", beside.ordered(), true);
    }

    /** "0 or 1", "the step", "BAD: none such", "BAD: none such, nothing was kept there." */
    private static void promise16SaveAnd17Back() {
        Tried x = Roads.busy().told();
        for (int slot : new int[] {-1, 2, MAX, MIN}) {
            due("16: save(" + slot + ")", x.save(slot), BAD);
            due("17: back(" + slot + ")", x.back(slot), BAD);
        }
        due("17: nothing kept in 0", x.back(0), BAD);
        due("17: nothing kept in 1", x.back(1), BAD);
        x.run(90);
        due("16: save(1)", x.save(1), 90);
        due("17: still nothing in 0", x.back(0), BAD);
        x.run(200);
        due("16: save(0)", x.save(0), 290);
        x.run(300);
        for (int i = 0; i < 3; i++) {
            due("17: back(1)", x.back(1), 90);
            due("17: the step", x.count(3), 90);
            due("17: back(0)", x.back(0), 290);
            due("17: the step", x.count(3), 290);
            due("17: run from there", x.run(5), 295);
        }
        Tried y = Roads.busy().told();
        y.save(0);
        due("17: kept in 0, nothing in 1", y.back(1), BAD);
        due("17: back(0) to step 0", y.back(0), 0);
    }

    private static void promise16SaveOnNothing() {
        Tried x = new Tried(0L, 2, 5_000);
        due("16: save of nothing", x.save(0), 0);
        x.come(0, 0);
        x.come(1, 1);
        x.run(10);
        due("17: back to nothing", x.back(0), 0);
        due("17: no car", x.count(0), 0);
        due("17: none on the road", x.count(1), 0);
        due("17: none waits", x.waiting(0), 0);
        due("17: no gap", x.gap(0), BAD);
        due("17: run on nothing", x.run(10), 10);
        due("17: the first number comes again", x.come(1, 0), 0);
        x.run(1);
        due("17: and comes onto the road", x.told(0, 4), 10);
    }

    /** What is kept in a slot is the last that was kept there, and the other slot's is its own. */
    private static void promise16SavesAgain() {
        Story story = Roads.busy();
        int[] at90 = story.and(x -> x.run(90)).everything();
        int[] at100 = story.and(x -> x.run(100)).everything();
        Story twice = story.and(x -> x.run(50), x -> x.save(0), x -> x.run(40), x -> x.save(1), x -> x.run(10),
                x -> x.save(0), x -> x.run(77));
        Story.same(CHECKS, "16: kept in 0 again", twice.and(x -> x.back(0)).everything(), at100);
        Story.same(CHECKS, "16: kept in 1 once", twice.and(x -> x.back(1)).everything(), at90);
        Story.same(CHECKS, "16: a kept state is not used up",
                twice.and(x -> x.back(0), x -> x.run(30), x -> x.back(1), x -> x.run(9), x -> x.back(0)).everything(), at100);
        Story.same(CHECKS, "16: a state that came back is kept again",
                twice.and(x -> x.back(1), x -> x.save(0), x -> x.run(9), x -> x.back(0)).everything(), at90);
        Story.same(CHECKS, "16: to keep changes nothing", story.and(x -> x.run(90), x -> x.save(0)).everything(), at90);
    }

    /** "All is as it was kept": all that can be asked, then and in the steps that follow. */
    private static void promise17BackBringsAllBack() {
        int[] when = {1, 90, 130, 270, 400, 600};
        for (int steps : when) {
            backBringsAllBack("busy", Roads.busy(), steps);
            backBringsAllBack("full", Roads.full(), steps);
        }
        Tried x = Roads.full().and(y -> y.run(600)).told();
        CHECKS.atLeast("17: changes in there", x.many(2), 1);
        CHECKS.atLeast("17: hard brakings in there", x.many(1), 1);
        CHECKS.atLeast("17: cars gone in there", x.count(2), 1);
        CHECKS.atLeast("17: counted by the last line in the last lane", x.counted(3, 2), 1);
    }

    private static void backBringsAllBack(String name, Story story, int steps) {
        Story plain = story.and(x -> x.run(steps));
        Story kept = plain.and(x -> x.save(0), x -> x.run(1_000), x -> x.come(0, 0), x -> x.run(1_000), x -> x.back(0));
        due("17: " + name + ", back to " + steps, kept.lastAnswer(), steps);
        Story.same(CHECKS, "17: " + name + ", back at " + steps, kept.everything(), plain.everything());
        for (int more : new int[] {1, 8, 31, 300}) {
            Story.same(CHECKS, "17: " + name + ", back at " + steps + ", then run(" + more + ")",
                    kept.and(x -> x.run(more)).everything(), plain.and(x -> x.run(more)).everything());
        }
    }

    /** A number that was a bus when it was kept, and came as a car since, is that bus again. */
    private static void promise17BackBringsTheBusBack() {
        Tried x = new Tried(0L, 2, 60_000);
        x.stop(30_000, 5);
        x.save(0);
        x.come(1, 1);
        x.run(1);
        x.save(1);
        x.back(0);
        x.come(0, 0);
        x.run(50);
        due("17: back to the bus", x.back(1), 1);
        due("17: its lane", x.told(0, 1), 1);
        due("17: its length", x.drawn(0, 0), 1_200);
        due("17: its wish", x.drawn(0, 1), 148);
        due("17: its delay", x.drawn(0, 2), 8);
        due("17: the stop stands for it", x.gap(0), 30_000 - 1_348);
        due("17: back to nothing", x.back(0), 0);
        due("17: no car", x.count(0), 0);
    }

    /** "cars that came since are not there any more" */
    private static void promise17BackForgetsWhatCameSince() {
        Tried x = new Tried(0L, 2, 5_000);
        x.come(0, 0);
        x.save(0);
        x.come(1, 1);
        x.run(60);
        due("17: back", x.back(0), 0);
        due("17: one car", x.count(0), 1);
        due("17: none on the road", x.count(1), 0);
        due("17: the other is not there", x.told(1, 0), BAD);
        due("17: nor its draws", x.drawn(1, 1), BAD);
        due("17: nor its gap", x.gap(1), BAD);
        due("17: nor does it wait", x.waiting(1), 0);
        due("17: the first waits", x.told(0, 0), 0);
        due("17: and is nowhere", x.told(0, 2), 0);
        due("17: the number comes again", x.come(0, 0), 1);
        due("17: as a car", x.drawn(1, 0), 518);
        due("17: with a car's wish", x.drawn(1, 1), 162);
        due("17: in its own lane", x.told(1, 1), 0);
        due("17: which waits", x.told(1, 0), 0);
        due("17: nowhere", x.told(1, 2), 0);
        due("17: standing", x.told(1, 3), 0);
        due("17: not yet come", x.told(1, 4), BAD);
        due("17: not yet gone", x.told(1, 5), BAD);
        // The number that was gone then is a new car now, which changes lanes 31 steps behind its coming.
        Tried y = new Tried(0L, 2, 60_000);
        y.close(0, 3_000, 0, MAX);
        y.save(1);
        y.come(0, 0);
        y.run(40);
        due("17: it changed", y.told(0, 1), 1);
        y.back(1);
        y.come(0, 0);
        y.run(31);
        due("17: the new one has not changed yet", y.told(0, 1), 0);
        y.run(1);
        due("17: now it has", y.told(0, 1), 1);
    }

    /** "what lines that were told since counted is 0" */
    private static void promise17BackSetsNewLinesTo0() {
        Tried x = new Tried(0L, 2, 5_000);
        x.line(600);
        x.come(0, 0);
        x.run(5);
        due("17: the old line counted", x.counted(0, 0), 1);
        x.save(0);
        x.line(2_000);
        x.come(0, 0);
        x.run(100);
        due("17: the old line counted two", x.counted(0, 0), 2);
        due("17: the new line counted two", x.counted(1, 0), 2);
        due("17: back", x.back(0), 5);
        due("17: the new line is there", x.count(7), 2);
        due("17: the old line has counted one", x.counted(0, 0), 1);
        due("17: the new line has counted none", x.counted(1, 0), 0);
        due("17: nor in the other lane", x.counted(1, 1), 0);
        x.run(100);
        due("17: the new line counts anew", x.counted(1, 0), 1);
        due("17: the old line is as it was", x.counted(0, 0), 1);
    }

    /** "(things that stand, and lines, are not)" kept: they stay, and stay full. */
    private static void promise17BackKeepsThings() {
        Tried x = new Tried(0L, 1, 20_000);
        x.come(0, 1);
        x.run(1);
        x.save(0);
        x.stop(5_000, 20);
        x.light(10_000, 5, 5);
        x.close(0, 15_000, 0, MAX);
        x.run(300);
        due("17: the bus was served, and stands before the light", x.told(0, 2), 10_000 - REST);
        x.back(0);
        due("17: the stop is there, and the bus is not served", x.gap(0), 5_000 - x.told(0, 2));
        due("17: lights", x.count(4), 1);
        due("17: closed places", x.count(5), 1);
        due("17: stops", x.count(6), 1);
        x.run(300);
        due("17: it is served again", x.told(0, 2), 10_000 - REST);
        // A bus of a number that stood at the stop before is another bus.
        Tried y = new Tried(0L, 1, 20_000);
        y.stop(5_000, 20);
        y.save(0);
        y.come(0, 1);
        y.run(300);
        y.back(0);
        y.come(0, 1);
        y.run(1);
        due("17: the new bus has not stood there", y.gap(0), 5_000 - y.told(0, 2));
        Tried full = new Tried(0L, 1, 20_000);
        full.save(0);
        for (int i = 0; i < 6; i++) {
            full.light(10, 1, 2);
            full.close(0, 10, 0, 1);
            full.stop(10, 5);
            full.line(10);
        }
        full.back(0);
        int[] counts = {4, 6, 4, 4};
        for (int what = 0; what < 4; what++) {
            due("17: still there, count(" + (4 + what) + ")", full.count(4 + what), counts[what]);
        }
        due("17: no more lights", full.light(10, 1, 2), false);
        due("17: no more closed places", full.close(0, 10, 0, 1), false);
        due("17: no more stops", full.stop(10, 5), false);
        due("17: no more lines", full.line(10), BAD);
    }

    private static void promise17BackMakesRoomForCars() {
        Tried x = new Tried(0L, 1, 20_000);
        for (int car = 0; car < 59; car++) {
            x.come(0, 0);
        }
        x.save(0);
        due("17: the 60th", x.come(0, 0), 59);
        x.save(1);
        due("17: one too many", x.come(0, 0), BAD);
        x.back(0);
        due("17: the 60th again", x.come(0, 1), 59);
        due("17: one too many again", x.come(0, 0), BAD);
        x.back(1);
        due("17: back to 60", x.come(0, 0), BAD);
        due("17: they are 60", x.count(0), 60);
        due("17: the 60th is the car that it was", x.drawn(59, 0), 492);
    }

    /** "0 cars, 1 those on the road, 2 those gone, 3 the step, .. BAD: another number." */
    private static void promise18Count() {
        Tried x = new Tried(0L, 3, 4_000);
        x.come(0, 0);
        x.come(0, 0);
        x.come(1, 1);
        x.light(4_000, 0, 10);
        x.close(2, 10, 0, 0);
        x.close(2, 10, 0, 0);
        x.stop(0, 1);
        x.stop(0, 1);
        x.stop(0, 1);
        x.line(0);
        x.line(0);
        x.line(0);
        x.line(0);
        x.run(1);
        int[] early = {3, 2, 0, 1, 1, 2, 3, 4, 3, 4_000};
        for (int what = 0; what < early.length; what++) {
            due("18: count(" + what + ")", x.count(what), early[what]);
        }
        x.run(400);
        int[] late = {3, 0, 3, 401, 1, 2, 3, 4, 3, 4_000};
        for (int what = 0; what < late.length; what++) {
            due("18: later, count(" + what + ")", x.count(what), late[what]);
        }
        for (int what : new int[] {-1, 10, MAX, MIN}) {
            due("18: count(" + what + ")", x.count(what), BAD);
        }
    }
}
