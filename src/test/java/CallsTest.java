/** For each promise its ordinary inputs, the edges that the document names, and wrong inputs. */
public final class CallsTest {
    private static final int MAX = Integer.MAX_VALUE;
    private static final int MIN = Integer.MIN_VALUE;
    private static final int BAD = CarSeeds.BAD;
    private static final int FREE = 1_000_000;
    private static final Checks CHECKS = new Checks();

    public static void main(String[] args) {
        promise1NewObject();
        promise2Come();
        promise3Light();
        promise4Close();
        promise5Stop();
        promise6Line();
        promise7Run();
        promise8Told();
        promise9Drawn();
        promise10Gap();
        promise11Counted();
        promise12Times();
        promise13Many();
        promise14Waiting();
        promise15Ordered();
        promise16SaveAnd17Back();
        promise17BackForgetsWhatCameSince();
        promise17BackKeepsThings();
        promise18Count();
        CHECKS.end();
    }

    private static void due(String call, long got, long want) {
        CHECKS.due(call, got, want);
    }

    private static void due(String call, boolean got, boolean want) {
        CHECKS.due(call, got, want);
    }

    private static void promise1NewObject() {
        int[][] roads = {{1, 1_000, 1, 1_000}, {3, 100_000, 3, 100_000}, {2, 5_000, 2, 5_000},
            {0, 999, 1, 1_000}, {4, 100_001, 3, 100_000}, {MIN, MIN, 1, 1_000}, {MAX, MAX, 3, 100_000}};
        for (int[] road : roads) {
            CarSeeds x = new CarSeeds(5L, road[0], road[1]);
            due("1: lanes of " + road[0], x.count(8), road[2]);
            due("1: length of " + road[1], x.count(9), road[3]);
            for (int what = 0; what <= 7; what++) {
                due("1: count(" + what + ")", x.count(what), 0);
            }
            due("1: times()", x.times(), 0);
            due("1: ordered()", x.ordered(), true);
        }
    }

    private static void promise2Come() {
        CarSeeds x = new CarSeeds(0L, 2, 10_000);
        int[][] wrong = {{-1, 0}, {2, 0}, {0, -1}, {0, 2}, {MAX, 0}, {MIN, 1}, {0, MAX}, {1, MIN}};
        for (int[] call : wrong) {
            due("2: come(" + call[0] + ", " + call[1] + ")", x.come(call[0], call[1]), BAD);
        }
        due("2: nobody came", x.count(0), 0);
        for (int car = 0; car < 60; car++) {
            due("2: come, car " + car, x.come(car % 2, car % 3 == 0 ? 1 : 0), car);
        }
        due("2: come, one too many", x.come(0, 0), BAD);
        due("2: they are 60", x.count(0), 60);
        due("2: half of them wait in lane 0", x.waiting(0), 30);
        x.run(1000);
        due("2: still one too many", x.come(1, 1), BAD);
    }

    private static void promise3Light() {
        CarSeeds x = new CarSeeds(0L, 1, 5_000);
        int[][] wrong = {{-1, 1, 2}, {5_001, 1, 2}, {10, -1, 2}, {10, 3, 2}, {10, 0, 0}, {10, 0, -1},
            {10, 1, 2_001}, {MAX, 1, 2}, {MIN, 1, 2}, {10, MAX, MAX}, {10, MIN, 5}};
        for (int[] call : wrong) {
            due("3: light(" + call[0] + ", " + call[1] + ", " + call[2] + ")",
                    x.light(call[0], call[1], call[2]), false);
        }
        due("3: none yet", x.count(4), 0);
        due("3: light at 0", x.light(0, 0, 1), true);
        due("3: light at the end", x.light(5_000, 2_000, 2_000), true);
        due("3: light always red", x.light(100, 1, 1), true);
        due("3: light within", x.light(100, 1, 2_000), true);
        due("3: a fifth one", x.light(100, 1, 2), false);
        due("3: there are 4", x.count(4), 4);
    }

    private static void promise4Close() {
        CarSeeds x = new CarSeeds(0L, 2, 5_000);
        int[][] wrong = {{-1, 10, 0, 5}, {2, 10, 0, 5}, {0, -1, 0, 5}, {0, 5_001, 0, 5}, {0, 10, -1, 5},
            {0, 10, 6, 5}, {MAX, MAX, MAX, MAX}, {MIN, MIN, MIN, MIN}, {0, 10, MAX, 0}};
        for (int[] call : wrong) {
            due("4: close(" + call[0] + ", " + call[1] + ", " + call[2] + ", " + call[3] + ")",
                    x.close(call[0], call[1], call[2], call[3]), false);
        }
        due("4: none yet", x.count(5), 0);
        due("4: at 0", x.close(0, 0, 0, 0), true);
        due("4: at the end", x.close(1, 5_000, 7, 7), true);
        due("4: for ever", x.close(1, 5_000, MAX, MAX), true);
        due("4: fourth", x.close(0, 1, 0, MAX), true);
        due("4: fifth", x.close(0, 1, 0, 1), true);
        due("4: sixth", x.close(0, 1, 0, 1), true);
        due("4: a seventh one", x.close(0, 1, 0, 1), false);
        due("4: there are 6", x.count(5), 6);
    }

    private static void promise5Stop() {
        CarSeeds x = new CarSeeds(0L, 2, 5_000);
        int[][] wrong = {{-1, 5}, {5_001, 5}, {10, 0}, {10, 501}, {10, -1}, {MAX, 5}, {MIN, 5}, {10, MAX}};
        for (int[] call : wrong) {
            due("5: stop(" + call[0] + ", " + call[1] + ")", x.stop(call[0], call[1]), false);
        }
        due("5: none yet", x.count(6), 0);
        due("5: at 0", x.stop(0, 1), true);
        due("5: at the end", x.stop(5_000, 500), true);
        due("5: third", x.stop(5_000, 500), true);
        due("5: fourth", x.stop(300, 30), true);
        due("5: a fifth one", x.stop(300, 30), false);
        due("5: there are 4", x.count(6), 4);
    }

    private static void promise6Line() {
        CarSeeds x = new CarSeeds(0L, 2, 5_000);
        int[] wrong = {-1, 5_001, MAX, MIN};
        for (int place : wrong) {
            due("6: line(" + place + ")", x.line(place), BAD);
        }
        due("6: at 0", x.line(0), 0);
        due("6: at the end", x.line(5_000), 1);
        due("6: third", x.line(5_000), 2);
        due("6: fourth", x.line(77), 3);
        due("6: a fifth one", x.line(77), BAD);
        due("6: there are 4", x.count(7), 4);
    }

    private static void promise7Run() {
        CarSeeds x = new CarSeeds(0L, 1, 1_000);
        int[] wrong = {0, -1, 1_001, MAX, MIN};
        for (int steps : wrong) {
            due("7: run(" + steps + ")", x.run(steps), BAD);
        }
        due("7: no step yet", x.count(3), 0);
        due("7: run(1)", x.run(1), 1);
        due("7: run(1000)", x.run(1_000), 1_001);
        x.come(0, 0);
        due("7: run(2)", x.run(2), 1_003);
        due("7: run(1000) while the car goes", x.run(1_000), 2_003);
        due("7: it came in the step after the empty ones", x.told(0, 4), 1_001);
        due("7: the step", x.count(3), 2_003);
    }

    private static void promise8Told() {
        CarSeeds x = new CarSeeds(0L, 2, 1_880);
        due("8: no car", x.told(0, 0), BAD);
        x.come(1, 0);
        int[] waits = {0, 1, 0, 0, BAD, BAD};
        int[] drives = {1, 1, 588, 188, 0, BAD};
        int[] isGone = {2, 1, 400 + 11 * 188, 188, 0, 10};
        told("8: waits", x, waits);
        x.run(1);
        told("8: drives", x, drives);
        x.run(9);
        // The rear is at the road's end now, not beyond it.
        due("8: still there", x.told(0, 0), 1);
        x.run(1);
        told("8: gone", x, isGone);
        x.run(50);
        told("8: gone for long", x, isGone);
        int[] wrong = {-1, 1, 60, MAX, MIN};
        for (int car : wrong) {
            due("8: told(" + car + ", 0)", x.told(car, 0), BAD);
        }
    }

    private static void told(String when, CarSeeds x, int[] want) {
        for (int what = 0; what < want.length; what++) {
            due(when + ", told(0, " + what + ")", x.told(0, what), want[what]);
        }
        due(when + ", told(0, -1)", x.told(0, -1), BAD);
        due(when + ", told(0, 6)", x.told(0, 6), BAD);
        due(when + ", told(0, MAX)", x.told(0, MAX), BAD);
    }

    private static void promise9Drawn() {
        // seed, number, kind, length, wish, delay
        long[][] draws = {{0, 0, 0, 400, 188, 8}, {0, 1, 0, 518, 162, 8}, {0, 2, 1, 1200, 105, 9},
            {0, 3, 0, 512, 119, 1}, {0, 59, 1, 1200, 65, 8}, {42, 0, 1, 1200, 153, 6}, {42, 3, 0, 498, 124, 8},
            {-1, 0, 0, 478, 169, 8}, {-1, 59, 0, 450, 86, 9}, {Long.MAX_VALUE, 2, 0, 495, 126, 1},
            {Long.MIN_VALUE, 1, 1, 1200, 122, 8}, {1L << 31, 59, 0, 492, 105, 8}};
        for (long[] draw : draws) {
            CarSeeds x = new CarSeeds(draw[0], 1, 1_000);
            int car = (int) draw[1];
            for (int other = 0; other < car; other++) {
                x.come(0, other % 2);
            }
            due("9: not yet come", x.drawn(car, 0), BAD);
            x.come(0, (int) draw[2]);
            for (int what = 0; what < 3; what++) {
                String call = "9: seed " + draw[0] + ", drawn(" + car + ", " + what + ")";
                due(call, x.drawn(car, what), draw[3 + what]);
            }
            due("9: drawn(" + car + ", -1)", x.drawn(car, -1), BAD);
            due("9: drawn(" + car + ", 3)", x.drawn(car, 3), BAD);
            due("9: drawn(-1, 0)", x.drawn(-1, 0), BAD);
            due("9: drawn(MAX, MAX)", x.drawn(MAX, MAX), BAD);
        }
    }

    private static void promise10Gap() {
        CarSeeds x = new CarSeeds(0L, 2, 30_000);
        due("10: no car", x.gap(0), BAD);
        x.come(0, 0);
        x.come(0, 0);
        due("10: it waits", x.gap(0), BAD);
        x.run(1);
        due("10: free", x.gap(0), FREE);
        due("10: the second one waits", x.gap(1), BAD);
        x.run(4);
        // The first rear is at 5 * 188, the second front at 518 + 3.
        due("10: to the rear before", x.gap(1), 940 - 521);
        x.light(900, 2_000, 2_000);
        due("10: to a light before that", x.gap(1), 900 - 521);
        x.close(0, 700, 0, 2_000);
        due("10: to a closed place before that", x.gap(1), 700 - 521);
        due("10: the first is beyond both", x.gap(0), FREE);
        int[] wrong = {-1, 2, 60, MAX, MIN};
        for (int car : wrong) {
            due("10: gap(" + car + ")", x.gap(car), BAD);
        }
        x.run(300);
        due("10: gone", x.gap(0), BAD);
    }

    private static void promise11Counted() {
        CarSeeds x = new CarSeeds(0L, 2, 5_000);
        due("11: no line", x.counted(0, 0), BAD);
        x.line(2_000);
        x.line(1_000);
        due("11: none yet", x.counted(1, 1), 0);
        x.come(1, 0);
        x.run(3);
        due("11: at 964, counted(0, 1)", x.counted(0, 1), 0);
        due("11: at 964, counted(1, 1)", x.counted(1, 1), 0);
        x.run(1);
        due("11: at 1,152, counted(0, 1)", x.counted(0, 1), 0);
        due("11: at 1,152, counted(1, 1)", x.counted(1, 1), 1);
        x.run(100);
        x.come(0, 0);
        x.come(1, 1);
        x.run(100);
        due("11: counted(0, 0)", x.counted(0, 0), 1);
        due("11: counted(0, 1)", x.counted(0, 1), 2);
        due("11: counted(1, 0)", x.counted(1, 0), 1);
        due("11: a bus comes beyond 1,000, counted(1, 1)", x.counted(1, 1), 1);
        int[][] wrong = {{-1, 0}, {2, 0}, {0, -1}, {0, 2}, {MAX, MAX}, {MIN, MIN}};
        for (int[] call : wrong) {
            due("11: counted(" + call[0] + ", " + call[1] + ")", x.counted(call[0], call[1]), BAD);
        }
    }

    private static void promise12Times() {
        CarSeeds x = new CarSeeds(0L, 2, 1_880);
        x.come(0, 0);
        x.run(10);
        due("12: none gone", x.times(), 0);
        x.run(1);
        due("12: one gone", x.times(), 10);
        x.come(1, 0);
        x.run(40);
        // 162 a step, so its rear is beyond 1,880 behind 12 steps.
        due("12: two gone", x.times(), 10 + 11);
        due("12: from its coming", x.told(1, 4), 11);
    }

    private static void promise13Many() {
        CarSeeds x = new CarSeeds(0L, 2, 30_000);
        int[] wrong = {-1, 3, MAX, MIN};
        for (int what : wrong) {
            due("13: many(" + what + ")", x.many(what), BAD);
        }
        x.come(0, 0);
        x.run(1);
        due("13: no hard braking", x.many(1), 0);
        // The gap allows 168 now, 20 less than 188.
        x.close(0, 588 + 200 + 1_689, 1, 1_000);
        x.run(1);
        due("13: a hard braking", x.many(1), 1);
        x.run(28);
        due("13: braking further is none", x.many(1), 1);
        due("13: no change yet", x.many(2), 0);
        x.run(3);
        due("13: a change", x.many(2), 1);
        // A gap always allows the speed, so that near misses can't be met: see README.
        due("13: no near miss", x.many(0), 0);
    }

    private static void promise14Waiting() {
        CarSeeds x = new CarSeeds(0L, 2, 10_000);
        due("14: none", x.waiting(0), 0);
        x.come(0, 0);
        x.come(0, 0);
        x.come(1, 1);
        due("14: lane 0", x.waiting(0), 2);
        due("14: lane 1", x.waiting(1), 1);
        x.run(1);
        due("14: one of two came onto the road", x.waiting(0), 1);
        due("14: none is left", x.waiting(1), 0);
        int[] wrong = {-1, 2, 3, MAX, MIN};
        for (int lane : wrong) {
            due("14: waiting(" + lane + ")", x.waiting(lane), BAD);
        }
    }

    private static void promise15Ordered() {
        CarSeeds x = new CarSeeds(77L, 3, 20_000);
        x.close(1, 9_000, 0, 3_000);
        x.light(15_000, 100, 300);
        x.stop(5_000, 20);
        for (int car = 0; car < 60; car++) {
            x.come(car % 3, car % 7 == 0 ? 1 : 0);
        }
        for (int i = 0; i < 300; i++) {
            x.run(7);
            due("15: ordered", x.ordered(), true);
        }
        due("15: near misses", x.many(0), 0);
    }

    private static CarSeeds busyRoad() {
        CarSeeds x = new CarSeeds(3L, 2, 12_000);
        x.light(6_000, 60, 120);
        x.stop(4_000, 15);
        x.close(0, 9_000, 0, 400);
        x.line(3_000);
        for (int car = 0; car < 20; car++) {
            x.come(car % 2, car % 5 == 0 ? 1 : 0);
        }
        return x;
    }

    private static int[] everything(CarSeeds x) {
        int[] all = new int[800];
        int n = 0;
        for (int what = 0; what < 10; what++) {
            all[n++] = x.count(what);
        }
        for (int car = 0; car < x.count(0); car++) {
            for (int what = 0; what < 6; what++) {
                all[n++] = x.told(car, what);
            }
            for (int what = 0; what < 3; what++) {
                all[n++] = x.drawn(car, what);
            }
            all[n++] = x.gap(car);
        }
        for (int what = 0; what < 3; what++) {
            all[n++] = x.many(what);
            all[n++] = x.waiting(what);
            all[n++] = x.counted(0, what);
        }
        all[n++] = x.times();
        return all;
    }

    private static void sameAs(String when, int[] got, int[] want) {
        for (int i = 0; i < want.length; i++) {
            due(when + ", answer " + i, got[i], want[i]);
        }
    }

    private static void promise16SaveAnd17Back() {
        CarSeeds x = busyRoad();
        int[] wrong = {-1, 2, MAX, MIN};
        for (int slot : wrong) {
            due("16: save(" + slot + ")", x.save(slot), BAD);
            due("17: back(" + slot + ")", x.back(slot), BAD);
        }
        due("17: nothing kept in 0", x.back(0), BAD);
        x.run(90);
        due("16: save(1)", x.save(1), 90);
        due("17: still nothing in 0", x.back(0), BAD);
        int[] at90 = everything(x);
        x.run(200);
        due("16: save(0)", x.save(0), 290);
        int[] at290 = everything(x);
        x.run(300);
        int[] at590 = everything(x);
        due("17: back(1)", x.back(1), 90);
        sameAs("17: back at 90", everything(x), at90);
        due("17: run again", x.run(200), 290);
        sameAs("17: the same 200 steps", everything(x), at290);
        x.run(300);
        sameAs("17: the same 300 steps", everything(x), at590);
        due("17: back(0)", x.back(0), 290);
        sameAs("17: back at 290", everything(x), at290);
        due("17: back(1) once more", x.back(1), 90);
        sameAs("17: back at 90 once more", everything(x), at90);
        x.run(10);
        due("16: a slot is used again", x.save(1), 100);
        x.run(10);
        due("17: back to the later one", x.back(1), 100);
    }

    private static void promise17BackForgetsWhatCameSince() {
        CarSeeds x = new CarSeeds(0L, 2, 5_000);
        x.come(0, 0);
        x.save(0);
        x.come(1, 1);
        x.line(1_000);
        x.run(60);
        due("17: counted before", x.counted(0, 0) + x.counted(0, 1), 1);
        due("17: back", x.back(0), 0);
        due("17: one car", x.count(0), 1);
        due("17: the other is not there", x.told(1, 0), BAD);
        due("17: nor its draws", x.drawn(1, 1), BAD);
        due("17: the line is there", x.count(7), 1);
        due("17: and has counted none", x.counted(0, 0) + x.counted(0, 1), 0);
        due("17: the first waits", x.told(0, 0), 0);
        due("17: and is nowhere", x.told(0, 2), 0);
        due("17: the number comes again", x.come(0, 0), 1);
        due("17: as a car", x.drawn(1, 0), 518);
        due("17: in its own lane", x.told(1, 1), 0);
        due("17: not yet", x.told(1, 4), BAD);
        x.run(60);
        due("17: the line counts anew", x.counted(0, 0), 2);
    }

    private static void promise17BackKeepsThings() {
        CarSeeds x = new CarSeeds(0L, 1, 20_000);
        x.come(0, 1);
        x.run(1);
        x.save(0);
        x.stop(5_000, 20);
        x.light(10_000, 5, 5);
        x.close(0, 15_000, 0, MAX);
        x.run(300);
        due("17: the bus was served", x.gap(0) < 400, true);
        due("17: it stands before the light", x.told(0, 2), 10_000 - 209);
        x.back(0);
        due("17: the stop is there, and the bus is not served", x.gap(0), 5_000 - x.told(0, 2));
        due("17: lights", x.count(4), 1);
        due("17: closed places", x.count(5), 1);
        due("17: stops", x.count(6), 1);
        x.run(300);
        due("17: it is served again", x.told(0, 2), 10_000 - 209);
        // A bus of a number that stood at the stop before is another bus.
        CarSeeds y = new CarSeeds(0L, 1, 20_000);
        y.stop(5_000, 20);
        y.save(0);
        y.come(0, 1);
        y.run(300);
        y.back(0);
        y.come(0, 1);
        y.run(1);
        due("17: the new bus has not stood there", y.gap(0), 5_000 - y.told(0, 2));
    }

    private static void promise18Count() {
        CarSeeds x = new CarSeeds(0L, 3, 4_000);
        x.come(0, 0);
        x.come(0, 0);
        x.come(1, 1);
        x.light(4_000, 0, 10);
        x.close(2, 10, 0, 0);
        x.close(2, 10, 0, 0);
        x.stop(0, 1);
        x.stop(0, 1);
        x.stop(0, 1);
        x.line(0);
        x.line(0);
        x.line(0);
        x.line(0);
        x.run(1);
        int[] early = {3, 2, 0, 1, 1, 2, 3, 4, 3, 4_000};
        for (int what = 0; what < early.length; what++) {
            due("18: count(" + what + ")", x.count(what), early[what]);
        }
        x.run(400);
        int[] late = {3, 0, 3, 401, 1, 2, 3, 4, 3, 4_000};
        for (int what = 0; what < late.length; what++) {
            due("18: later, count(" + what + ")", x.count(what), late[what]);
        }
        int[] wrong = {-1, 10, MAX, MIN};
        for (int what : wrong) {
            due("18: count(" + what + ")", x.count(what), BAD);
        }
    }
}
