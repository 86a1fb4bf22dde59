/** Stories of roads on which much happens, for the tests that need some. */
final class Roads {
    private Roads() {
    }

    /** 20 cars and buses on two lanes of 12,000, with one thing of each kind. */
    static Story busy() {
        Story story = new Story(3L, 2, 12_000).and(x -> yes(x.light(6_000, 60, 120)), x -> yes(x.stop(4_000, 15)),
                x -> yes(x.close(0, 9_000, 0, 400)), x -> x.line(3_000));
        for (int car = 0; car < 20; car++) {
            int lane = car % 2;
            int kind = car % 5 == 0 ? 1 : 0;
            story = story.and(x -> x.come(lane, kind));
        }
        return story;
    }

    /** 60 cars and buses on three lanes of 20,000, with as many things of each kind as there may be. */
    static Story full() {
        Story story = new Story(8L, 3, 20_000);
        for (int car = 0; car < 60; car++) {
            int lane = car % 3;
            int kind = car % 7 == 0 ? 1 : 0;
            story = story.and(x -> x.come(lane, kind));
        }
        for (int i = 0; i < 4; i++) {
            int place = 3_000 + 4_000 * i;
            story = story.and(x -> yes(x.light(place, 30, 200)), x -> yes(x.stop(place + 900, 9)), x -> x.line(place));
        }
        for (int i = 0; i < 6; i++) {
            int lane = i % 3;
            int from = 80 * i;
            story = story.and(x -> yes(x.close(lane, 7_500, from, from + 90)));
        }
        return story;
    }

    static int yes(boolean answer) {
        return answer ? 1 : 0;
    }
}
