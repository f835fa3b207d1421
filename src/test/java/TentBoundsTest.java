/** Every sentence of the term 2 and of promises 9 to 14 that names a bound, told in the test's text. */
public final class TentBoundsTest {
    private static final Check CHECK = new Check();
    private static final int MIN = Integer.MIN_VALUE;
    private static final int MAX = Integer.MAX_VALUE;
    private static final int[] NO_PLACE = {MIN, -8, -1, 8, 9, 16, 64, MAX};
    private static final int[] NO_WIND = {MIN, MIN + 100, -102, -101, 101, 102, MAX - 100, MAX};

    public static void main(String[] args) {
        terms();
        slackening();
        promises();
        CHECK.end();
    }

    private static void terms() {
        loads();
        sharesAtFirst();
        sharesBounds();
        sharesTogether();
        exposedAtFirst();
        exposedBounds();
        partsGreatestAndLeast();
        up();
    }

    private static void slackening() {
        partOfZeroIsNotSlack();
        ropeThatIsNotUpGetsNothing();
        leastNumberGoesSlack();
        cutTowardsZero();
        leftOverToTheFirstOnes();
        slackOnesGetNothing();
        noneIsLeft();
        allButOneAreLeftWithZero();
    }

    private static void promises() {
        loadNoneSuch();
        shareNoneSuch();
        shareMoreThanTogether();
        exposedNoneSuch();
        partNoneSuch();
        partNotUp();
        slackNoneSuch();
        goneNoSuchWind();
        countOfRopes();
    }

    private static void due(String call, long got, long want) {
        CHECK.due(call, got, want);
    }

    private static void due(String call, boolean got, boolean want) {
        CHECK.due(call, got, want);
    }

    private static void loaded(CircusRoad x, int point, int load, boolean want) {
        due("load(" + point + ", " + load + ")", x.load(point, load), want);
    }

    private static void shared(CircusRoad x, int point, int rope, int parts, boolean want) {
        due("share(" + point + ", " + rope + ", " + parts + ")", x.share(point, rope, parts), want);
    }

    private static void exposes(CircusRoad x, int rope, int by, boolean want) {
        due("exposed(" + rope + ", " + by + ")", x.exposed(rope, by), want);
    }

    /** The parts of the first ropes, those behind them bear nothing. */
    private static void partsAre(CircusRoad x, int wind, int... parts) {
        for (int rope = 0; rope < 8; rope++) {
            due("part(" + rope + ", " + wind + ")", x.part(rope, wind), rope < parts.length ? parts[rope] : 0);
        }
    }

    /** Just these ropes, as bits, are slack. */
    private static void slackAre(CircusRoad x, int wind, int ropes) {
        for (int rope = 0; rope < 8; rope++) {
            due("slack(" + rope + ", " + wind + ")", x.slack(rope, wind), (ropes >> rope & 1) != 0);
        }
    }

    /** Rope i bears load i of point i, and is up also if that is 0. */
    private static CircusRoad hung(int... loads) {
        CircusRoad x = new CircusRoad();
        for (int i = 0; i < loads.length; i++) {
            x.share(i, i, 1);
            x.load(i, loads[i]);
        }
        return x;
    }

    private static void loads() {
        CHECK.about("terms 2: the TENT has POINTS 0 .. 7 with LOADS (0 .. 10000)");
        for (int point = 0; point < 8; point++) {
            CircusRoad x = new CircusRoad();
            shared(x, point, 0, 100, true);
            due("part(0, 0) without a LOAD", x.part(0, 0), 0);
            loaded(x, point, 10000, true);
            due("part(0, 0)", x.part(0, 0), 1000000);
            loaded(x, point, 10001, false);
            loaded(x, point, -1, false);
            due("part(0, 0)", x.part(0, 0), 1000000);
            loaded(x, point, 1, true);
            due("part(0, 0)", x.part(0, 0), 100);
            loaded(x, point, 0, true);
            due("part(0, 0)", x.part(0, 0), 0);
        }
    }

    private static void sharesAtFirst() {
        CHECK.about("terms 2: each POINT has SHARES of ROPES (0 at first)");
        CircusRoad x = new CircusRoad();
        for (int point = 0; point < 8; point++) {
            loaded(x, point, 10000, true);
        }
        partsAre(x, 0);
        partsAre(x, 100);
        due("count(3)", x.count(3), 0);
        for (int point = 0; point < 8; point++) {
            shared(x, point, point, 100, true);
        }
    }

    private static void sharesBounds() {
        CHECK.about("terms 2: SHARES of ROPES (0 .. 100)");
        for (int rope = 0; rope < 8; rope++) {
            CircusRoad x = new CircusRoad();
            loaded(x, 7 - rope, 3, true);
            shared(x, 7 - rope, rope, 100, true);
            due("part", x.part(rope, 0), 300);
            shared(x, 7 - rope, rope, 101, false);
            shared(x, 7 - rope, rope, -1, false);
            due("part", x.part(rope, 0), 300);
            shared(x, 7 - rope, rope, 1, true);
            due("part", x.part(rope, 0), 3);
            shared(x, 7 - rope, rope, 0, true);
            due("part", x.part(rope, 0), 0);
            due("count(3)", x.count(3), 0);
        }
    }

    private static void sharesTogether() {
        CHECK.about("terms 2: SHARES that are together not above 100");
        CircusRoad x = new CircusRoad();
        int[] shares = {13, 12, 13, 12, 13, 12, 13, 12};
        for (int rope = 0; rope < 8; rope++) {
            shared(x, 3, rope, shares[rope], true);
        }
        for (int rope = 0; rope < 8; rope++) {
            shared(x, 3, rope, shares[rope] + 1, false);
            shared(x, 3, rope, 100, false);
            shared(x, 3, rope, shares[rope], true);
            shared(x, 4, rope, 1, true);
        }
        loaded(x, 3, 100, true);
        partsAre(x, 0, 1300, 1200, 1300, 1200, 1300, 1200, 1300, 1200);
        shared(x, 3, 7, 0, true);
        shared(x, 3, 0, 26, false);
        shared(x, 3, 0, 25, true);
        partsAre(x, 0, 2500, 1200, 1300, 1200, 1300, 1200, 1300, 0);
        shared(x, 3, 7, 1, false);
    }

    private static void exposedAtFirst() {
        CHECK.about("terms 2: a ROPE is EXPOSED (0 at first)");
        CircusRoad x = hung(10, 10, 10, 10, 10, 10, 10, 10);
        partsAre(x, 100, 10, 10, 10, 10, 10, 10, 10, 10);
        partsAre(x, -100, 10, 10, 10, 10, 10, 10, 10, 10);
        slackAre(x, 100, 0);
        slackAre(x, -100, 0);
    }

    private static void exposedBounds() {
        CHECK.about("terms 2: a ROPE is EXPOSED (-9 .. 9)");
        for (int rope = 0; rope < 8; rope++) {
            CircusRoad x = new CircusRoad();
            exposes(x, rope, 9, true);
            due("part(rope, 1)", x.part(rope, 1), 900);
            exposes(x, rope, 10, false);
            exposes(x, rope, -10, false);
            due("part(rope, 1)", x.part(rope, 1), 900);
            exposes(x, rope, -9, true);
            due("part(rope, -1)", x.part(rope, -1), 900);
            due("gone(1)", x.gone(1), -900);
            exposes(x, rope, 0, true);
            due("count(3)", x.count(3), 0);
            due("part(rope, -1)", x.part(rope, -1), 0);
        }
    }

    private static void partsGreatestAndLeast() {
        CHECK.about("terms 2: the ROPE's PART is the sum of LOADS times SHARES, and 100 times w times EXPOSED");
        CircusRoad x = new CircusRoad();
        for (int point = 0; point < 8; point++) {
            loaded(x, point, 10000, true);
            shared(x, point, 7, 100, true);
        }
        exposes(x, 7, 9, true);
        due("part(7, 100)", x.part(7, 100), 8090000);
        due("part(7, -100)", x.part(7, -100), 7910000);
        due("part(7, 0)", x.part(7, 0), 8000000);
        CircusRoad y = new CircusRoad();
        for (int rope = 0; rope < 8; rope++) {
            exposes(y, rope, 9, true);
        }
        partsAre(y, 100, 90000, 90000, 90000, 90000, 90000, 90000, 90000, 90000);
        partsAre(y, 0);
        slackAre(y, 0, 0);
        partsAre(y, -100);
        slackAre(y, -100, 255);
        due("gone(-100)", y.gone(-100), -720000);
    }

    private static void up() {
        CHECK.about("terms 2: a ROPE is UP if any SHARE of it is above 0, or its EXPOSED isn't 0");
        for (int i = 0; i < 8; i++) {
            CircusRoad x = new CircusRoad();
            shared(x, i, 7 - i, 0, true);
            exposes(x, 7 - i, 0, true);
            due("count(3)", x.count(3), 0);
            shared(x, i, 7 - i, 1, true);
            due("count(3)", x.count(3), 1);
            exposes(x, 7 - i, -1, true);
            due("count(3)", x.count(3), 1);
            shared(x, i, 7 - i, 0, true);
            due("count(3)", x.count(3), 1);
            exposes(x, 7 - i, 1, true);
            due("count(3)", x.count(3), 1);
            exposes(x, 7 - i, 0, true);
            due("count(3)", x.count(3), 0);
        }
    }

    private static void partOfZeroIsNotSlack() {
        CHECK.about("terms 2: as long as a ROPE that is UP has a PART below 0");
        CircusRoad x = hung(101, 500);
        exposes(x, 0, -1, true);
        partsAre(x, 1, 1, 500);
        slackAre(x, 1, 0);
        loaded(x, 0, 100, true);
        partsAre(x, 1, 0, 500);
        slackAre(x, 1, 0);
        loaded(x, 0, 99, true);
        partsAre(x, 1, 0, 499);
        slackAre(x, 1, 1);
        due("gone(1)", x.gone(1), 0);
    }

    private static void ropeThatIsNotUpGetsNothing() {
        CHECK.about("terms 2: what it has comes to those that are UP");
        CircusRoad x = new CircusRoad();
        loaded(x, 0, 1000, true);
        shared(x, 0, 1, 1, true);
        shared(x, 0, 4, 1, true);
        shared(x, 0, 6, 1, true);
        exposes(x, 3, -3, true);
        // rope 3 has -300, ropes 1, 4 and 6 get -100 each
        partsAre(x, 1, 0, 900, 0, 0, 900, 0, 900);
        slackAre(x, 1, 8);
        shared(x, 1, 3, 1, true);
        loaded(x, 1, 299, true);
        partsAre(x, 1, 0, 999, 0, 0, 1000, 0, 1000);
        loaded(x, 1, 298, true);
        partsAre(x, 1, 0, 999, 0, 0, 999, 0, 1000);
        // a rope that is up without bearing anything gets its part, and goes slack
        shared(x, 2, 7, 1, true);
        loaded(x, 1, 296, true);
        partsAre(x, 1, 0, 998, 0, 0, 999, 0, 999);
        slackAre(x, 1, 8 + 128);
    }

    private static void leastNumberGoesSlack() {
        CHECK.about("terms 2: of these the one of the least number goes SLACK");
        // 0 first: -10 as -5 -5; then 1 with -10 whole to 2
        CircusRoad x = hung(90, 95, 100);
        exposes(x, 0, -1, true);
        exposes(x, 1, -1, true);
        partsAre(x, 1, 0, 0, 85);
        slackAre(x, 1, 3);
        // 2 first: -50 as -25 -25, which makes 0 push; then 0, with -15 whole to 1
        CircusRoad y = hung(10, 100, 50);
        exposes(y, 2, -1, true);
        partsAre(y, 1, 0, 60, 0);
        slackAre(y, 1, 5);
        // 1: -100 as -34 -33 -33: 15, 267, -82; then 3: -82 as -41 -41: -26, 226; then 0: 200
        CircusRoad z = hung(49, 0, 300, 51);
        exposes(z, 1, -1, true);
        exposes(z, 3, -1, true);
        partsAre(z, 1, 0, 0, 200, 0);
        slackAre(z, 1, 11);
        // 7 pushes alone, and the others get a seventh each
        CircusRoad last = hung(10, 10, 10, 10, 10, 10, 10, 30);
        exposes(last, 7, -1, true);
        partsAre(last, 1);
        slackAre(last, 1, 128);
    }

    private static void cutTowardsZero() {
        CHECK.about("terms 2: by as many as these are (cut towards 0)");
        CircusRoad x = hung(93, 1000, 1000, 1000);
        exposes(x, 0, -1, true);
        // -7 by 3 is -2, and -1 left over
        partsAre(x, 1, 0, 997, 998, 998);
        loaded(x, 0, 98, true);
        // -2 by 3 is 0, and -2 left over
        partsAre(x, 1, 0, 999, 999, 1000);
        loaded(x, 0, 94, true);
        partsAre(x, 1, 0, 998, 998, 998);
        CircusRoad y = hung(99, 50);
        exposes(y, 0, -1, true);
        partsAre(y, 1, 0, 49);
    }

    private static void leftOverToTheFirstOnes() {
        CHECK.about("terms 2: what is left over that, -1 each, to the first ones");
        for (int over = 0; over < 7; over++) {
            CircusRoad x = hung(70, 70, 70, 70, 70, 70, 70, 100 - 14 - over);
            exposes(x, 7, -1, true);
            for (int rope = 0; rope < 7; rope++) {
                due("part(" + rope + ", 1), over " + over, x.part(rope, 1), rope < over ? 67 : 68);
            }
            due("part(7, 1)", x.part(7, 1), 0);
        }
        // the first ones that are left, not the ropes behind the one that goes slack
        CircusRoad y = hung(10, 10, 99, 10, 10);
        exposes(y, 2, -1, true);
        partsAre(y, 1, 9, 10, 0, 10, 10);
        // rope 0 is slack by then: rope 1 is the first
        CircusRoad z = hung(100, 10, 97, 10, 10);
        exposes(z, 0, -1, true);
        exposes(z, 2, -1, true);
        loaded(z, 0, 96, true);
        // 0: -4 as -1 -1 -1 -1: 9, -4, 9, 9; then 2: -4 as -2 -1 -1
        partsAre(z, 1, 0, 7, 0, 8, 8);
    }

    private static void slackOnesGetNothing() {
        CHECK.about("terms 2: to those that are UP and not SLACK; its PART is 0 then");
        CircusRoad x = hung(0, 0, 0, 1000);
        exposes(x, 0, -1, true);
        exposes(x, 1, -1, true);
        exposes(x, 2, -1, true);
        partsAre(x, 1, 0, 0, 0, 700);
        slackAre(x, 1, 7);
        due("gone(1)", x.gone(1), 0);
        partsAre(x, 0, 0, 0, 0, 1000);
        slackAre(x, 0, 0);
        partsAre(x, -1, 100, 100, 100, 1000);
    }

    private static void noneIsLeft() {
        CHECK.about("terms 2: if none is left, all are SLACK, and what it had is GONE");
        CircusRoad one = new CircusRoad();
        exposes(one, 5, 1, true);
        due("gone(-1)", one.gone(-1), -100);
        partsAre(one, -1);
        slackAre(one, -1, 32);
        due("gone(0)", one.gone(0), 0);
        slackAre(one, 0, 0);
        due("gone(1)", one.gone(1), 0);
        CircusRoad x = hung(99, 0);
        exposes(x, 1, -1, true);
        due("gone(1)", x.gone(1), -1);
        partsAre(x, 1);
        slackAre(x, 1, 3);
        loaded(x, 0, 100, true);
        due("gone(1)", x.gone(1), 0);
        partsAre(x, 1);
        slackAre(x, 1, 2);
        CircusRoad all = hung(10, 20, 30, 40, 50, 60, 70, 80);
        exposes(all, 0, -9, true);
        due("gone(100)", all.gone(100), 360 - 90000);
        partsAre(all, 100);
        slackAre(all, 100, 255);
        due("gone(0)", all.gone(0), 0);
    }

    private static void allButOneAreLeftWithZero() {
        CHECK.about("terms 2: nothing is GONE as long as one is left");
        CircusRoad x = hung(0, 0, 0, 0, 0, 0, 0, 6300);
        for (int rope = 0; rope < 7; rope++) {
            exposes(x, rope, -9, true);
        }
        due("gone(1)", x.gone(1), 0);
        slackAre(x, 1, 127);
        partsAre(x, 1);
        loaded(x, 7, 6299, true);
        due("gone(1)", x.gone(1), -1);
        slackAre(x, 1, 255);
        partsAre(x, 1);
    }

    private static void loadNoneSuch() {
        CHECK.about("promise 9: true; false if there is none such, or no such LOAD");
        CircusRoad x = new CircusRoad();
        for (int point : NO_PLACE) {
            loaded(x, point, 0, false);
            loaded(x, point, 10000, false);
        }
        int[] noLoad = {MIN, -10000, -1, 10001, 65536, MAX};
        for (int load : noLoad) {
            loaded(x, 0, load, false);
            loaded(x, 7, load, false);
        }
        for (int point = 0; point < 8; point++) {
            loaded(x, point, 10000, true);
            loaded(x, point, 10000, true);
            loaded(x, point, 0, true);
        }
    }

    private static void shareNoneSuch() {
        CHECK.about("promise 10: true; false if there is none such");
        CircusRoad x = new CircusRoad();
        for (int none : NO_PLACE) {
            shared(x, none, 0, 0, false);
            shared(x, none, 7, 1, false);
            shared(x, 0, none, 0, false);
            shared(x, 7, none, 1, false);
            shared(x, none, none, 1, false);
        }
        int[] noShare = {MIN, -100, -1, 101, 200, 256, MAX};
        for (int parts : noShare) {
            shared(x, 0, 0, parts, false);
            shared(x, 7, 7, parts, false);
        }
        due("count(3)", x.count(3), 0);
        for (int i = 0; i < 64; i++) {
            shared(x, i / 8, i % 8, 12, true);
            shared(x, i / 8, i % 8, 12, true);
        }
        due("count(3)", x.count(3), 8);
    }

    private static void shareMoreThanTogether() {
        CHECK.about("promise 10: false if it would have more than 100 together");
        CircusRoad x = new CircusRoad();
        shared(x, 0, 0, 100, true);
        shared(x, 0, 1, 1, false);
        shared(x, 0, 1, 100, false);
        shared(x, 0, 1, MAX, false);
        shared(x, 0, 1, -1, false);
        shared(x, 0, 1, 0, true);
        shared(x, 0, 0, 100, true);
        shared(x, 0, 0, 99, true);
        shared(x, 0, 1, 2, false);
        shared(x, 0, 1, 1, true);
        shared(x, 0, 0, 100, false);
        // each POINT by itself
        shared(x, 1, 0, 100, true);
        shared(x, 2, 1, 100, true);
        loaded(x, 0, 10, true);
        partsAre(x, 0, 990, 10);
    }

    private static void exposedNoneSuch() {
        CHECK.about("promise 11: true; false if there is none such, or it can't be");
        CircusRoad x = new CircusRoad();
        for (int rope : NO_PLACE) {
            exposes(x, rope, 1, false);
            exposes(x, rope, 0, false);
        }
        int[] noBy = {MIN, -100, -11, -10, 10, 11, 100, MAX};
        for (int by : noBy) {
            exposes(x, 0, by, false);
            exposes(x, 7, by, false);
        }
        due("count(3)", x.count(3), 0);
        for (int rope = 0; rope < 8; rope++) {
            exposes(x, rope, -9, true);
            exposes(x, rope, -9, true);
            exposes(x, rope, 9, true);
        }
        due("count(3)", x.count(3), 8);
    }

    private static void partNoneSuch() {
        CHECK.about("promise 12: NONE if there is no such ROPE, or no such WIND (-100 .. 100)");
        CircusRoad x = hung(10000, 10000, 10000, 10000, 10000, 10000, 10000, 10000);
        exposes(x, 0, 1, true);
        for (int rope : NO_PLACE) {
            due("part(" + rope + ", 0)", x.part(rope, 0), -1);
            due("part(" + rope + ", 101)", x.part(rope, 101), -1);
        }
        for (int wind : NO_WIND) {
            due("part(0, " + wind + ")", x.part(0, wind), -1);
            due("part(7, " + wind + ")", x.part(7, wind), -1);
        }
        for (int wind = -100; wind <= 100; wind++) {
            due("part(0, " + wind + ")", x.part(0, wind), 10000 + 100 * wind);
        }
        due("part(7, 100)", x.part(7, 100), 10000);
        due("part(7, -100)", x.part(7, -100), 10000);
    }

    private static void partNotUp() {
        CHECK.about("promise 12: 0 of one that isn't UP");
        CircusRoad x = new CircusRoad();
        exposes(x, 3, 9, true);
        partsAre(x, 100, 0, 0, 0, 90000);
        partsAre(x, -100);
        exposes(x, 3, 0, true);
        partsAre(x, 100);
    }

    private static void slackNoneSuch() {
        CHECK.about("promise 13: whether it is SLACK then; false if there is none such");
        CircusRoad x = new CircusRoad();
        for (int rope = 0; rope < 8; rope++) {
            exposes(x, rope, -1, true);
        }
        for (int rope : NO_PLACE) {
            due("slack(" + rope + ", 1)", x.slack(rope, 1), false);
            due("slack(" + rope + ", 100)", x.slack(rope, 100), false);
        }
        for (int wind : NO_WIND) {
            due("slack(0, " + wind + ")", x.slack(0, wind), false);
            due("slack(7, " + wind + ")", x.slack(7, wind), false);
        }
        slackAre(x, 100, 255);
        slackAre(x, 1, 255);
        slackAre(x, 0, 0);
        slackAre(x, -100, 0);
        CircusRoad y = new CircusRoad();
        exposes(y, 2, -1, true);
        slackAre(y, 1, 4);
    }

    private static void goneNoSuchWind() {
        CHECK.about("promise 14: what is GONE with a WIND (0 or less); 0 for no such WIND");
        CircusRoad x = new CircusRoad();
        exposes(x, 0, -9, true);
        CircusRoad y = new CircusRoad();
        exposes(y, 0, 9, true);
        for (int wind : NO_WIND) {
            due("gone(" + wind + ")", x.gone(wind), 0);
            due("gone(" + wind + ")", y.gone(wind), 0);
        }
        for (int wind = -100; wind <= 100; wind++) {
            due("gone(" + wind + ")", x.gone(wind), wind > 0 ? -900 * wind : 0);
            due("gone(" + wind + ")", y.gone(wind), wind < 0 ? 900 * wind : 0);
        }
    }

    private static void countOfRopes() {
        CHECK.about("promise 22: 3 ROPES that are UP, none to all");
        CircusRoad x = new CircusRoad();
        for (int rope = 0; rope < 8; rope++) {
            due("count(3)", x.count(3), rope);
            if (rope % 2 == 0) {
                shared(x, rope, rope, 1, true);
            } else {
                exposes(x, rope, -1, true);
            }
        }
        due("count(3)", x.count(3), 8);
        // slack ones are UP still
        due("gone(100)", x.gone(100), -40000);
        due("count(3)", x.count(3), 8);
    }
}
