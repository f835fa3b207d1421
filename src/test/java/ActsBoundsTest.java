/** Every sentence of the term 1 and of promises 1 to 8 that names a bound, told in the test's text. */
public final class ActsBoundsTest {
    private static final Check CHECK = new Check();
    private static final int MIN = Integer.MIN_VALUE;
    private static final int MAX = Integer.MAX_VALUE;
    private static final int PLAIN = 1000;
    private static final int CLOWNS = 1300;

    public static void main(String[] args) {
        terms();
        breaks();
        ring();
        bestOrders();
        promises();
        CHECK.end();
    }

    private static void terms() {
        atMostEightActs();
        kinds();
        minutes();
        who();
        props();
        worth();
        restsAtFirst();
        restsBounds();
        banOfTwoKinds();
    }

    private static void breaks() {
        digitIsNoAct();
        digitCameAlready();
        restsTooLittle();
        firstPlaceLeastBreak();
        atItsEnd();
        highestDigit();
    }

    private static void ring() {
        ringAtFirst();
        gapOfClowns();
        gapIsZeroAtLeast();
        clownsSinceTheLatestOtherAct();
    }

    private static void bestOrders() {
        leastGapsAheadOfWorth();
        greatestWorthAheadOfNumbers();
        leastNumbers();
    }

    private static void promises() {
        newObject();
        actWhatCantBe();
        actWhoAndPropsCantBe();
        restsNoneSuch();
        banNoneSuchOrSoAlready();
        judgeNoneForOthers();
        judgeBreaksNothing();
        judgeWrongPlaces();
        judgeBelowZeroOrMoreDigits();
        gapsElse();
        bestNone();
        bestAtNoneSuch();
        bestAtAsItIsNow();
    }

    private static void due(String call, long got, long want) {
        CHECK.due(call, got, want);
    }

    private static void due(String call, boolean got, boolean want) {
        CHECK.due(call, got, want);
    }

    private static CircusRoad withActs(int... whats) {
        CircusRoad x = new CircusRoad();
        for (int what : whats) {
            x.act(what, 0, 0);
        }
        return x;
    }

    private static CircusRoad withSameActs(int n) {
        CircusRoad x = new CircusRoad();
        for (int i = 0; i < n; i++) {
            x.act(PLAIN, 0, 0);
        }
        return x;
    }

    private static void takes(CircusRoad x, int number, int what, int who, int props) {
        due("act(" + what + ", " + who + ", " + props + ")", x.act(what, who, props), number);
    }

    private static void refuses(CircusRoad x, int what, int who, int props) {
        int before = x.count(0);
        takes(x, -1, what, who, props);
        due("count(0)", x.count(0), before);
    }

    private static void judged(CircusRoad x, int order, int n, int place, int which) {
        due("judge(" + order + ", " + n + ", 0)", x.judge(order, n, 0), place);
        due("judge(" + order + ", " + n + ", 1)", x.judge(order, n, 1), which);
    }

    private static void unbroken(CircusRoad x, int order, int n) {
        judged(x, order, n, -1, -1);
        CHECK.that("gaps(" + order + ", " + n + ") is NONE", x.gaps(order, n) >= 0);
    }

    private static void broken(CircusRoad x, int order, int n, int place, int which) {
        judged(x, order, n, place, which);
        due("gaps(" + order + ", " + n + ")", x.gaps(order, n), -1);
    }

    private static void notTold(CircusRoad x, int order, int n) {
        broken(x, order, n, -1, -1);
    }

    private static void bestIs(CircusRoad x, int gaps, int... acts) {
        due("best()", x.best(), gaps);
        for (int i = 0; i < 10; i++) {
            due("bestAt(" + i + ")", x.bestAt(i), i < acts.length ? acts[i] : -1);
        }
    }

    private static void atMostEightActs() {
        CHECK.about("terms 1: ACTS have numbers as they come (at most 8)");
        CircusRoad x = new CircusRoad();
        for (int i = 0; i < 8; i++) {
            takes(x, i, PLAIN, 0, 0);
        }
        refuses(x, PLAIN, 0, 0);
        refuses(x, 60399, 1023, 0);
        refuses(x, 0, 0, 0);
        unbroken(x, 76543210, 8);
        broken(x, 86543210, 8, 7, 1);
        bestIs(x, 0, 0, 1, 2, 3, 4, 5, 6, 7);
    }

    private static void kinds() {
        CHECK.about("terms 1: a KIND (0 plain, 1 high, 2 beasts, 3 CLOWNS)");
        for (int kind = 0; kind < 10; kind++) {
            CircusRoad x = new CircusRoad();
            int[] whats = {1000 + kind * 100, 1099 + kind * 100, 60000 + kind * 100, 60099 + kind * 100};
            for (int i = 0; i < whats.length; i++) {
                takes(x, kind < 4 ? i : -1, whats[i], 0, 0);
            }
            due("count(0)", x.count(0), kind < 4 ? 4 : 0);
            if (kind < 4) {
                unbroken(x, 3210, 4);
                x.ban(kind, kind, true);
                broken(x, 3210, 4, 1, 3);
            }
        }
    }

    private static void minutes() {
        CHECK.about("terms 1: MINUTES (1 .. 60)");
        CircusRoad none = new CircusRoad();
        refuses(none, 0, 0, 0);
        refuses(none, 99, 0, 0);
        refuses(none, 300, 0, 0);
        refuses(none, 999, 0, 0);
        refuses(none, 61000, 0, 0);
        refuses(none, 61300, 0, 0);
        refuses(none, 100000, 0, 0);
        for (int minutes = 1; minutes <= 60; minutes++) {
            CircusRoad x = new CircusRoad();
            takes(x, 0, minutes * 1000 + 300, 0, 0);
            takes(x, 1, minutes * 1000, 0, 255);
            due("gaps(10, 2) behind " + minutes, x.gaps(10, 2), Math.max(0, 16 - minutes));
        }
    }

    private static void who() {
        CHECK.about("terms 1: WHO (bits: people 0 .. 9)");
        for (int person = 0; person < 10; person++) {
            CircusRoad x = new CircusRoad();
            takes(x, 0, PLAIN, 1 << person, 0);
            takes(x, 1, PLAIN, 1023, 0);
            takes(x, 2, PLAIN, 1023 - (1 << person), 0);
            broken(x, 210, 3, 1, 2);
            x.rests(person, 0);
            judged(x, 10, 2, 2, 4);
            judged(x, 20, 2, 2, 4);
            broken(x, 21, 2, 1, 2);
        }
        CircusRoad nobody = new CircusRoad();
        nobody.act(PLAIN, 0, 0);
        nobody.act(PLAIN, 0, 0);
        nobody.act(PLAIN, 1023, 0);
        unbroken(nobody, 210, 3);
    }

    private static void props() {
        CHECK.about("terms 1: PROPS (bits 0 .. 7; of CLOWNS none)");
        for (int prop = 0; prop < 8; prop++) {
            CircusRoad x = new CircusRoad();
            refuses(x, CLOWNS, 0, 1 << prop);
            takes(x, 0, PLAIN, 0, 1 << prop);
            takes(x, 1, PLAIN, 0, 255);
            due("gaps(10, 2)", x.gaps(10, 2), 2 + 14);
            due("gaps(1, 2)", x.gaps(1, 2), 16 + 14);
        }
        CircusRoad x = new CircusRoad();
        refuses(x, CLOWNS, 0, 255);
        refuses(x, CLOWNS, 0, 256);
        refuses(x, CLOWNS, 0, -1);
        takes(x, 0, CLOWNS, 0, 0);
    }

    private static void worth() {
        CHECK.about("terms 1: a WORTH (0 .. 99)");
        bestIs(withActs(1099, 1098), 0, 1, 0);
        bestIs(withActs(1001, 1000), 0, 1, 0);
        bestIs(withActs(60099, 60000), 0, 1, 0);
        bestIs(withActs(1099, 1100), 0, 1, 0);
        bestIs(withActs(1399, 1300), 0, 1, 0);
        CircusRoad x = new CircusRoad();
        refuses(x, 1400, 0, 0);
        refuses(x, 60400, 0, 0);
    }

    private static void restsAtFirst() {
        CHECK.about("terms 1: so many acts at least are between two of theirs (1 at first)");
        for (int person = 0; person < 10; person++) {
            CircusRoad x = new CircusRoad();
            x.act(PLAIN, 1 << person, 0);
            x.act(PLAIN, 0, 0);
            x.act(PLAIN, 1 << person, 0);
            broken(x, 120, 3, 1, 2);
            broken(x, 201, 3, 2, 2);
            unbroken(x, 210, 3);
            unbroken(x, 12, 3);
        }
    }

    private static void restsBounds() {
        CHECK.about("terms 1: a person RESTS (0 .. 3)");
        int[] orders = {543210, 543120, 541320, 514320, 154320};
        for (int person = 0; person < 10; person++) {
            for (int rest = 0; rest <= 3; rest++) {
                CircusRoad x = new CircusRoad();
                for (int i = 0; i < 6; i++) {
                    x.act(PLAIN, i < 2 ? 1 << person : 0, 0);
                }
                due("rests(" + person + ", " + rest + ")", x.rests(person, rest), true);
                for (int between = 0; between < orders.length; between++) {
                    if (between < rest) {
                        broken(x, orders[between], 6, between + 1, 2);
                    } else {
                        unbroken(x, orders[between], 6);
                    }
                }
            }
        }
    }

    private static void banOfTwoKinds() {
        CHECK.about("terms 1: an ACT of the second one may not come right behind one of the first");
        for (int first = 0; first < 4; first++) {
            for (int second = 0; second < 4; second++) {
                int other = 0;
                while (other == first || other == second) {
                    other++;
                }
                CircusRoad x = withActs(PLAIN + first * 100, PLAIN + second * 100, PLAIN + other * 100);
                x.ban(first, second, true);
                broken(x, 210, 3, 1, 3);
                broken(x, 102, 3, 2, 3);
                if (first != second) {
                    unbroken(x, 201, 3);
                }
                unbroken(x, 120, 3);
                x.ban(first, second, false);
                unbroken(x, 210, 3);
            }
        }
        CircusRoad all = withActs(PLAIN);
        for (int i = 0; i < 16; i++) {
            all.ban(i / 4, i % 4, true);
        }
        unbroken(all, 0, 1);
        bestIs(all, 0, 0);
    }

    private static void digitIsNoAct() {
        CHECK.about("terms 1: 1 a digit is no ACT");
        for (int n = 0; n <= 8; n++) {
            CircusRoad x = withSameActs(n);
            for (int digit = 0; digit < 10; digit++) {
                judged(x, digit, 1, digit < n ? n == 1 ? -1 : 1 : 0, digit < n ? n == 1 ? -1 : 4 : 1);
            }
        }
        CircusRoad full = withSameActs(8);
        broken(full, 86543210, 8, 7, 1);
        broken(full, 96543210, 8, 7, 1);
        broken(full, 76543218, 8, 0, 1);
        broken(full, 76543219, 8, 0, 1);
    }

    private static void digitCameAlready() {
        CHECK.about("terms 1: 1 .. or one that came already");
        CircusRoad x = withSameActs(8);
        broken(x, 6543210, 8, 7, 1);
        broken(x, 66543210, 8, 7, 1);
        broken(x, 77777777, 8, 1, 1);
        broken(x, 0, 8, 1, 1);
        broken(x, 76543211, 8, 1, 1);
        CircusRoad one = withSameActs(1);
        broken(one, 0, 2, 1, 1);
        broken(one, 0, 8, 1, 1);
    }

    private static void restsTooLittle() {
        CHECK.about("terms 1: 2 someone in it RESTS too little");
        CircusRoad x = new CircusRoad();
        x.act(PLAIN, 3, 0);
        x.act(PLAIN, 0, 0);
        x.act(PLAIN, 6, 0);
        x.act(PLAIN, 12, 0);
        // only person 1 is both in 0 and 2, only person 2 both in 2 and 3
        x.rests(0, 3);
        x.rests(3, 3);
        unbroken(x, 2130, 4);
        broken(x, 1320, 4, 1, 2);
        broken(x, 1230, 4, 2, 2);
        x.rests(2, 0);
        unbroken(x, 1230, 4);
        x.rests(1, 2);
        broken(x, 1230, 4, 2, 2);
        x.rests(1, 0);
        unbroken(x, 1320, 4);
    }

    private static void firstPlaceLeastBreak() {
        CHECK.about("terms 1: it breaks at its first place with one, of several there the least");
        CircusRoad x = new CircusRoad();
        x.act(PLAIN, 1, 0);
        x.act(PLAIN, 1, 0);
        x.act(PLAIN, 2, 0);
        x.act(1100, 0, 0);
        x.ban(0, 0, true);
        broken(x, 0, 2, 1, 1);
        broken(x, 10, 2, 1, 2);
        broken(x, 20, 2, 1, 3);
        broken(x, 3210, 4, 1, 2);
        broken(x, 3120, 4, 1, 3);
        broken(x, 9920, 4, 1, 3);
        broken(x, 9910, 4, 1, 2);
        broken(x, 2130, 4, 3, 3);
        broken(x, 130, 3, 3, 4);
        broken(x, 9, 1, 0, 1);
    }

    private static void atItsEnd() {
        CHECK.about("terms 1: 4 at its end (the place behind the last ACT), if it hasn't all ACTS");
        for (int n = 0; n <= 8; n++) {
            CircusRoad x = withSameActs(n);
            int order = 0;
            int digit = 1;
            for (int places = 0; places <= n; places++) {
                if (places < n) {
                    broken(x, order, places, places, 4);
                } else {
                    unbroken(x, order, places);
                }
                order += places * digit;
                digit *= 10;
            }
        }
    }

    private static void highestDigit() {
        CHECK.about("terms 1: a 0 that would be the highest digit counts only if the ORDER is told as having it");
        CircusRoad x = withSameActs(3);
        broken(x, 12, 2, 2, 4);
        unbroken(x, 12, 3);
        broken(x, 12, 4, 3, 1);
        CircusRoad one = withSameActs(1);
        broken(one, 0, 0, 0, 4);
        unbroken(one, 0, 1);
        CircusRoad full = withSameActs(8);
        broken(full, 1234567, 7, 7, 4);
        unbroken(full, 1234567, 8);
        CircusRoad none = withSameActs(0);
        unbroken(none, 0, 0);
        broken(none, 0, 1, 0, 1);
        broken(none, 0, 8, 0, 1);
    }

    private static void ringAtFirst() {
        CHECK.about("terms 1: the RING holds the PROPS of the latest ACT that isn't CLOWNS (none at first)");
        CircusRoad x = new CircusRoad();
        x.act(PLAIN, 0, 255);
        due("gaps(0, 1)", x.gaps(0, 1), 16);
        x.act(PLAIN, 0, 0);
        due("gaps(1, 2)", x.gaps(1, 2), 16);
        due("gaps(10, 2)", x.gaps(10, 2), 32);
        x.act(CLOWNS, 0, 0);
        x.act(CLOWNS, 0, 0);
        x.act(PLAIN, 0, 255);
        due("gaps(43201, 5)", x.gaps(43201, 5), 16);
        due("gaps(14320, 5)", x.gaps(14320, 5), 16 + 16);
        due("gaps(41320, 5)", x.gaps(41320, 5), 16 + 14 + 16);
    }

    private static void gapOfClowns() {
        CHECK.about("terms 1: the GAP ahead of an ACT: of CLOWNS 0");
        CircusRoad x = withActs(CLOWNS, 60300, CLOWNS);
        due("gaps(210, 3)", x.gaps(210, 3), 0);
        bestIs(x, 0, 0, 1, 2);
        CircusRoad y = new CircusRoad();
        y.act(PLAIN, 0, 255);
        y.act(CLOWNS, 0, 0);
        due("gaps(10, 2)", y.gaps(10, 2), 16);
    }

    private static void gapIsZeroAtLeast() {
        CHECK.about("terms 1: less the MINUTES of all CLOWNS .. , 0 at least");
        int[][] dues = {{1, 5}, {5, 1}, {6, 0}, {7, 0}, {60, 0}};
        for (int[] a : dues) {
            CircusRoad x = new CircusRoad();
            x.act(a[0] * 1000 + 300, 0, 0);
            x.act(PLAIN, 0, 7);
            x.act(PLAIN, 0, 56);
            due("gaps(210, 3), " + a[0] + " minutes", x.gaps(210, 3), a[1] + 12);
        }
        CircusRoad same = new CircusRoad();
        same.act(PLAIN, 0, 0);
        same.act(60300, 0, 0);
        same.act(PLAIN, 0, 1);
        due("gaps(201, 3)", same.gaps(201, 3), 2);
        due("gaps(210, 3)", same.gaps(210, 3), 0);
    }

    private static void clownsSinceTheLatestOtherAct() {
        CHECK.about("terms 1: the MINUTES of all CLOWNS since the latest other ACT (or the begin)");
        CircusRoad x = withActs(2300, 3300, 1300);
        x.act(PLAIN, 0, 15);
        x.act(PLAIN, 0, 240);
        due("all at the begin", x.gaps(43210, 5), 2 + 16);
        due("all between", x.gaps(42103, 5), 8 + 10);
        due("all at the end", x.gaps(21043, 5), 8 + 16);
        due("two and one", x.gaps(42310, 5), 3 + 15);
        due("one, one and one", x.gaps(24130, 5), 6 + 13);
    }

    private static void leastGapsAheadOfWorth() {
        CHECK.about("terms 1: those with the least sum of GAPS; of these ..");
        CircusRoad x = new CircusRoad();
        x.act(1099, 0, 1);
        x.act(1000, 0, 3);
        bestIs(x, 4, 0, 1);
        CircusRoad same = new CircusRoad();
        same.act(1099, 0, 1);
        same.act(1000, 0, 2);
        bestIs(same, 6, 1, 0);
    }

    private static void greatestWorthAheadOfNumbers() {
        CHECK.about("terms 1: of these those with the greatest sum of WORTH times place");
        bestIs(withActs(1099, 1098, 1097, 1096, 1095, 1094, 1093, 1092), 0, 7, 6, 5, 4, 3, 2, 1, 0);
        bestIs(withActs(1001, 1000, 1000, 1000, 1000, 1000, 1000, 1000), 0, 1, 2, 3, 4, 5, 6, 7, 0);
        // places 1 and 3 for acts 0 and 1: 3 * 2 + 1 * 5 = 11 against 3 * 5 + 1 * 2 = 17
        CircusRoad x = new CircusRoad();
        x.act(1005, 1, 0);
        x.act(1002, 1, 0);
        x.act(1000, 0, 0);
        bestIs(x, 0, 1, 2, 0);
    }

    private static void leastNumbers() {
        CHECK.about("terms 1: of these the one whose ACTS have the least numbers, from the first on");
        CircusRoad x = new CircusRoad();
        x.act(PLAIN, 1, 0);
        x.act(PLAIN, 1, 0);
        x.act(PLAIN, 0, 0);
        x.act(PLAIN, 0, 0);
        bestIs(x, 0, 0, 2, 1, 3);
        x.ban(0, 1, true);
        x.act(1100, 0, 0);
        bestIs(x, 0, 4, 0, 2, 1, 3);
    }

    private static void newObject() {
        CHECK.about("promise 1: No ACTS, no TOWNS, nothing hangs");
        CircusRoad x = new CircusRoad();
        for (int what = 0; what < 5; what++) {
            due("count(" + what + ")", x.count(what), 0);
        }
        bestIs(x, -1);
        for (int digit = 0; digit < 10; digit++) {
            broken(x, digit, 1, 0, 1);
        }
        for (int i = 0; i < 8; i++) {
            due("part(" + i + ", 0)", x.part(i, 0), 0);
            due("part(" + i + ", 100)", x.part(i, 100), 0);
            due("slack(" + i + ", -100)", x.slack(i, -100), false);
            due("hours(" + i + ", " + i + ")", x.hours(i, i), -1);
            due("foretold(" + i + ", 0, 1)", x.foretold(i, 0, 1), -1);
            due("took(" + i + ", 0, 0)", x.took(i, 0, 0), -1);
            due("routeAt(" + i + ", 0)", x.routeAt(i, 0), -1);
        }
        due("gone(0)", x.gone(0), 0);
        due("gone(100)", x.gone(100), 0);
        due("gone(-100)", x.gone(-100), 0);
        due("route()", x.route(), 0);
    }

    private static void actWhatCantBe() {
        CHECK.about("promise 2: NONE if that can't be");
        CircusRoad x = new CircusRoad();
        int[] wrong = {
            MIN, MIN + 1, -61000, -60399, -1300, -1000, -999, -1, 0, 1, 999, 1400, 1999, 60400, 60999, 61000,
            61300, 100000, 1001000, MAX - 1, MAX,
        };
        for (int what : wrong) {
            refuses(x, what, 0, 0);
        }
        takes(x, 0, 1000, 0, 0);
        takes(x, 1, 1399, 0, 0);
        takes(x, 2, 2000, 0, 0);
        takes(x, 3, 59399, 0, 0);
        takes(x, 4, 60000, 0, 0);
        takes(x, 5, 60399, 0, 0);
    }

    private static void actWhoAndPropsCantBe() {
        CHECK.about("promise 2: NONE if WHO (0 .. 1023) or PROPS (0 .. 255; of CLOWNS 0) can't be");
        CircusRoad x = new CircusRoad();
        int[] noWho = {MIN, -1024, -1023, -1, 1024, 1025, 2047, 65536, MAX};
        for (int who : noWho) {
            refuses(x, PLAIN, who, 0);
            refuses(x, CLOWNS, who, 0);
        }
        int[] noProps = {MIN, -256, -255, -1, 256, 257, 511, 65536, MAX};
        for (int props : noProps) {
            refuses(x, PLAIN, 0, props);
            refuses(x, 1100, 0, props);
            refuses(x, 1200, 0, props);
            refuses(x, CLOWNS, 0, props);
        }
        takes(x, 0, PLAIN, 0, 0);
        takes(x, 1, PLAIN, 1023, 255);
        takes(x, 2, 1100, 1023, 255);
        takes(x, 3, 1200, 1023, 255);
        takes(x, 4, CLOWNS, 1023, 0);
        takes(x, 5, CLOWNS, 0, 0);
    }

    private static void restsNoneSuch() {
        CHECK.about("promise 3: true; false if there is none such, or no such number");
        CircusRoad x = new CircusRoad();
        int[] nobody = {MIN, -10, -1, 10, 11, 31, 32, 33, MAX};
        for (int person : nobody) {
            for (int rest = 0; rest <= 3; rest++) {
                due("rests(" + person + ", " + rest + ")", x.rests(person, rest), false);
            }
        }
        int[] noRest = {MIN, -3, -1, 4, 5, 8, 255, MAX};
        for (int rest : noRest) {
            due("rests(0, " + rest + ")", x.rests(0, rest), false);
            due("rests(9, " + rest + ")", x.rests(9, rest), false);
        }
        for (int person = 0; person < 10; person++) {
            for (int rest = 0; rest <= 3; rest++) {
                due("rests(" + person + ", " + rest + ")", x.rests(person, rest), true);
                due("rests(" + person + ", " + rest + ") again", x.rests(person, rest), true);
            }
        }
    }

    private static void banNoneSuchOrSoAlready() {
        CHECK.about("promise 4: false if there are no such KINDS, or it is so already");
        CircusRoad x = new CircusRoad();
        int[] none = {MIN, -4, -1, 4, 5, 8, 32, MAX};
        for (int kind : none) {
            for (int other = 0; other < 4; other++) {
                due("ban(" + kind + ", " + other + ", true)", x.ban(kind, other, true), false);
                due("ban(" + other + ", " + kind + ", true)", x.ban(other, kind, true), false);
            }
            due("ban(" + kind + ", " + kind + ", true)", x.ban(kind, kind, true), false);
        }
        due("count(2)", x.count(2), 0);
        for (int i = 0; i < 16; i++) {
            due("ban off, that is so already", x.ban(i / 4, i % 4, false), false);
            due("ban on", x.ban(i / 4, i % 4, true), true);
            due("ban on, that is so already", x.ban(i / 4, i % 4, true), false);
            due("count(2)", x.count(2), i + 1);
        }
        for (int kind : none) {
            due("ban(" + kind + ", 0, false)", x.ban(kind, 0, false), false);
            due("ban(0, " + kind + ", false)", x.ban(0, kind, false), false);
        }
        for (int i = 0; i < 16; i++) {
            due("count(2)", x.count(2), 16 - i);
            due("ban off", x.ban(i / 4, i % 4, false), true);
            due("ban off, that is so already", x.ban(i / 4, i % 4, false), false);
        }
        due("count(2)", x.count(2), 0);
    }

    private static void judgeNoneForOthers() {
        CHECK.about("promise 5: what 0 the place, 1 which. NONE for others");
        CircusRoad x = withSameActs(2);
        int[] others = {MIN, -1, 2, 3, 4, MAX};
        for (int what : others) {
            due("judge(9, 1, " + what + ")", x.judge(9, 1, what), -1);
            due("judge(0, 1, " + what + ")", x.judge(0, 1, what), -1);
            due("judge(10, 2, " + what + ")", x.judge(10, 2, what), -1);
        }
        judged(x, 9, 1, 0, 1);
        judged(x, 0, 1, 1, 4);
    }

    private static void judgeBreaksNothing() {
        CHECK.about("promise 5: NONE if it breaks nothing");
        judged(withSameActs(0), 0, 0, -1, -1);
        judged(withSameActs(1), 0, 1, -1, -1);
        judged(withSameActs(8), 76543210, 8, -1, -1);
        judged(withSameActs(8), 1234567, 8, -1, -1);
    }

    private static void judgeWrongPlaces() {
        CHECK.about("promise 5: NONE if n isn't 0 .. 8");
        int[] wrong = {MIN, -8, -1, 9, 10, 11, MAX};
        for (int acts = 0; acts <= 8; acts += 8) {
            CircusRoad x = withSameActs(acts);
            for (int n : wrong) {
                notTold(x, 0, n);
                notTold(x, 9, n);
                notTold(x, 76543210, n);
                notTold(x, MAX, n);
            }
        }
        CircusRoad one = withSameActs(1);
        judged(one, 0, 0, 0, 4);
        judged(one, 0, 8, 1, 1);
    }

    private static void judgeBelowZeroOrMoreDigits() {
        CHECK.about("promise 5: NONE if the ORDER is below 0, or has more digits than n");
        CircusRoad x = withSameActs(1);
        int[] below = {MIN, MIN + 1, -76543210, -10, -9, -1};
        for (int order : below) {
            for (int n = 0; n <= 8; n++) {
                notTold(x, order, n);
            }
        }
        int least = 1;
        for (int n = 0; n <= 8; n++) {
            notTold(x, least, n);
            notTold(x, least + 1, n);
            notTold(x, MAX, n);
            judged(x, least - 1, n, 0, n == 0 ? 4 : 1);
            least *= 10;
        }
    }

    private static void gapsElse() {
        CHECK.about("promise 6: of n places that breaks nothing; NONE else");
        CircusRoad x = new CircusRoad();
        x.act(PLAIN, 1, 1);
        x.act(1100, 1, 1);
        x.act(1200, 0, 1);
        x.ban(0, 2, true);
        due("gaps(21, 3)", x.gaps(21, 3), 2);
        due("gaps(310, 3), break 1", x.gaps(310, 3), -1);
        due("gaps(121, 3), break 1", x.gaps(121, 3), -1);
        due("gaps(21, 4), break 1", x.gaps(21, 4), -1);
        due("gaps(210, 3), break 2", x.gaps(210, 3), -1);
        due("gaps(120, 3), break 3", x.gaps(120, 3), -1);
        due("gaps(21, 2), break 4", x.gaps(21, 2), -1);
        due("gaps(-21, 3)", x.gaps(-21, 3), -1);
        x.rests(0, 0);
        due("gaps(12, 3)", x.gaps(12, 3), 2);
        due("gaps(12, 2)", x.gaps(12, 2), -1);
        due("gaps(12, 4)", x.gaps(12, 4), -1);
        due("gaps(12, 1)", x.gaps(12, 1), -1);
        due("gaps(12, 9)", x.gaps(12, 9), -1);
        due("gaps(12, -3)", x.gaps(12, -3), -1);
        due("gaps(0, 0)", withSameActs(0).gaps(0, 0), 0);
        due("gaps(0, 0) with an act", withSameActs(1).gaps(0, 0), -1);
    }

    private static void bestNone() {
        CHECK.about("promise 7: NONE if there is none (also without ACTS)");
        bestIs(new CircusRoad(), -1);
        CircusRoad refused = new CircusRoad();
        refused.act(999, 0, 0);
        bestIs(refused, -1);
        CircusRoad rules = new CircusRoad();
        rules.rests(0, 0);
        bestIs(rules, -1);
        rules.ban(0, 0, true);
        bestIs(rules, -1);
        for (int n = 1; n <= 8; n++) {
            CircusRoad x = new CircusRoad();
            for (int i = 0; i < n; i++) {
                x.act(PLAIN, 512, 0);
            }
            if (n == 1) {
                bestIs(x, 0, 0);
            } else {
                bestIs(x, -1);
            }
            x.rests(9, 0);
            due("best() of " + n, x.best(), 0);
            x.ban(0, 0, true);
            due("best() of " + n + " behind the BAN", x.best(), n == 1 ? 0 : -1);
        }
    }

    private static void bestAtNoneSuch() {
        CHECK.about("promise 8: the i-th ACT (from 0 on); NONE if there is none such");
        for (int n = 0; n <= 8; n++) {
            CircusRoad x = withSameActs(n);
            int[] places = {MIN, -8, -1, 0, n - 1, n, n + 1, 7, 8, 9, MAX};
            for (int i : places) {
                due("bestAt(" + i + ") of " + n, x.bestAt(i), i >= 0 && i < n ? i : -1);
            }
        }
        CircusRoad none = new CircusRoad();
        none.act(PLAIN, 1, 0);
        none.act(PLAIN, 1, 0);
        due("bestAt(0), every ORDER breaks", none.bestAt(0), -1);
        due("bestAt(1), every ORDER breaks", none.bestAt(1), -1);
    }

    private static void bestAtAsItIsNow() {
        CHECK.about("promise 8: of the BEST ORDER as it is now");
        CircusRoad x = new CircusRoad();
        x.act(1001, 1, 0);
        due("bestAt(0)", x.bestAt(0), 0);
        due("bestAt(1)", x.bestAt(1), -1);
        x.act(1100, 1, 0);
        due("bestAt(0) behind act", x.bestAt(0), -1);
        x.rests(0, 0);
        due("bestAt(0) behind rests", x.bestAt(0), 1);
        x.ban(1, 0, true);
        due("bestAt(0) behind ban", x.bestAt(0), 0);
        x.ban(1, 0, false);
        due("bestAt(0) behind ban off", x.bestAt(0), 1);
        x.rests(0, 1);
        due("bestAt(0) behind rests", x.bestAt(0), -1);
    }
}
