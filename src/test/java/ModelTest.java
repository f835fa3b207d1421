/** All promises: long mixed runs of calls, answered by CircusRoad as by PlainCircus. */
public final class ModelTest {
    private static final Check CHECK = new Check();
    private static final int[] ODD = {
        -1, -2, 4, 7, 8, 9, 10, 29, 30, 100, 101, -100, -101, 255, 256, 1023, 1024, 10000, 10001,
        1000000, 1000001, 999, 60399, 61000, Integer.MAX_VALUE, Integer.MIN_VALUE,
    };

    // No step of a mixed run makes more calls than this.
    private static final int MOST_AT_ONCE = 25;

    private final CircusRoad x = new CircusRoad();
    private final PlainCircus plain = new PlainCircus();
    private final int run;
    private long seed;
    private int calls;

    private ModelTest(int run) {
        this.run = run;
        seed = run * 7919L + 17;
    }

    public static void main(String[] args) {
        int factor = args.length > 0 ? Integer.parseInt(args[0]) : 1;
        for (int run = 0; run < 300 * factor && CHECK.wrong() < 20; run++) {
            new ModelTest(run).mixed();
        }
        for (int run = 1000000; run < 1000000 + 300 * factor && CHECK.wrong() < 20; run++) {
            new ModelTest(run).shows();
            new ModelTest(run).tents();
            new ModelTest(run).roads();
        }
        CHECK.end();
    }

    private int below(int bound) {
        seed = seed * 6364136223846793005L + 1442695040888963407L;
        return (int) ((seed >>> 33) % bound);
    }

    private int odd(int usual) {
        return below(25) == 0 ? ODD[below(ODD.length)] : usual;
    }

    private void due(String name, long got, long want, int... args) {
        StringBuilder text = new StringBuilder(name).append('(');
        for (int i = 0; i < args.length; i++) {
            text.append(i > 0 ? ", " : "").append(args[i]);
        }
        calls++;
        CHECK.about("run " + run);
        CHECK.due(text.append(')').toString(), got, want);
    }

    private void due(String name, boolean got, boolean want, int... args) {
        due(name, got ? 1 : 0, want ? 1 : 0, args);
    }

    private void mixed() {
        while (calls + MOST_AT_ONCE <= 512) {
            int which = below(22);
            if (which < 7) {
                showCall(which);
            } else if (which < 13) {
                tentCall(which - 7);
            } else if (which < 18) {
                roadCall(which - 13);
            } else {
                tillCall(which - 18);
            }
        }
    }

    private void showCall(int which) {
        switch (which) {
            case 0 -> act(odd((1 + below(12)) * 1000 + below(4) * 100 + below(100)),
                odd(below(3) == 0 ? 0 : 1 << below(10) | 1 << below(10)), odd(below(256)));
            case 1 -> rests(odd(below(10)), odd(below(4)));
            case 2 -> ban(odd(below(4)), odd(below(4)), below(3) == 0);
            case 3 -> judged(order(), odd(below(4) == 0 ? below(9) : plain.count(0)));
            case 4, 5 -> bestNow();
            default -> counts();
        }
    }

    private void act(int what, int who, int props) {
        int things = what % 1000 / 100 == 3 && below(4) > 0 ? 0 : props;
        due("act", x.act(what, who, things), plain.act(what, who, things), what, who, things);
    }

    private void rests(int person, int number) {
        due("rests", x.rests(person, number), plain.rests(person, number), person, number);
    }

    private void ban(int first, int second, boolean is) {
        due("ban", x.ban(first, second, is), plain.ban(first, second, is), first, second, is ? 1 : 0);
    }

    /** A shuffled order of all acts, now and then with a wrong digit. */
    private int order() {
        int n = plain.count(0);
        int[] row = new int[n];
        for (int i = 0; i < n; i++) {
            int at = below(i + 1);
            row[i] = row[at];
            row[at] = i;
        }
        int order = 0;
        for (int i = n - 1; i >= 0; i--) {
            order = order * 10 + (below(40) == 0 ? below(10) : row[i]);
        }
        return odd(order);
    }

    private void judged(int order, int n) {
        int what = odd(below(2));
        due("judge", x.judge(order, n, 0), plain.judge(order, n, 0), order, n, 0);
        due("judge", x.judge(order, n, 1), plain.judge(order, n, 1), order, n, 1);
        due("judge", x.judge(order, n, what), plain.judge(order, n, what), order, n, what);
        due("gaps", x.gaps(order, n), plain.gaps(order, n), order, n);
    }

    private void bestNow() {
        if (below(2) == 0) {
            due("best", x.best(), plain.best());
        }
        for (int i = -1; i < 9; i++) {
            due("bestAt", x.bestAt(i), plain.bestAt(i), i);
        }
        due("best", x.best(), plain.best());
    }

    private void counts() {
        for (int what = -1; what < 6; what++) {
            due("count", x.count(what), plain.count(what), what);
        }
    }

    private void tentCall(int which) {
        switch (which) {
            case 0 -> load(odd(below(8)), odd(below(300)));
            case 1, 2 -> share(odd(below(8)), odd(below(8)), odd(below(4) == 0 ? 0 : below(60)));
            case 3 -> exposed(odd(below(8)), odd(below(19) - 9));
            default -> settled(odd(below(201) - 100));
        }
    }

    private void load(int point, int load) {
        due("load", x.load(point, load), plain.load(point, load), point, load);
    }

    private void share(int point, int rope, int parts) {
        due("share", x.share(point, rope, parts), plain.share(point, rope, parts), point, rope, parts);
    }

    private void exposed(int rope, int by) {
        due("exposed", x.exposed(rope, by), plain.exposed(rope, by), rope, by);
    }

    private void settled(int wind) {
        for (int rope = -1; rope < 9; rope++) {
            due("part", x.part(rope, wind), plain.part(rope, wind), rope, wind);
            due("slack", x.slack(rope, wind), plain.slack(rope, wind), rope, wind);
        }
        due("gone", x.gone(wind), plain.gone(wind), wind);
    }

    private void roadCall(int which) {
        switch (which) {
            case 0 -> town(odd(below(5) * 100), odd(below(12)), odd(8 + below(12)));
            case 1, 2 -> way(odd(below(8)), odd(below(8)), odd(1 + below(50)));
            case 3 -> hours(odd(below(8)), odd(below(8)));
            default -> routeNow();
        }
    }

    private void town(int take, int first, int last) {
        due("town", x.town(take, first, last), plain.town(take, first, last), take, first, last);
    }

    private void way(int a, int b, int hours) {
        due("way", x.way(a, b, hours), plain.way(a, b, hours), a, b, hours);
    }

    private void hours(int a, int b) {
        due("hours", x.hours(a, b), plain.hours(a, b), a, b);
    }

    private void routeNow() {
        if (below(2) == 0) {
            due("route", x.route(), plain.route());
        }
        for (int i = -1; i < 9; i++) {
            due("routeAt", x.routeAt(i, 0), plain.routeAt(i, 0), i, 0);
            due("routeAt", x.routeAt(i, 1), plain.routeAt(i, 1), i, 1);
        }
        int what = odd(0);
        due("routeAt", x.routeAt(0, what), plain.routeAt(0, what), 0, what);
        due("route", x.route(), plain.route());
    }

    private void tillCall(int which) {
        int town = odd(below(8));
        int day = odd(below(7));
        if (which < 2) {
            int sum = odd(below(2000));
            due("took", x.took(town, day, sum), plain.took(town, day, sum), town, day, sum);
        } else {
            int what = odd(below(2));
            due("foretold", x.foretold(town, day, 0), plain.foretold(town, day, 0), town, day, 0);
            due("foretold", x.foretold(town, day, 1), plain.foretold(town, day, 1), town, day, 1);
            due("foretold", x.foretold(town, day, what), plain.foretold(town, day, what), town, day, what);
        }
    }

    /** Shows with many equal orders, few or none that break nothing, and long or short clowns. */
    private void shows() {
        int n = 1 + below(8);
        int worths = 1 + below(4);
        int props = 1 << below(9);
        int minutes = 1 + below(12);
        int people = 1 + below(10);
        for (int i = 0; i < n; i++) {
            int kind = below(4);
            int who = below(2) == 0 ? 0 : 1 << below(people);
            act((1 + below(minutes)) * 1000 + kind * 100 + below(worths), who, kind == 3 ? 0 : below(props));
        }
        bestNow();
        for (int round = 0; round < 6; round++) {
            rests(below(people), below(4));
            ban(below(4), below(4), below(2) == 0);
            judged(order(), n);
            bestNow();
        }
    }

    /** Tents with small parts, so that ropes go slack one by another. */
    private void tents() {
        int most = 1 + below(20);
        for (int round = 0; round < 9; round++) {
            for (int i = 0; i < 3; i++) {
                share(below(8), below(8), below(most));
                load(below(8), below(most * 3));
                exposed(below(8), below(19) - 9);
            }
            settled(below(21) - 10);
            settled(below(3) - 1);
        }
        counts();
    }

    /** Roads with few or many ways, wide or narrow nights, and equal takes. */
    private void roads() {
        int n = 1 + below(8);
        int takes = 1 + below(3);
        int wide = 1 + below(12);
        int late = 1 + below(18);
        int far = 1 + below(40);
        for (int i = 0; i < n; i++) {
            int first = below(late);
            town(below(takes), first, first + below(wide));
        }
        routeNow();
        for (int round = 0; round < 8; round++) {
            for (int i = 0; i < 3; i++) {
                way(below(n), below(n), 1 + below(far));
            }
            hours(below(n), below(n));
            routeNow();
        }
    }
}
