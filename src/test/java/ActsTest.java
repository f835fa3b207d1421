/** Promises 1 to 8, and 22 for acts and bans. */
public final class ActsTest {
    private static final Check CHECK = new Check();

    public static void main(String[] args) {
        newObject();
        act();
        actEdges();
        refusedActChangesNothing();
        rests();
        restsEdges();
        restCountsActsBetween();
        restIsOfEachPerson();
        ban();
        banIsDirected();
        judgeToldOrders();
        judgeTakesTheFirstPlaceAndLeastBreak();
        judgeTheEnd();
        gaps();
        gapsWithClowns();
        bestByGaps();
        bestByWorth();
        bestByNumbers();
        bestAtFollowsChanges();
        bestWithoutAnOrder();
        CHECK.end();
    }

    private static void due(String call, long got, long want) {
        CHECK.due(call, got, want);
    }

    private static void due(String call, boolean got, boolean want) {
        CHECK.due(call, got, want);
    }

    private static void judged(CircusRoad x, int order, int n, int place, int which) {
        due("judge(" + order + ", " + n + ", 0)", x.judge(order, n, 0), place);
        due("judge(" + order + ", " + n + ", 1)", x.judge(order, n, 1), which);
    }

    private static void bestIs(CircusRoad x, int gaps, int... acts) {
        due("best()", x.best(), gaps);
        for (int i = 0; i < acts.length; i++) {
            due("bestAt(" + i + ")", x.bestAt(i), acts[i]);
        }
        due("bestAt behind the last", x.bestAt(acts.length), -1);
    }

    private static void newObject() {
        CHECK.about("1 a new object");
        CircusRoad x = new CircusRoad();
        due("NONE", CircusRoad.NONE, -1);
        due("count(0)", x.count(0), 0);
        due("count(1)", x.count(1), 0);
        due("count(2)", x.count(2), 0);
        due("count(3)", x.count(3), 0);
        due("count(4)", x.count(4), 0);
        due("best()", x.best(), -1);
        due("bestAt(0)", x.bestAt(0), -1);
        due("route()", x.route(), 0);
        due("hours(0, 0)", x.hours(0, 0), -1);
        due("foretold(0, 0, 0)", x.foretold(0, 0, 0), -1);
        for (int rope = 0; rope < 8; rope++) {
            due("part", x.part(rope, 100), 0);
            due("slack", x.slack(rope, -100), false);
        }
        due("gone(-100)", x.gone(-100), 0);
        CircusRoad other = new CircusRoad();
        x.act(1000, 0, 0);
        due("another object's count(0)", other.count(0), 0);
    }

    private static void act() {
        CHECK.about("2 act");
        CircusRoad x = new CircusRoad();
        for (int i = 0; i < 8; i++) {
            due("act", x.act(1000 + i, 0, 0), i);
            due("count(0)", x.count(0), i + 1);
        }
        due("the ninth act", x.act(1000, 0, 0), -1);
        due("count(0)", x.count(0), 8);
    }

    private static void actEdges() {
        CHECK.about("2 act, edges");
        CircusRoad x = new CircusRoad();
        int[][] wrong = {
            {999, 0, 0}, {0, 0, 0}, {-1000, 0, 0}, {-5010, 0, 0}, {61000, 0, 0}, {60400, 0, 0},
            {1400, 0, 0}, {1999, 0, 0}, {5500, 0, 0}, {1000, -1, 0}, {1000, 1024, 0},
            {1000, 0, -1}, {1000, 0, 256}, {1300, 0, 1}, {60399, 0, 128}, {1300, 0, -1},
            {Integer.MAX_VALUE, 0, 0}, {Integer.MIN_VALUE, 0, 0},
            {1000, Integer.MIN_VALUE, 0}, {1000, Integer.MAX_VALUE, 0},
            {1000, 0, Integer.MIN_VALUE}, {1000, 0, Integer.MAX_VALUE},
        };
        for (int[] a : wrong) {
            due("act(" + a[0] + ", " + a[1] + ", " + a[2] + ")", x.act(a[0], a[1], a[2]), -1);
        }
        due("count(0)", x.count(0), 0);
        int[][] right = {
            {1000, 0, 0}, {60099, 1023, 255}, {60199, 1023, 255}, {60299, 1023, 255}, {60399, 1023, 0},
        };
        for (int i = 0; i < right.length; i++) {
            due("act(" + right[i][0] + ")", x.act(right[i][0], right[i][1], right[i][2]), i);
        }
    }

    private static void refusedActChangesNothing() {
        CHECK.about("2 act, refused");
        CircusRoad x = new CircusRoad();
        x.act(5010, 1, 3);
        due("best()", x.best(), 4);
        x.act(5010, 1, 256);
        x.act(61000, 1, 3);
        due("best()", x.best(), 4);
        due("bestAt(1)", x.bestAt(1), -1);
        due("gaps(0, 1)", x.gaps(0, 1), 4);
    }

    private static void rests() {
        CHECK.about("3 rests");
        CircusRoad x = new CircusRoad();
        x.act(1000, 1, 0);
        x.act(1000, 1, 0);
        judged(x, 10, 2, 1, 2);
        due("rests(0, 0)", x.rests(0, 0), true);
        judged(x, 10, 2, -1, -1);
        due("rests(0, 0) again", x.rests(0, 0), true);
        due("rests(0, 1)", x.rests(0, 1), true);
        judged(x, 10, 2, 1, 2);
    }

    private static void restsEdges() {
        CHECK.about("3 rests, edges");
        CircusRoad x = new CircusRoad();
        x.act(1000, 1023, 0);
        x.act(1000, 1023, 0);
        due("rests(-1, 0)", x.rests(-1, 0), false);
        due("rests(10, 0)", x.rests(10, 0), false);
        due("rests(0, -1)", x.rests(0, -1), false);
        due("rests(0, 4)", x.rests(0, 4), false);
        due("rests(min, 0)", x.rests(Integer.MIN_VALUE, 0), false);
        due("rests(max, 0)", x.rests(Integer.MAX_VALUE, 0), false);
        due("rests(0, min)", x.rests(0, Integer.MIN_VALUE), false);
        due("rests(0, max)", x.rests(0, Integer.MAX_VALUE), false);
        for (int person = 0; person < 10; person++) {
            judged(x, 10, 2, 1, 2);
            due("rests(person, 0)", x.rests(person, 0), true);
        }
        judged(x, 10, 2, -1, -1);
        due("rests(9, 3)", x.rests(9, 3), true);
        judged(x, 10, 2, 1, 2);
    }

    private static void restCountsActsBetween() {
        CHECK.about("3 rests, acts between");
        for (int rest = 0; rest <= 3; rest++) {
            CircusRoad x = new CircusRoad();
            x.rests(4, rest);
            x.act(1000, 16, 0);
            for (int i = 1; i < 5; i++) {
                x.act(i == 2 ? 1300 : 1000, 0, 0);
            }
            x.act(1000, 16, 0);
            int[] orders = {432150, 432510, 435210, 453210, 543210};
            for (int between = 0; between < 5; between++) {
                boolean enough = between >= rest;
                judged(x, orders[between], 6, enough ? -1 : between + 1, enough ? -1 : 2);
            }
        }
    }

    private static void restIsOfEachPerson() {
        CHECK.about("3 rests, of each person");
        CircusRoad x = new CircusRoad();
        x.act(1000, 1, 0);
        x.act(1000, 2, 0);
        x.act(1000, 3, 0);
        x.rests(0, 1);
        x.rests(1, 0);
        judged(x, 210, 3, -1, -1);
        x.rests(0, 2);
        judged(x, 210, 3, 2, 2);
        x.rests(0, 1);
        x.rests(1, 1);
        judged(x, 210, 3, 2, 2);
    }

    private static void ban() {
        CHECK.about("4 ban");
        CircusRoad x = new CircusRoad();
        int bans = 0;
        for (int first = 0; first < 4; first++) {
            for (int second = 0; second < 4; second++) {
                due("ban off", x.ban(first, second, false), false);
                due("ban on", x.ban(first, second, true), true);
                due("ban on again", x.ban(first, second, true), false);
                bans++;
                due("count(2)", x.count(2), bans);
            }
        }
        int[] none = {-1, 4, 31, 32, Integer.MIN_VALUE, Integer.MAX_VALUE};
        for (int kind : none) {
            due("ban(" + kind + ", 0, false)", x.ban(kind, 0, false), false);
            due("ban(0, " + kind + ", false)", x.ban(0, kind, false), false);
            due("ban(" + kind + ", 0, true)", x.ban(kind, 0, true), false);
            due("ban(0, " + kind + ", true)", x.ban(0, kind, true), false);
        }
        due("count(2)", x.count(2), 16);
        due("ban(2, 1, false)", x.ban(2, 1, false), true);
        due("ban(2, 1, false) again", x.ban(2, 1, false), false);
        due("count(2)", x.count(2), 15);
    }

    private static void banIsDirected() {
        CHECK.about("4 ban, directed");
        CircusRoad x = new CircusRoad();
        x.act(1100, 0, 0);
        x.act(1200, 0, 0);
        x.act(1300, 0, 0);
        x.ban(1, 2, true);
        judged(x, 210, 3, 1, 3);
        judged(x, 201, 3, -1, -1);
        judged(x, 120, 3, -1, -1);
        x.ban(1, 2, false);
        judged(x, 210, 3, -1, -1);
        x.ban(2, 2, true);
        judged(x, 210, 3, -1, -1);
    }

    private static void judgeToldOrders() {
        CHECK.about("5 judge, what can be told");
        CircusRoad x = new CircusRoad();
        judged(x, 0, 0, -1, -1);
        judged(x, 0, 1, 0, 1);
        judged(x, 1, 0, -1, -1);
        x.act(1000, 0, 0);
        judged(x, 0, 0, 0, 4);
        judged(x, 0, 1, -1, -1);
        judged(x, 0, 2, 1, 1);
        judged(x, 1, 1, 0, 1);
        judged(x, 1, 2, 0, 1);
        judged(x, 5, 0, -1, -1);
        judged(x, 10, 1, -1, -1);
        judged(x, -1, 1, -1, -1);
        judged(x, 0, -1, -1, -1);
        judged(x, 0, 9, -1, -1);
        judged(x, 99999999, 8, 0, 1);
        judged(x, 100000000, 8, -1, -1);
        judged(x, 100000000, 9, -1, -1);
        judged(x, Integer.MAX_VALUE, 8, -1, -1);
        judged(x, Integer.MAX_VALUE, 10, -1, -1);
        judged(x, Integer.MIN_VALUE, 8, -1, -1);
        judged(x, 0, Integer.MAX_VALUE, -1, -1);
        judged(x, 0, Integer.MIN_VALUE, -1, -1);
        due("judge(1, 1, 2)", x.judge(1, 1, 2), -1);
        due("judge(1, 1, -1)", x.judge(1, 1, -1), -1);
        due("judge(1, 1, max)", x.judge(1, 1, Integer.MAX_VALUE), -1);
        due("judge(1, 1, min)", x.judge(1, 1, Integer.MIN_VALUE), -1);
    }

    private static void judgeTakesTheFirstPlaceAndLeastBreak() {
        CHECK.about("5 judge, the first place and the least break");
        CircusRoad x = new CircusRoad();
        x.act(1000, 1, 0);
        x.act(1000, 1, 0);
        x.act(1100, 0, 0);
        x.ban(0, 0, true);
        x.ban(0, 1, true);
        judged(x, 10, 2, 1, 2);
        judged(x, 20, 2, 1, 3);
        judged(x, 0, 2, 1, 1);
        judged(x, 9, 2, 0, 1);
        judged(x, 920, 3, 1, 3);
        judged(x, 910, 3, 1, 2);
        judged(x, 2, 2, 2, 4);
        judged(x, 12, 2, 2, 4);
        judged(x, 102, 3, 2, 2);
        x.rests(0, 0);
        judged(x, 102, 3, 2, 3);
        judged(x, 202, 3, 2, 1);
        judged(x, 3, 4, 0, 1);
        judged(x, 30, 2, 1, 1);
    }

    private static void judgeTheEnd() {
        CHECK.about("5 judge, the end");
        CircusRoad x = new CircusRoad();
        for (int i = 0; i < 8; i++) {
            x.act(1000, 0, 0);
        }
        judged(x, 0, 0, 0, 4);
        judged(x, 7, 1, 1, 4);
        judged(x, 6543210, 7, 7, 4);
        judged(x, 6543217, 8, -1, -1);
        judged(x, 76543210, 8, -1, -1);
        judged(x, 1234567, 7, 7, 4);
        judged(x, 1234567, 8, -1, -1);
        judged(x, 86543210, 8, 7, 1);
    }

    private static void gaps() {
        CHECK.about("6 gaps");
        CircusRoad x = new CircusRoad();
        due("gaps(0, 0)", x.gaps(0, 0), 0);
        due("gaps(0, 1)", x.gaps(0, 1), -1);
        x.act(1000, 0, 255);
        due("gaps(0, 0)", x.gaps(0, 0), -1);
        due("gaps(0, 1)", x.gaps(0, 1), 16);
        x.act(1000, 0, 15);
        due("gaps(10, 2)", x.gaps(10, 2), 24);
        due("gaps(1, 2)", x.gaps(1, 2), 16);
        due("gaps(1, 1)", x.gaps(1, 1), -1);
        due("gaps(10, 1)", x.gaps(10, 1), -1);
        due("gaps(-10, 2)", x.gaps(-10, 2), -1);
        due("gaps(10, 3)", x.gaps(10, 3), -1);
        due("gaps(10, 9)", x.gaps(10, 9), -1);
        due("gaps(10, -1)", x.gaps(10, -1), -1);
        due("gaps(10, max)", x.gaps(10, Integer.MAX_VALUE), -1);
        due("gaps(max, 8)", x.gaps(Integer.MAX_VALUE, 8), -1);
        x.ban(0, 0, true);
        due("gaps(10, 2)", x.gaps(10, 2), -1);
    }

    private static void gapsWithClowns() {
        CHECK.about("6 gaps, clowns");
        CircusRoad x = new CircusRoad();
        x.act(1000, 0, 7);
        x.act(2300, 0, 0);
        x.act(3300, 0, 0);
        x.act(1000, 0, 248);
        due("all clowns first", x.gaps(3021, 4), 1 + 16);
        due("a clown ahead of each", x.gaps(3201, 4), 4 + 13);
        due("all clowns between", x.gaps(3210, 4), 6 + 11);
        due("all clowns last", x.gaps(2130, 4), 6 + 16);
        CircusRoad y = new CircusRoad();
        y.act(60300, 0, 0);
        y.act(1000, 0, 1);
        y.act(1000, 0, 2);
        due("clowns' minutes do not last", y.gaps(210, 3), 4);
        due("the ring is kept over clowns", y.gaps(201, 3), 2);
    }

    private static void bestByGaps() {
        CHECK.about("7 best, 8 bestAt: the least gaps");
        CircusRoad x = new CircusRoad();
        x.act(1000, 0, 1);
        bestIs(x, 2, 0);
        x.act(1099, 0, 240);
        x.act(1000, 0, 3);
        x.act(1000, 0, 112);
        bestIs(x, 16, 0, 2, 3, 1);
        x.act(4300, 0, 0);
        bestIs(x, 12, 0, 2, 4, 3, 1);
        due("bestAt(-1)", x.bestAt(-1), -1);
        due("bestAt(8)", x.bestAt(8), -1);
        due("bestAt(max)", x.bestAt(Integer.MAX_VALUE), -1);
        due("bestAt(min)", x.bestAt(Integer.MIN_VALUE), -1);
    }

    private static void bestByWorth() {
        CHECK.about("7 best, 8 bestAt: the greatest worth times place");
        CircusRoad x = new CircusRoad();
        x.act(1099, 0, 0);
        x.act(1050, 0, 0);
        x.act(1001, 0, 0);
        bestIs(x, 0, 2, 1, 0);
        x.ban(0, 1, true);
        x.act(1170, 0, 0);
        bestIs(x, 0, 3, 2, 1, 0);
    }

    private static void bestByNumbers() {
        CHECK.about("7 best, 8 bestAt: the least numbers");
        CircusRoad x = new CircusRoad();
        for (int i = 0; i < 8; i++) {
            x.act(1007, 0, 9);
        }
        bestIs(x, 4, 0, 1, 2, 3, 4, 5, 6, 7);
    }

    private static void bestAtFollowsChanges() {
        CHECK.about("8 bestAt as it is now");
        CircusRoad x = new CircusRoad();
        x.act(1010, 1, 0);
        x.act(1120, 1, 0);
        x.act(1030, 2, 0);
        bestIs(x, 0, 0, 2, 1);
        x.rests(0, 0);
        bestIs(x, 0, 0, 1, 2);
        x.ban(0, 1, true);
        bestIs(x, 0, 1, 0, 2);
        x.ban(0, 1, false);
        bestIs(x, 0, 0, 1, 2);
        x.rests(0, 2);
        bestIs(x, -1);
        due("bestAt(0)", x.bestAt(0), -1);
        x.act(1000, 0, 0);
        bestIs(x, 0, 0, 3, 2, 1);
        x.act(1040, 0, 0);
        x.rests(0, 0);
        bestIs(x, 0, 3, 0, 1, 2, 4);
    }

    private static void bestWithoutAnOrder() {
        CHECK.about("7 best, 8 bestAt: none");
        CircusRoad x = new CircusRoad();
        x.rests(0, 1);
        x.ban(3, 3, true);
        bestIs(x, -1);
        for (int i = 0; i < 8; i++) {
            x.act(1000, i < 5 ? 512 : 0, 0);
        }
        bestIs(x, -1);
        x.rests(9, 0);
        bestIs(x, 0, 0, 1, 2, 3, 4, 5, 6, 7);
        x.ban(0, 0, true);
        bestIs(x, -1);
    }
}
