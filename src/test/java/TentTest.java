/** Promises 9 to 14, and 22 for ropes that are up. */
public final class TentTest {
    private static final Check CHECK = new Check();
    private static final int MIN = Integer.MIN_VALUE;
    private static final int MAX = Integer.MAX_VALUE;

    public static void main(String[] args) {
        load();
        share();
        shareTogether();
        exposed();
        part();
        partsAreSpread();
        leftOverGoesToTheFirst();
        slackRopesGetNothing();
        slack();
        gone();
        greatest();
        up();
        CHECK.end();
    }

    private static void due(String call, long got, long want) {
        CHECK.due(call, got, want);
    }

    private static void due(String call, boolean got, boolean want) {
        CHECK.due(call, got, want);
    }

    private static void partsAre(CircusRoad x, int wind, int... parts) {
        for (int rope = 0; rope < parts.length; rope++) {
            due("part(" + rope + ", " + wind + ")", x.part(rope, wind), parts[rope]);
        }
    }

    private static void load() {
        CHECK.about("9 load");
        CircusRoad x = new CircusRoad();
        for (int point = 0; point < 8; point++) {
            due("share", x.share(point, point, 1), true);
            due("load", x.load(point, 10000 - point), true);
            due("part", x.part(point, 0), 10000 - point);
        }
        int[][] wrong = {{-1, 0}, {8, 0}, {MIN, 0}, {MAX, 0}, {0, -1}, {0, 10001}, {0, MIN}, {0, MAX}};
        for (int[] a : wrong) {
            due("load(" + a[0] + ", " + a[1] + ")", x.load(a[0], a[1]), false);
        }
        due("part(0, 0)", x.part(0, 0), 10000);
        due("load(0, 0)", x.load(0, 0), true);
        due("load(0, 0) again", x.load(0, 0), true);
        due("part(0, 0)", x.part(0, 0), 0);
    }

    private static void share() {
        CHECK.about("10 share");
        CircusRoad x = new CircusRoad();
        x.load(7, 10);
        due("share(7, 7, 100)", x.share(7, 7, 100), true);
        due("part(7, 0)", x.part(7, 0), 1000);
        int[][] wrong = {
            {-1, 0, 0}, {8, 0, 0}, {0, -1, 0}, {0, 8, 0}, {0, 0, -1}, {0, 0, 101}, {MIN, 0, 0}, {MAX, 0, 0},
            {0, MIN, 0}, {0, MAX, 0}, {0, 0, MIN}, {0, 0, MAX}, {7, 6, -1}, {7, 6, 1}, {7, 6, MAX},
        };
        for (int[] a : wrong) {
            due("share(" + a[0] + ", " + a[1] + ", " + a[2] + ")", x.share(a[0], a[1], a[2]), false);
        }
        due("part(7, 0)", x.part(7, 0), 1000);
        due("part(6, 0)", x.part(6, 0), 0);
        due("count(3)", x.count(3), 1);
        due("share(7, 6, 0)", x.share(7, 6, 0), true);
        due("share(7, 7, 100) again", x.share(7, 7, 100), true);
    }

    private static void shareTogether() {
        CHECK.about("10 share, together");
        CircusRoad x = new CircusRoad();
        due("share(0, 0, 50)", x.share(0, 0, 50), true);
        due("share(0, 7, 50)", x.share(0, 7, 50), true);
        due("share(0, 0, 51)", x.share(0, 0, 51), false);
        due("share(0, 3, 1)", x.share(0, 3, 1), false);
        due("share(0, 0, 49)", x.share(0, 0, 49), true);
        due("share(0, 3, 1)", x.share(0, 3, 1), true);
        due("share(0, 3, 2)", x.share(0, 3, 2), false);
        due("share(1, 0, 100)", x.share(1, 0, 100), true);
        x.load(0, 100);
        x.load(1, 1);
        partsAre(x, 0, 5000, 0, 0, 100, 0, 0, 0, 5000);
    }

    private static void exposed() {
        CHECK.about("11 exposed");
        CircusRoad x = new CircusRoad();
        for (int by = -9; by <= 9; by++) {
            int rope = Math.floorMod(by, 8);
            due("exposed", x.exposed(rope, by), true);
            due("part", x.part(rope, by), 100 * by * by);
            due("exposed", x.exposed(rope, 0), true);
        }
        int[][] wrong = {{-1, 1}, {8, 1}, {MIN, 1}, {MAX, 1}, {0, -10}, {0, 10}, {0, MIN}, {0, MAX}};
        for (int[] a : wrong) {
            due("exposed(" + a[0] + ", " + a[1] + ")", x.exposed(a[0], a[1]), false);
        }
        due("count(3)", x.count(3), 0);
    }

    private static void part() {
        CHECK.about("12 part");
        CircusRoad x = new CircusRoad();
        x.load(0, 3);
        x.load(1, 5);
        x.share(0, 2, 10);
        x.share(1, 2, 20);
        x.exposed(2, 4);
        due("part(2, 0)", x.part(2, 0), 130);
        due("part(2, 100)", x.part(2, 100), 40130);
        due("part(3, 100)", x.part(3, 100), 0);
        int[][] wrong = {{-1, 0}, {8, 0}, {MIN, 0}, {MAX, 0}, {2, 101}, {2, -101}, {2, MIN}, {2, MAX}};
        for (int[] a : wrong) {
            due("part(" + a[0] + ", " + a[1] + ")", x.part(a[0], a[1]), -1);
        }
    }

    private static CircusRoad hung(int... parts) {
        CircusRoad x = new CircusRoad();
        for (int rope = 0; rope < parts.length; rope++) {
            x.share(rope, rope, 1);
            x.load(rope, parts[rope]);
        }
        return x;
    }

    private static void partsAreSpread() {
        CHECK.about("12 part, spread");
        CircusRoad x = hung(1000, 1000, 1000);
        x.exposed(1, -9);
        partsAre(x, 2, 600, 0, 600, 0);
        due("slack(0, 2)", x.slack(0, 2), false);
        due("slack(1, 2)", x.slack(1, 2), true);
        due("slack(2, 2)", x.slack(2, 2), false);
        partsAre(x, 1, 1000, 100, 1000);
        due("slack(1, 1)", x.slack(1, 1), false);
        partsAre(x, -1, 1000, 1900, 1000);
        partsAre(x, 3, 150, 0, 150);
    }

    private static void leftOverGoesToTheFirst() {
        CHECK.about("12 part, what is left over");
        CircusRoad x = hung(1000, 1000, 99, 1000, 1000);
        x.exposed(2, -1);
        partsAre(x, 1, 999, 1000, 0, 1000, 1000, 0, 0, 0);
        x.load(2, 97);
        partsAre(x, 1, 999, 999, 0, 999, 1000);
        x.load(2, 96);
        partsAre(x, 1, 999, 999, 0, 999, 999);
        x.load(2, 95);
        partsAre(x, 1, 998, 999, 0, 999, 999);
    }

    private static void slackRopesGetNothing() {
        CHECK.about("12 part, the least number goes slack first");
        CircusRoad x = hung(50, 95, 10, 1000);
        x.exposed(0, -1);
        x.exposed(1, -1);
        // -50 goes as -17 -17 -16; then -22 as -11 -11; then -18 whole
        partsAre(x, 1, 0, 0, 0, 1000 - 16 - 11 - 18);
        due("slack(2, 1)", x.slack(2, 1), true);
        due("slack(3, 1)", x.slack(3, 1), false);
        due("gone(1)", x.gone(1), 0);
        CircusRoad y = hung(1, 0, 1);
        y.exposed(1, -1);
        // -100 goes as -50 -50; then -49 whole to rope 2, which is left with -98
        partsAre(y, 1, 0, 0, 0);
        due("gone(1)", y.gone(1), -98);
    }

    private static void slack() {
        CHECK.about("13 slack");
        CircusRoad x = hung(100, 0);
        x.exposed(1, -1);
        due("slack(0, 1)", x.slack(0, 1), false);
        due("slack(1, 1)", x.slack(1, 1), true);
        partsAre(x, 1, 0, 0);
        due("gone(1)", x.gone(1), 0);
        due("slack(1, 0)", x.slack(1, 0), false);
        due("slack(1, -1)", x.slack(1, -1), false);
        due("slack(0, 2)", x.slack(0, 2), true);
        due("slack(1, 2)", x.slack(1, 2), true);
        due("slack(2, 2), that isn't up", x.slack(2, 2), false);
        due("slack(1, 1) again", x.slack(1, 1), true);
        int[][] wrong = {{-1, 1}, {8, 1}, {MIN, 1}, {MAX, 1}, {1, 101}, {1, -101}, {1, MIN}, {1, MAX}};
        for (int[] a : wrong) {
            due("slack(" + a[0] + ", " + a[1] + ")", x.slack(a[0], a[1]), false);
        }
    }

    private static void gone() {
        CHECK.about("14 gone");
        CircusRoad x = hung(100, 0);
        x.exposed(1, -1);
        due("gone(2)", x.gone(2), -100);
        due("gone(1)", x.gone(1), 0);
        due("gone(100)", x.gone(100), -9900);
        due("gone(-100)", x.gone(-100), 0);
        due("gone(101)", x.gone(101), 0);
        due("gone(-101)", x.gone(-101), 0);
        due("gone(max)", x.gone(MAX), 0);
        due("gone(min)", x.gone(MIN), 0);
        x.exposed(0, 9);
        due("gone(2)", x.gone(2), 0);
    }

    private static void greatest() {
        CHECK.about("12 part, the greatest");
        CircusRoad x = new CircusRoad();
        for (int point = 0; point < 8; point++) {
            x.load(point, 10000);
            x.share(point, 5, 100);
        }
        x.exposed(5, 9);
        due("part(5, 100)", x.part(5, 100), 8090000);
        due("part(5, -100)", x.part(5, -100), 7910000);
        CircusRoad y = new CircusRoad();
        for (int rope = 0; rope < 8; rope++) {
            y.exposed(rope, -9);
        }
        due("gone(100)", y.gone(100), -720000);
        due("gone(-100)", y.gone(-100), 0);
    }

    private static void up() {
        CHECK.about("22 count, ropes that are up");
        CircusRoad x = new CircusRoad();
        x.load(0, 100);
        due("count(3)", x.count(3), 0);
        x.share(1, 0, 1);
        due("count(3), by a share of a point without load", x.count(3), 1);
        x.share(2, 0, 1);
        x.exposed(0, 1);
        due("count(3)", x.count(3), 1);
        x.exposed(7, -1);
        due("count(3)", x.count(3), 2);
        x.share(1, 0, 0);
        x.share(2, 0, 0);
        due("count(3)", x.count(3), 2);
        x.exposed(0, 0);
        due("count(3)", x.count(3), 1);
        x.part(7, 100);
        due("count(3), a slack rope is up", x.count(3), 1);
        // a rope that is up takes a part of what is below 0, even if it bore nothing
        x.share(3, 2, 5);
        due("part(7, 1)", x.part(7, 1), 0);
        due("gone(1)", x.gone(1), -100);
        due("slack(2, 1)", x.slack(2, 1), true);
        due("slack(3, 1)", x.slack(3, 1), false);
    }
}
