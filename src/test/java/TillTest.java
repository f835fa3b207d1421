/** Promises 20 to 22. */
public final class TillTest {
    private static final Check CHECK = new Check();
    private static final int MIN = Integer.MIN_VALUE;
    private static final int MAX = Integer.MAX_VALUE;

    public static void main(String[] args) {
        took();
        tookEdges();
        tookAtMost();
        foretoldFromTheNearest();
        foretoldInLowestTerms();
        foretoldEdges();
        count();
        CHECK.end();
    }

    private static void due(String call, long got, long want) {
        CHECK.due(call, got, want);
    }

    private static void foretold(CircusRoad x, int town, int day, int above, int below) {
        due("foretold(" + town + ", " + day + ", 0)", x.foretold(town, day, 0), above);
        due("foretold(" + town + ", " + day + ", 1)", x.foretold(town, day, 1), below);
    }

    private static CircusRoad withTowns(int n) {
        CircusRoad x = new CircusRoad();
        for (int i = 0; i < n; i++) {
            x.town(0, 0, 29);
        }
        return x;
    }

    private static void took() {
        CHECK.about("20 took");
        CircusRoad x = withTowns(8);
        for (int i = 0; i < 56; i++) {
            due("took", x.took(i / 7, i % 7, i), i + 1);
            due("count(4)", x.count(4), i + 1);
        }
        for (int i = 0; i < 56; i++) {
            foretold(x, i / 7, i % 7, i, 1);
        }
    }

    private static void tookEdges() {
        CHECK.about("20 took, edges");
        CircusRoad x = withTowns(2);
        int[][] wrong = {
            {-1, 0, 0}, {2, 0, 0}, {8, 0, 0}, {MIN, 0, 0}, {MAX, 0, 0}, {0, -1, 0}, {0, 7, 0},
            {0, MIN, 0}, {0, MAX, 0}, {0, 0, -1}, {0, 0, 1000001}, {0, 0, MIN}, {0, 0, MAX},
        };
        for (int[] a : wrong) {
            due("took(" + a[0] + ", " + a[1] + ", " + a[2] + ")", x.took(a[0], a[1], a[2]), -1);
        }
        due("count(4)", x.count(4), 0);
        foretold(x, 0, 0, 0, 1);
        due("took(1, 6, 0)", x.took(1, 6, 0), 1);
        due("took(0, 0, 1000000)", x.took(0, 0, 1000000), 2);
        foretold(x, 0, 0, 1000000, 1);
    }

    private static void tookAtMost() {
        CHECK.about("20 took, at most 500");
        CircusRoad x = withTowns(1);
        for (int i = 1; i <= 500; i++) {
            due("took", x.took(0, 3, i == 500 ? 999999 : 1000000), i);
        }
        due("took the 501st", x.took(0, 3, 1), -1);
        due("count(4)", x.count(4), 500);
        foretold(x, 0, 3, 499999999, 500);
    }

    private static void foretoldFromTheNearest() {
        CHECK.about("21 foretold");
        CircusRoad x = withTowns(4);
        foretold(x, 3, 6, 0, 1);
        x.took(0, 0, 10);
        foretold(x, 3, 6, 10, 1);
        x.took(0, 6, 21);
        foretold(x, 3, 6, 21, 1);
        x.took(1, 6, 30);
        foretold(x, 3, 6, 51, 2);
        x.took(3, 0, 7);
        foretold(x, 3, 6, 7, 1);
        x.took(3, 1, 8);
        foretold(x, 3, 6, 15, 2);
        x.took(3, 6, 0);
        foretold(x, 3, 6, 0, 1);
        foretold(x, 3, 5, 5, 1);
        foretold(x, 2, 6, 17, 1);
        foretold(x, 2, 2, 38, 3);
        foretold(x, 0, 6, 21, 1);
    }

    private static void foretoldInLowestTerms() {
        CHECK.about("21 foretold, lowest terms");
        CircusRoad x = withTowns(1);
        x.took(0, 0, 6);
        x.took(0, 0, 0);
        x.took(0, 0, 0);
        x.took(0, 0, 0);
        foretold(x, 0, 0, 3, 2);
        x.took(0, 0, 0);
        x.took(0, 0, 0);
        foretold(x, 0, 0, 1, 1);
        x.took(0, 0, 1);
        foretold(x, 0, 0, 1, 1);
        x.took(0, 0, 1);
        foretold(x, 0, 0, 1, 1);
        x.took(0, 0, 1);
        foretold(x, 0, 0, 1, 1);
        x.took(0, 0, 0);
        foretold(x, 0, 0, 9, 10);
        CircusRoad y = withTowns(1);
        y.took(0, 1, 0);
        y.took(0, 1, 0);
        y.took(0, 1, 0);
        foretold(y, 0, 1, 0, 1);
    }

    private static void foretoldEdges() {
        CHECK.about("21 foretold, edges");
        CircusRoad x = withTowns(1);
        x.took(0, 0, 5);
        int[] noTowns = {-1, 1, 8, MIN, MAX};
        for (int town : noTowns) {
            foretold(x, town, 0, -1, -1);
        }
        int[] noDays = {-1, 7, MIN, MAX};
        for (int day : noDays) {
            foretold(x, 0, day, -1, -1);
        }
        int[] noWhats = {-1, 2, MIN, MAX};
        for (int what : noWhats) {
            due("foretold(0, 0, " + what + ")", x.foretold(0, 0, what), -1);
        }
        foretold(x, 0, 0, 5, 1);
    }

    private static void count() {
        CHECK.about("22 count");
        CircusRoad x = withTowns(2);
        x.act(1000, 0, 0);
        x.act(1000, 0, 0);
        x.act(1000, 0, 0);
        x.ban(0, 1, true);
        x.exposed(0, 1);
        x.exposed(1, 1);
        x.share(0, 3, 1);
        x.share(0, 4, 1);
        x.took(0, 0, 0);
        x.took(0, 0, 0);
        x.took(0, 0, 0);
        x.took(1, 1, 1);
        x.took(1, 1, 1);
        due("count(0)", x.count(0), 3);
        due("count(1)", x.count(1), 2);
        due("count(2)", x.count(2), 1);
        due("count(3)", x.count(3), 4);
        due("count(4)", x.count(4), 5);
        int[] others = {-1, 5, MIN, MAX};
        for (int what : others) {
            due("count(" + what + ")", x.count(what), -1);
        }
    }
}
