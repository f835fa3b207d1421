/** Every sentence of the term 4 and of promises 20 to 22 that names a bound, told in the test's text. */
public final class TillBoundsTest {
    private static final Check CHECK = new Check();
    private static final int MIN = Integer.MIN_VALUE;
    private static final int MAX = Integer.MAX_VALUE;
    private static final int[] NO_DAY = {MIN, -7, -1, 7, 8, 14, 256, MAX};
    private static final int[] NO_SUM = {MIN, -1000000, -1, 1000001, 2000000, MAX};

    public static void main(String[] args) {
        terms();
        promises();
        CHECK.end();
    }

    private static void terms() {
        days();
        ofTheTownOnThatDay();
        elseOfTheTownOnAnyDay();
        elseOfAllTownsOnThatDay();
        elseOfAll();
        withoutAny();
        takingsOfZeroAreTakings();
        inLowestTerms();
        greatestSum();
    }

    private static void promises() {
        tookHowOften();
        tookNoSuchTownOrDay();
        tookNoSuchSum();
        tookFiveHundred();
        foretoldNoneForOthers();
        foretoldNoSuchTownOrDay();
        countNoneForOthers();
        countOfEach();
        fiveHundredAndTwelveCalls();
    }

    private static void due(String call, long got, long want) {
        CHECK.due(call, got, want);
    }

    private static void told(CircusRoad x, int town, int day, int sum, int want) {
        due("took(" + town + ", " + day + ", " + sum + ")", x.took(town, day, sum), want);
    }

    private static void foretold(CircusRoad x, int town, int day, int above, int below) {
        due("foretold(" + town + ", " + day + ", 0)", x.foretold(town, day, 0), above);
        due("foretold(" + town + ", " + day + ", 1)", x.foretold(town, day, 1), below);
    }

    private static CircusRoad withTowns(int n) {
        CircusRoad x = new CircusRoad();
        for (int i = 0; i < n; i++) {
            x.town(0, 0, 29);
        }
        return x;
    }

    private static void days() {
        CHECK.about("terms 4: TAKINGS are told for a TOWN and a DAY (0 .. 6)");
        CircusRoad x = withTowns(8);
        for (int i = 0; i < 56; i++) {
            told(x, i / 7, i % 7, 1000 + i, i + 1);
        }
        for (int i = 0; i < 56; i++) {
            foretold(x, i / 7, i % 7, 1000 + i, 1);
        }
        for (int town = 0; town < 8; town++) {
            told(x, town, -1, 5, -1);
            told(x, town, 7, 5, -1);
        }
        due("count(4)", x.count(4), 56);
    }

    private static void ofTheTownOnThatDay() {
        CHECK.about("terms 4: FORETOLD: of all TAKINGS of the TOWN on that DAY");
        CircusRoad x = withTowns(2);
        told(x, 0, 0, 10, 1);
        told(x, 0, 1, 100, 2);
        told(x, 1, 0, 1000, 3);
        foretold(x, 0, 0, 10, 1);
        told(x, 0, 0, 11, 4);
        foretold(x, 0, 0, 21, 2);
        told(x, 0, 0, 12, 5);
        foretold(x, 0, 0, 11, 1);
    }

    private static void elseOfTheTownOnAnyDay() {
        CHECK.about("terms 4: else of the TOWN on any DAY");
        for (int day = 0; day < 7; day++) {
            CircusRoad x = withTowns(2);
            told(x, 1, 3, 1000, 1);
            told(x, 0, day, 7, 2);
            for (int other = 0; other < 7; other++) {
                foretold(x, 0, other, 7, 1);
            }
            told(x, 0, (day + 1) % 7, 8, 3);
            foretold(x, 0, (day + 2) % 7, 15, 2);
        }
    }

    private static void elseOfAllTownsOnThatDay() {
        CHECK.about("terms 4: else of all TOWNS on that DAY");
        for (int town = 0; town < 8; town++) {
            int asked = (town + 1) % 8;
            CircusRoad x = withTowns(8);
            for (int day = 0; day < 7; day++) {
                told(x, town, day, 9 + day, day + 1);
            }
            for (int day = 0; day < 7; day++) {
                foretold(x, asked, day, 9 + day, 1);
            }
            told(x, (town + 2) % 8, 6, 10, 8);
            foretold(x, asked, 6, 25, 2);
            foretold(x, asked, 0, 9, 1);
            foretold(x, town, 6, 15, 1);
        }
    }

    private static void elseOfAll() {
        CHECK.about("terms 4: else of all");
        for (int town = 0; town < 8; town++) {
            for (int day = 0; day < 7; day++) {
                CircusRoad x = withTowns(8);
                told(x, town, day, 8, 1);
                foretold(x, (town + 1) % 8, (day + 1) % 7, 8, 1);
                told(x, (town + 2) % 8, (day + 2) % 7, 3, 2);
                foretold(x, (town + 1) % 8, (day + 1) % 7, 11, 2);
            }
        }
    }

    private static void withoutAny() {
        CHECK.about("terms 4: 0 by 1 without any");
        CircusRoad x = withTowns(8);
        for (int i = 0; i < 56; i++) {
            foretold(x, i / 7, i % 7, 0, 1);
        }
        told(x, 8, 0, 5, -1);
        told(x, 0, 7, 5, -1);
        told(x, 0, 0, 1000001, -1);
        foretold(x, 0, 0, 0, 1);
    }

    private static void takingsOfZeroAreTakings() {
        CHECK.about("terms 4: of all TAKINGS of the TOWN on that DAY, else .., also of TAKINGS that are 0");
        CircusRoad x = withTowns(3);
        told(x, 1, 1, 100, 1);
        told(x, 2, 0, 40, 2);
        foretold(x, 0, 2, 70, 1);
        told(x, 2, 2, 0, 3);
        foretold(x, 0, 2, 0, 1);
        told(x, 1, 2, 1, 4);
        foretold(x, 0, 2, 1, 2);
        told(x, 0, 3, 0, 5);
        foretold(x, 0, 2, 0, 1);
        told(x, 0, 4, 3, 6);
        foretold(x, 0, 2, 3, 2);
        told(x, 0, 2, 0, 7);
        foretold(x, 0, 2, 0, 1);
    }

    private static void inLowestTerms() {
        CHECK.about("terms 4: their sum by how many there are, in lowest terms");
        CircusRoad x = withTowns(1);
        told(x, 0, 0, 12, 1);
        foretold(x, 0, 0, 12, 1);
        int[][] terms = {{6, 1}, {4, 1}, {3, 1}, {12, 5}, {2, 1}, {12, 7}, {3, 2}, {4, 3}, {6, 5}, {12, 11}, {1, 1}, {12, 13}};
        for (int i = 0; i < terms.length; i++) {
            told(x, 0, 0, 0, i + 2);
            foretold(x, 0, 0, terms[i][0], terms[i][1]);
        }
        CircusRoad zeros = withTowns(1);
        for (int i = 1; i <= 20; i++) {
            told(zeros, 0, 5, 0, i);
            foretold(zeros, 0, 5, 0, 1);
        }
    }

    private static void greatestSum() {
        CHECK.about("terms 4: their sum, the greatest");
        CircusRoad x = withTowns(2);
        for (int i = 1; i <= 500; i++) {
            told(x, 0, 0, i == 1 ? 999999 : 1000000, i);
        }
        foretold(x, 0, 0, 499999999, 500);
        foretold(x, 1, 1, 499999999, 500);
        CircusRoad y = withTowns(1);
        for (int i = 1; i <= 499; i++) {
            told(y, 0, 0, 1000000, i);
        }
        foretold(y, 0, 0, 1000000, 1);
        told(y, 0, 0, 0, 500);
        foretold(y, 0, 0, 998000, 1);
    }

    private static void tookHowOften() {
        CHECK.about("promise 20: how often there were (of all)");
        CircusRoad x = withTowns(3);
        told(x, 0, 0, 5, 1);
        told(x, 1, 1, 5, 2);
        told(x, 2, 6, 5, 3);
        told(x, 3, 6, 5, -1);
        told(x, 0, 0, 5, 4);
    }

    private static void tookNoSuchTownOrDay() {
        CHECK.about("promise 20: NONE if there is no such TOWN or DAY");
        for (int n = 0; n <= 8; n++) {
            CircusRoad x = withTowns(n);
            int[] none = {MIN, -8, -1, n, n + 1, 8, 9, MAX};
            for (int town : none) {
                told(x, town, 0, 0, -1);
                told(x, town, 6, 1000000, -1);
            }
            for (int day : NO_DAY) {
                told(x, 0, day, 0, -1);
                told(x, n - 1, day, 1000000, -1);
            }
            due("count(4)", x.count(4), 0);
            if (n > 0) {
                told(x, n - 1, 6, 1, 1);
                told(x, 0, 0, 1, 2);
            }
        }
    }

    private static void tookNoSuchSum() {
        CHECK.about("promise 20: NONE if it isn't 0 .. 1000000");
        CircusRoad x = withTowns(1);
        for (int sum : NO_SUM) {
            told(x, 0, 0, sum, -1);
        }
        due("count(4)", x.count(4), 0);
        told(x, 0, 0, 0, 1);
        foretold(x, 0, 0, 0, 1);
        told(x, 0, 1, 1000000, 2);
        foretold(x, 0, 1, 1000000, 1);
        for (int sum : NO_SUM) {
            told(x, 0, 0, sum, -1);
        }
        foretold(x, 0, 0, 0, 1);
        foretold(x, 0, 2, 500000, 1);
    }

    private static void tookFiveHundred() {
        CHECK.about("promise 20: NONE if 500 came");
        CircusRoad x = withTowns(2);
        for (int i = 1; i <= 500; i++) {
            told(x, 0, i % 7, 1, i);
        }
        told(x, 0, 0, 1000000, -1);
        told(x, 1, 0, 1000000, -1);
        due("count(4)", x.count(4), 500);
        foretold(x, 0, 0, 1, 1);
        foretold(x, 1, 0, 1, 1);
    }

    private static void foretoldNoneForOthers() {
        CHECK.about("promise 21: above the line (what 0), or below it (1); NONE for others");
        CircusRoad x = withTowns(1);
        int[] others = {MIN, -1, 2, 3, 4, MAX};
        for (int what : others) {
            due("foretold(0, 0, " + what + ")", x.foretold(0, 0, what), -1);
        }
        told(x, 0, 0, 5, 1);
        for (int what : others) {
            due("foretold(0, 0, " + what + ")", x.foretold(0, 0, what), -1);
        }
        foretold(x, 0, 0, 5, 1);
    }

    private static void foretoldNoSuchTownOrDay() {
        CHECK.about("promise 21: NONE if there is no such TOWN or DAY");
        for (int n = 0; n <= 8; n++) {
            CircusRoad x = withTowns(n);
            x.took(0, 0, 5);
            int[] none = {MIN, -8, -1, n, n + 1, 8, 9, MAX};
            for (int town : none) {
                foretold(x, town, 0, -1, -1);
                foretold(x, town, 6, -1, -1);
            }
            for (int day : NO_DAY) {
                foretold(x, 0, day, -1, -1);
                foretold(x, n - 1, day, -1, -1);
            }
            if (n > 0) {
                foretold(x, n - 1, 6, 5, 1);
            }
        }
    }

    private static void countNoneForOthers() {
        CHECK.about("promise 22: NONE for others");
        CircusRoad x = withTowns(8);
        int[] others = {MIN, MIN + 1, -5, -1, 5, 6, 256, MAX};
        for (int what : others) {
            due("count(" + what + ")", x.count(what), -1);
        }
    }

    private static void countOfEach() {
        CHECK.about("promise 22: 0 ACTS, 1 TOWNS, 2 BANS, 3 ROPES that are UP, 4 TAKINGS that were told");
        CircusRoad x = new CircusRoad();
        for (int i = 0; i < 9; i++) {
            due("count(0)", x.count(0), Math.min(i, 8));
            due("count(1)", x.count(1), Math.min(i, 8));
            due("count(2)", x.count(2), i);
            due("count(3)", x.count(3), Math.min(i, 8));
            due("count(4)", x.count(4), i);
            x.act(1000, 0, 0);
            x.town(0, 0, 0);
            x.ban(i / 4, i % 4, true);
            x.exposed(i, 1);
            x.took(0, 0, 0);
        }
        x.ban(0, 0, true);
        x.ban(3, 3, false);
        due("count(2)", x.count(2), 9);
        x.ban(0, 0, false);
        due("count(2)", x.count(2), 8);
        x.exposed(0, 0);
        due("count(3)", x.count(3), 7);
    }

    private static void fiveHundredAndTwelveCalls() {
        CHECK.about("an object is used for at most 512 calls");
        CircusRoad x = new CircusRoad();
        x.town(0, 0, 29);
        x.town(0, 0, 29);
        for (int i = 1; i <= 500; i++) {
            told(x, 0, 0, 1, i);
        }
        x.way(0, 1, 1);
        x.act(1000, 1, 1);
        x.act(1000, 1, 1);
        x.exposed(0, 1);
        due("call 507", x.best(), -1);
        due("call 508", x.route(), 2);
        due("call 509", x.gone(-1), -100);
        due("call 510", x.took(0, 0, 1), -1);
        due("call 511", x.count(4), 500);
        due("call 512", x.foretold(1, 6, 0), 1);
    }
}
