/** Every sentence of the term 3 and of promises 15 to 19 that names a bound, told in the test's text. */
public final class RoadBoundsTest {
    private static final Check CHECK = new Check();
    private static final int MIN = Integer.MIN_VALUE;
    private static final int MAX = Integer.MAX_VALUE;

    public static void main(String[] args) {
        terms();
        rows();
        promises();
        CHECK.end();
    }

    private static void terms() {
        atMostEightTowns();
        takes();
        nights();
        wayHours();
        leastHoursByOtherTowns();
        begunTen();
        begunTenOfTheWholeWay();
    }

    private static void rows() {
        eachOnce();
        firstOnItsFirstNight();
        firstNightOnWhichItCanBe();
        onOneOfItsOwn();
        notBehindTheLastNightOfAll();
        townPassedIsNotPlayed();
        mostTownsAheadOfTakes();
        greatestTakesAheadOfNumbers();
        leastNumbers();
    }

    private static void promises() {
        townTakeOrNightsCantBe();
        townLastAheadOfFirst();
        wayNoSuchTown();
        wayBothAreOne();
        wayNoSuchHours();
        wayHasOtherHours();
        hoursOfOne();
        hoursNoneSuch();
        hoursNoWay();
        routeOfNoneToEight();
        routeAtNoneForOthers();
        routeAtNoneSuch();
        countOfTowns();
    }

    private static void due(String call, long got, long want) {
        CHECK.due(call, got, want);
    }

    private static void comes(CircusRoad x, int number, int take, int first, int last) {
        due("town(" + take + ", " + first + ", " + last + ")", x.town(take, first, last), number);
    }

    private static void refuses(CircusRoad x, int take, int first, int last) {
        int before = x.count(1);
        comes(x, -1, take, first, last);
        due("count(1)", x.count(1), before);
    }

    private static void joins(CircusRoad x, int a, int b, int hours, boolean want) {
        CHECK.due("way(" + a + ", " + b + ", " + hours + ")", x.way(a, b, hours), want);
    }

    /** Both ways about. */
    private static void far(CircusRoad x, int a, int b, int hours) {
        due("hours(" + a + ", " + b + ")", x.hours(a, b), hours);
        due("hours(" + b + ", " + a + ")", x.hours(b, a), hours);
    }

    private static CircusRoad withTowns(int n) {
        CircusRoad x = new CircusRoad();
        for (int i = 0; i < n; i++) {
            x.town(0, 0, 29);
        }
        return x;
    }

    /** Towns and nights by turns. */
    private static void routeIs(CircusRoad x, int... row) {
        due("route()", x.route(), row.length / 2);
        for (int i = 0; i < 9; i++) {
            boolean is = i < row.length / 2;
            due("routeAt(" + i + ", 0)", x.routeAt(i, 0), is ? row[2 * i] : -1);
            due("routeAt(" + i + ", 1)", x.routeAt(i, 1), is ? row[2 * i + 1] : -1);
        }
    }

    private static void atMostEightTowns() {
        CHECK.about("terms 3: TOWNS have numbers as they come (at most 8)");
        CircusRoad x = new CircusRoad();
        for (int i = 0; i < 8; i++) {
            comes(x, i, i, 0, 0);
        }
        refuses(x, 10000, 0, 29);
        refuses(x, 0, 0, 0);
        refuses(x, -1, 0, 0);
        routeIs(x, 7, 0);
        far(x, 8, 0, -1);
        joins(x, 0, 8, 1, false);
    }

    private static void takes() {
        CHECK.about("terms 3: a TAKE (0 .. 10000)");
        CircusRoad x = new CircusRoad();
        refuses(x, -1, 0, 0);
        refuses(x, 10001, 0, 0);
        comes(x, 0, 0, 0, 0);
        routeIs(x, 0, 0);
        comes(x, 1, 9999, 1, 1);
        routeIs(x, 1, 1);
        comes(x, 2, 10000, 2, 2);
        routeIs(x, 2, 2);
        CircusRoad all = new CircusRoad();
        for (int i = 0; i < 8; i++) {
            comes(all, i, 10000, i, i);
        }
        for (int i = 0; i < 7; i++) {
            joins(all, i, i + 1, 10, true);
        }
        routeIs(all, 0, 0, 1, 1, 2, 2, 3, 3, 4, 4, 5, 5, 6, 6, 7, 7);
    }

    private static void nights() {
        CHECK.about("terms 3: the first and the last NIGHT (0 .. 29)");
        CircusRoad x = new CircusRoad();
        refuses(x, 1, -1, 0);
        refuses(x, 1, -1, -1);
        refuses(x, 1, 0, 30);
        refuses(x, 1, 29, 30);
        refuses(x, 1, 30, 30);
        comes(x, 0, 1, 0, 0);
        comes(x, 1, 2, 29, 29);
        comes(x, 2, 1, 0, 29);
        routeIs(x, 1, 29);
        for (int i = 0; i < 30; i++) {
            CircusRoad one = new CircusRoad();
            comes(one, 0, 0, i, i);
            due("routeAt(0, 1)", one.routeAt(0, 1), i);
        }
    }

    private static void wayHours() {
        CHECK.about("terms 3: WAYS join two TOWNS, by HOURS (1 .. 99)");
        CircusRoad x = withTowns(2);
        joins(x, 0, 1, 0, false);
        joins(x, 0, 1, -1, false);
        joins(x, 0, 1, 100, false);
        far(x, 0, 1, -1);
        for (int hours = 1; hours <= 99; hours++) {
            joins(x, hours % 2, 1 - hours % 2, hours, true);
            far(x, 0, 1, hours);
        }
    }

    private static void leastHoursByOtherTowns() {
        CHECK.about("terms 3: LEAST HOURS go by other TOWNS, too");
        CircusRoad x = withTowns(8);
        // a chain that goes by all others, with numbers up and down
        int[] chain = {3, 7, 0, 5, 1, 6, 2, 4};
        for (int i = 0; i < 7; i++) {
            joins(x, chain[i], chain[i + 1], 99, true);
        }
        for (int i = 0; i < 8; i++) {
            far(x, chain[0], chain[i], 99 * i);
        }
        far(x, 3, 4, 693);
        joins(x, 3, 4, 99, true);
        far(x, 3, 4, 99);
        far(x, 5, 6, 198);
        CircusRoad y = withTowns(3);
        joins(y, 0, 1, 10, true);
        joins(y, 1, 2, 10, true);
        joins(y, 0, 2, 21, true);
        far(y, 0, 2, 20);
        joins(y, 0, 2, 20, true);
        far(y, 0, 2, 20);
        joins(y, 0, 2, 19, true);
        far(y, 0, 2, 19);
    }

    private static void begunTen() {
        CHECK.about("terms 3: as many NIGHTS later as LEAST HOURS by ten, a begun ten as a whole one");
        for (int hours = 1; hours <= 99; hours++) {
            int later = 1;
            while (later * 10 < hours) {
                later++;
            }
            CircusRoad x = new CircusRoad();
            x.town(0, 0, 0);
            x.town(0, 0, later);
            x.way(0, 1, hours);
            routeIs(x, 0, 0, 1, later);
            CircusRoad y = new CircusRoad();
            y.town(0, 0, 0);
            y.town(0, 0, later - 1);
            y.way(0, 1, hours);
            due("route() by " + hours + ", a night too short", y.route(), 1);
        }
    }

    private static void begunTenOfTheWholeWay() {
        CHECK.about("terms 3: LEAST HOURS by ten, also by other TOWNS");
        // the town between can be played on night 0 alone, as the first, so it is passed
        CircusRoad x = new CircusRoad();
        comes(x, 0, 5, 0, 0);
        comes(x, 1, 0, 0, 0);
        comes(x, 2, 5, 0, 29);
        joins(x, 0, 1, 1, true);
        joins(x, 1, 2, 9, true);
        routeIs(x, 0, 0, 2, 1);
        joins(x, 1, 2, 10, true);
        routeIs(x, 0, 0, 2, 2);
        joins(x, 0, 1, 10, true);
        routeIs(x, 0, 0, 2, 2);
        joins(x, 0, 1, 11, true);
        routeIs(x, 0, 0, 2, 3);
        CircusRoad far = new CircusRoad();
        comes(far, 0, 1, 0, 0);
        for (int i = 1; i < 4; i++) {
            comes(far, i, 0, 0, 0);
            joins(far, i - 1, i, 97, true);
        }
        comes(far, 4, 1, 0, 29);
        joins(far, 3, 4, 1, true);
        // 292 hours are thirty nights: one too many
        due("hours(0, 4)", far.hours(0, 4), 292);
        routeIs(far, 1, 0, 4, 20);
        joins(far, 2, 3, 95, true);
        due("hours(0, 4)", far.hours(0, 4), 290);
        routeIs(far, 0, 0, 4, 29);
        joins(far, 2, 3, 96, true);
        routeIs(far, 1, 0, 4, 20);
    }

    private static void eachOnce() {
        CHECK.about("terms 3: a ROW of TOWNS, each once");
        CircusRoad x = withTowns(2);
        joins(x, 0, 1, 1, true);
        routeIs(x, 0, 0, 1, 1);
        CircusRoad one = withTowns(1);
        routeIs(one, 0, 0);
    }

    private static void firstOnItsFirstNight() {
        CHECK.about("terms 3: the first one on its first NIGHT");
        CircusRoad x = new CircusRoad();
        comes(x, 0, 0, 7, 29);
        routeIs(x, 0, 7);
        comes(x, 1, 0, 7, 7);
        joins(x, 0, 1, 1, true);
        routeIs(x, 1, 7, 0, 8);
        comes(x, 2, 0, 0, 6);
        joins(x, 2, 1, 70, true);
        routeIs(x, 2, 0, 1, 7, 0, 8);
        joins(x, 2, 1, 71, true);
        routeIs(x, 1, 7, 0, 8);
    }

    private static void firstNightOnWhichItCanBe() {
        CHECK.about("terms 3: each other one on the first NIGHT on which it can be, behind the one ahead");
        CircusRoad x = new CircusRoad();
        comes(x, 0, 0, 3, 3);
        comes(x, 1, 0, 5, 29);
        joins(x, 0, 1, 11, true);
        routeIs(x, 0, 3, 1, 5);
        joins(x, 0, 1, 20, true);
        routeIs(x, 0, 3, 1, 5);
        joins(x, 0, 1, 21, true);
        routeIs(x, 0, 3, 1, 6);
        joins(x, 0, 1, 1, true);
        routeIs(x, 0, 3, 1, 5);
        comes(x, 2, 0, 0, 29);
        joins(x, 1, 2, 1, true);
        routeIs(x, 0, 3, 1, 5, 2, 6);
    }

    private static void onOneOfItsOwn() {
        CHECK.about("terms 3: it can be GONE if each is on one of its own");
        CircusRoad x = new CircusRoad();
        comes(x, 0, 0, 4, 4);
        comes(x, 1, 0, 4, 6);
        joins(x, 0, 1, 20, true);
        routeIs(x, 0, 4, 1, 6);
        joins(x, 0, 1, 21, true);
        routeIs(x, 0, 4);
        CircusRoad same = new CircusRoad();
        comes(same, 0, 0, 4, 4);
        comes(same, 1, 0, 4, 4);
        joins(same, 0, 1, 1, true);
        routeIs(same, 0, 4);
        CircusRoad alone = withTowns(2);
        routeIs(alone, 0, 0);
    }

    private static void notBehindTheLastNightOfAll() {
        CHECK.about("terms 3: NIGHT (0 .. 29), at the end of a ROW");
        CircusRoad x = new CircusRoad();
        comes(x, 0, 0, 20, 20);
        comes(x, 1, 0, 0, 29);
        joins(x, 0, 1, 90, true);
        routeIs(x, 0, 20, 1, 29);
        joins(x, 0, 1, 91, true);
        // 0 on its own night 20, ten nights ahead of it 1 on night 0
        routeIs(x, 1, 0, 0, 20);
        CircusRoad y = new CircusRoad();
        comes(y, 0, 0, 29, 29);
        comes(y, 1, 0, 29, 29);
        joins(y, 0, 1, 1, true);
        routeIs(y, 0, 29);
    }

    private static void townPassedIsNotPlayed() {
        CHECK.about("terms 3: LEAST HOURS go by other TOWNS, that need not be played");
        CircusRoad x = new CircusRoad();
        comes(x, 0, 3, 0, 0);
        comes(x, 1, 1, 0, 0);
        comes(x, 2, 2, 1, 1);
        joins(x, 0, 1, 5, true);
        joins(x, 1, 2, 5, true);
        routeIs(x, 0, 0, 2, 1);
        joins(x, 1, 2, 6, true);
        routeIs(x, 1, 0, 2, 1);
    }

    private static void mostTownsAheadOfTakes() {
        CHECK.about("terms 3: of ROWS that can be GONE those with most TOWNS");
        CircusRoad x = new CircusRoad();
        comes(x, 0, 10000, 0, 0);
        comes(x, 1, 0, 1, 1);
        comes(x, 2, 0, 2, 2);
        joins(x, 1, 2, 10, true);
        routeIs(x, 1, 1, 2, 2);
        joins(x, 1, 2, 11, true);
        routeIs(x, 0, 0);
    }

    private static void greatestTakesAheadOfNumbers() {
        CHECK.about("terms 3: of these with the greatest sum of TAKES");
        CircusRoad x = new CircusRoad();
        comes(x, 0, 4, 0, 0);
        comes(x, 1, 5, 1, 1);
        comes(x, 2, 0, 0, 0);
        comes(x, 3, 9, 1, 1);
        comes(x, 4, 10, 1, 1);
        joins(x, 0, 1, 10, true);
        joins(x, 2, 3, 10, true);
        // 9 and 9: the least numbers
        routeIs(x, 0, 0, 1, 1);
        joins(x, 2, 4, 10, true);
        routeIs(x, 2, 0, 4, 1);
    }

    private static void leastNumbers() {
        CHECK.about("terms 3: of these the one whose TOWNS have the least numbers, from the first on");
        CircusRoad x = withTowns(8);
        for (int i = 0; i < 7; i++) {
            joins(x, i, 7, 1, true);
        }
        routeIs(x, 0, 0, 1, 1, 2, 2, 3, 3, 4, 4, 5, 5, 6, 6, 7, 7);
        CircusRoad y = new CircusRoad();
        comes(y, 0, 1, 1, 1);
        comes(y, 1, 1, 1, 1);
        comes(y, 2, 1, 0, 0);
        comes(y, 3, 1, 0, 0);
        joins(y, 3, 0, 1, true);
        joins(y, 2, 1, 1, true);
        // 2 ahead of 1 is less than 3 ahead of 0
        routeIs(y, 2, 0, 1, 1);
        joins(y, 2, 0, 1, true);
        routeIs(y, 2, 0, 0, 1);
    }

    private static void townTakeOrNightsCantBe() {
        CHECK.about("promise 15: NONE if TAKE or NIGHTS can't be");
        CircusRoad x = new CircusRoad();
        int[] noTake = {MIN, -10000, -1, 10001, 65536, MAX};
        for (int take : noTake) {
            refuses(x, take, 0, 0);
            refuses(x, take, 0, 29);
        }
        int[] noNight = {MIN, -30, -1, 30, 31, 256, MAX};
        for (int night : noNight) {
            refuses(x, 0, night, 29);
            refuses(x, 0, 0, night);
            refuses(x, 0, night, night);
        }
        refuses(x, 0, MIN, MAX);
        refuses(x, 0, MAX, MIN);
        routeIs(x);
        comes(x, 0, 0, 0, 0);
        comes(x, 1, 10000, 0, 29);
        comes(x, 2, 0, 29, 29);
    }

    private static void townLastAheadOfFirst() {
        CHECK.about("promise 15: NONE if the last one is ahead of the first one");
        CircusRoad x = new CircusRoad();
        for (int first = 1; first < 30; first++) {
            refuses(x, 0, first, first - 1);
            refuses(x, 0, first, 0);
        }
        refuses(x, 0, 29, 0);
        comes(x, 0, 0, 1, 1);
        comes(x, 1, 0, 28, 29);
    }

    private static void wayNoSuchTown() {
        CHECK.about("promise 16: false if there is no such TOWN");
        for (int n = 0; n <= 8; n += 4) {
            CircusRoad x = withTowns(n);
            int[] none = {MIN, -1, n, n + 1, 8, 9, MAX};
            for (int town : none) {
                joins(x, 0, town, 5, false);
                joins(x, town, 0, 5, false);
                joins(x, n - 1, town, 5, false);
                joins(x, town, town, 5, false);
            }
            for (int a = 1; a < n; a++) {
                far(x, 0, a, -1);
                joins(x, 0, a, 5, true);
            }
        }
    }

    private static void wayBothAreOne() {
        CHECK.about("promise 16: false if both are one");
        CircusRoad x = withTowns(8);
        for (int town = 0; town < 8; town++) {
            joins(x, town, town, 1, false);
            joins(x, town, town, 99, false);
            far(x, town, town, 0);
        }
    }

    private static void wayNoSuchHours() {
        CHECK.about("promise 16: false if no such HOURS");
        CircusRoad x = withTowns(2);
        int[] none = {MIN, -99, -1, 0, 100, 101, 256, MAX};
        for (int hours : none) {
            joins(x, 0, 1, hours, false);
            far(x, 0, 1, -1);
        }
        joins(x, 0, 1, 50, true);
        for (int hours : none) {
            joins(x, 1, 0, hours, false);
            far(x, 0, 1, 50);
        }
    }

    private static void wayHasOtherHours() {
        CHECK.about("promise 16: a WAY comes, or has other HOURS: true");
        CircusRoad x = withTowns(3);
        joins(x, 0, 1, 50, true);
        joins(x, 0, 1, 50, true);
        far(x, 0, 1, 50);
        joins(x, 1, 0, 99, true);
        far(x, 0, 1, 99);
        joins(x, 0, 1, 1, true);
        far(x, 0, 1, 1);
        joins(x, 1, 2, 1, true);
        far(x, 0, 2, 2);
        joins(x, 0, 1, 99, true);
        far(x, 0, 2, 100);
        due("count(1)", x.count(1), 3);
    }

    private static void hoursOfOne() {
        CHECK.about("promise 17: LEAST HOURS of two TOWNS (0 of one)");
        CircusRoad x = new CircusRoad();
        for (int town = 0; town < 8; town++) {
            far(x, town, town, -1);
            comes(x, town, 0, 0, 0);
            far(x, town, town, 0);
        }
        joins(x, 0, 7, 1, true);
        far(x, 0, 0, 0);
        far(x, 7, 7, 0);
    }

    private static void hoursNoneSuch() {
        CHECK.about("promise 17: NONE if there is none such");
        for (int n = 0; n <= 8; n++) {
            CircusRoad x = withTowns(n);
            int[] none = {MIN, -8, -1, n, n + 1, 8, 9, 64, MAX};
            for (int town : none) {
                far(x, 0, town, -1);
                far(x, n - 1, town, -1);
                far(x, town, town, -1);
            }
        }
    }

    private static void hoursNoWay() {
        CHECK.about("promise 17: NONE if no way");
        CircusRoad x = withTowns(8);
        for (int a = 0; a < 6; a++) {
            joins(x, a, a + 2, 99, true);
        }
        for (int a = 0; a < 8; a++) {
            for (int b = 0; b < 8; b++) {
                boolean joined = (a - b) % 2 == 0;
                due("hours(" + a + ", " + b + ")", x.hours(a, b), joined ? Math.abs(a - b) / 2 * 99 : -1);
            }
        }
        joins(x, 0, 7, 1, true);
        far(x, 6, 1, 3 * 99 + 1 + 3 * 99);
        CircusRoad late = withTowns(2);
        joins(late, 0, 1, 3, true);
        comes(late, 2, 0, 0, 0);
        far(late, 0, 2, -1);
        far(late, 1, 2, -1);
        far(late, 0, 1, 3);
    }

    private static void routeOfNoneToEight() {
        CHECK.about("promise 18: how many TOWNS the ROUTE has");
        CircusRoad x = new CircusRoad();
        due("route()", x.route(), 0);
        for (int i = 0; i < 8; i++) {
            comes(x, i, 0, 0, 29);
            if (i > 0) {
                due("route() without a way to " + i, x.route(), i);
                joins(x, i - 1, i, 1, true);
            }
            due("route()", x.route(), i + 1);
        }
        CircusRoad y = withTowns(8);
        due("route() without ways", y.route(), 1);
        // a way by all of them takes seven times four nights
        for (int i = 0; i < 7; i++) {
            joins(y, i, i + 1, 40, true);
        }
        due("route()", y.route(), 8);
        due("routeAt(7, 1)", y.routeAt(7, 1), 28);
        for (int i = 0; i < 7; i++) {
            joins(y, i, i + 1, 41, true);
        }
        due("route()", y.route(), 6);
        due("routeAt(5, 1)", y.routeAt(5, 1), 25);
    }

    private static void routeAtNoneForOthers() {
        CHECK.about("promise 19: what 0 which, 1 the NIGHT; NONE for others");
        CircusRoad x = new CircusRoad();
        comes(x, 0, 0, 3, 3);
        int[] others = {MIN, -1, 2, 3, MAX};
        for (int what : others) {
            due("routeAt(0, " + what + ")", x.routeAt(0, what), -1);
            due("routeAt(1, " + what + ")", x.routeAt(1, what), -1);
        }
        routeIs(x, 0, 3);
    }

    private static void routeAtNoneSuch() {
        CHECK.about("promise 19: its i-th TOWN (from 0 on); NONE if there is none such");
        for (int n = 0; n <= 8; n++) {
            CircusRoad x = withTowns(n);
            for (int i = 1; i < n; i++) {
                x.way(i - 1, i, 1);
            }
            int[] places = {MIN, -8, -1, 0, n - 1, n, n + 1, 7, 8, 9, MAX};
            for (int i : places) {
                boolean is = i >= 0 && i < n;
                due("routeAt(" + i + ", 0) of " + n, x.routeAt(i, 0), is ? i : -1);
                due("routeAt(" + i + ", 1) of " + n, x.routeAt(i, 1), is ? i : -1);
            }
        }
        CircusRoad apart = withTowns(8);
        due("routeAt(0, 0)", apart.routeAt(0, 0), 0);
        due("routeAt(1, 0), a town that isn't in the ROUTE", apart.routeAt(1, 0), -1);
    }

    private static void countOfTowns() {
        CHECK.about("promise 22: 1 TOWNS, none to all");
        CircusRoad x = new CircusRoad();
        for (int i = 0; i < 8; i++) {
            due("count(1)", x.count(1), i);
            comes(x, i, 0, 29, 29);
        }
        due("count(1)", x.count(1), 8);
        comes(x, -1, 0, 29, 29);
        due("count(1)", x.count(1), 8);
    }
}
