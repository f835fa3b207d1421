/** Promises 15 to 19, and 22 for towns. */
public final class RoadTest {
    private static final Check CHECK = new Check();
    private static final int MIN = Integer.MIN_VALUE;
    private static final int MAX = Integer.MAX_VALUE;

    public static void main(String[] args) {
        town();
        townEdges();
        way();
        hours();
        hoursGetLonger();
        routeOfOne();
        nightsByHours();
        nightsWait();
        routeByTowns();
        routeByTakes();
        routeByNumbers();
        routeGoesByOtherTowns();
        routeFollowsChanges();
        routeAtEdges();
        CHECK.end();
    }

    private static void due(String call, long got, long want) {
        CHECK.due(call, got, want);
    }

    private static void due(String call, boolean got, boolean want) {
        CHECK.due(call, got, want);
    }

    /** Towns and nights by turns. */
    private static void routeIs(CircusRoad x, int... row) {
        due("route()", x.route(), row.length / 2);
        for (int i = 0; i < row.length; i++) {
            due("routeAt(" + i / 2 + ", " + i % 2 + ")", x.routeAt(i / 2, i % 2), row[i]);
        }
        due("routeAt behind the last", x.routeAt(row.length / 2, 0), -1);
    }

    private static void town() {
        CHECK.about("15 town");
        CircusRoad x = new CircusRoad();
        for (int i = 0; i < 8; i++) {
            due("town", x.town(i, i, i), i);
            due("count(1)", x.count(1), i + 1);
        }
        due("the ninth town", x.town(0, 0, 0), -1);
        due("count(1)", x.count(1), 8);
    }

    private static void townEdges() {
        CHECK.about("15 town, edges");
        CircusRoad x = new CircusRoad();
        int[][] wrong = {
            {-1, 0, 0}, {10001, 0, 0}, {0, -1, 0}, {0, 0, 30}, {0, 30, 30}, {0, 1, 0}, {0, 29, 28},
            {0, -1, -1}, {MIN, 0, 0}, {MAX, 0, 0}, {0, MIN, 0}, {0, MAX, MAX}, {0, 0, MAX}, {0, 0, MIN},
        };
        for (int[] a : wrong) {
            due("town(" + a[0] + ", " + a[1] + ", " + a[2] + ")", x.town(a[0], a[1], a[2]), -1);
        }
        due("count(1)", x.count(1), 0);
        due("route()", x.route(), 0);
        due("town(0, 0, 0)", x.town(0, 0, 0), 0);
        due("town(10000, 29, 29)", x.town(10000, 29, 29), 1);
        due("town(1, 0, 29)", x.town(1, 0, 29), 2);
    }

    private static void way() {
        CHECK.about("16 way");
        CircusRoad x = new CircusRoad();
        due("way(0, 1, 1) without towns", x.way(0, 1, 1), false);
        x.town(0, 0, 0);
        x.town(0, 0, 0);
        int[][] wrong = {
            {0, 0, 5}, {1, 1, 5}, {0, 2, 5}, {2, 0, 5}, {-1, 0, 5}, {0, -1, 5}, {0, 1, 0}, {0, 1, 100},
            {0, 1, -1}, {MIN, 0, 5}, {MAX, 0, 5}, {0, MIN, 5}, {0, MAX, 5}, {0, 1, MIN}, {0, 1, MAX},
        };
        for (int[] a : wrong) {
            due("way(" + a[0] + ", " + a[1] + ", " + a[2] + ")", x.way(a[0], a[1], a[2]), false);
        }
        due("hours(0, 1)", x.hours(0, 1), -1);
        due("way(0, 1, 99)", x.way(0, 1, 99), true);
        due("hours(0, 1)", x.hours(0, 1), 99);
        due("way(1, 0, 1)", x.way(1, 0, 1), true);
        due("hours(0, 1)", x.hours(0, 1), 1);
        due("way(1, 0, 1) again", x.way(1, 0, 1), true);
        due("way(1, 0, 100)", x.way(1, 0, 100), false);
        due("hours(1, 0)", x.hours(1, 0), 1);
    }

    private static void hours() {
        CHECK.about("17 hours");
        CircusRoad x = new CircusRoad();
        for (int i = 0; i < 8; i++) {
            x.town(0, 0, 29);
            due("hours of one", x.hours(i, i), 0);
        }
        for (int i = 0; i < 7; i++) {
            x.way(i, i + 1, 99);
        }
        due("hours(0, 7)", x.hours(0, 7), 693);
        due("hours(7, 0)", x.hours(7, 0), 693);
        x.way(6, 1, 2);
        due("hours(0, 7)", x.hours(0, 7), 200);
        due("hours(2, 5)", x.hours(2, 5), 200);
        due("hours(3, 6)", x.hours(3, 6), 200);
        due("hours(3, 3)", x.hours(3, 3), 0);
        int[] none = {-1, 8, MIN, MAX};
        for (int town : none) {
            due("hours(" + town + ", 0)", x.hours(town, 0), -1);
            due("hours(0, " + town + ")", x.hours(0, town), -1);
            due("hours of none", x.hours(town, town), -1);
        }
        CircusRoad y = new CircusRoad();
        y.town(0, 0, 0);
        y.town(0, 0, 0);
        y.town(0, 0, 0);
        y.way(0, 1, 3);
        due("hours(0, 2)", y.hours(0, 2), -1);
        due("hours(2, 1)", y.hours(2, 1), -1);
    }

    private static void hoursGetLonger() {
        CHECK.about("16 way, other hours");
        CircusRoad x = new CircusRoad();
        x.town(0, 0, 29);
        x.town(0, 0, 29);
        x.town(0, 0, 29);
        x.way(0, 1, 5);
        x.way(1, 2, 5);
        x.way(0, 2, 50);
        due("hours(0, 2)", x.hours(0, 2), 10);
        x.way(2, 1, 30);
        due("hours(0, 2)", x.hours(0, 2), 35);
        x.way(1, 0, 40);
        due("hours(0, 2)", x.hours(0, 2), 50);
        due("hours(0, 1)", x.hours(0, 1), 40);
        x.way(0, 2, 3);
        due("hours(0, 1)", x.hours(0, 1), 33);
    }

    private static void routeOfOne() {
        CHECK.about("18 route, of one");
        CircusRoad x = new CircusRoad();
        routeIs(x);
        x.town(0, 7, 9);
        routeIs(x, 0, 7);
        x.town(0, 3, 3);
        routeIs(x, 0, 7);
        x.town(1, 29, 29);
        routeIs(x, 2, 29);
    }

    private static void nightsByHours() {
        CHECK.about("19 routeAt, nights by hours");
        int[][] nights = {{1, 1}, {9, 1}, {10, 1}, {11, 2}, {20, 2}, {21, 3}, {90, 9}, {91, 10}, {99, 10}};
        for (int[] a : nights) {
            CircusRoad x = new CircusRoad();
            x.town(5, 4, 29);
            x.town(5, 0, a[1] + 4);
            x.way(0, 1, a[0]);
            routeIs(x, 0, 4, 1, 4 + a[1]);
            CircusRoad y = new CircusRoad();
            y.town(5, 4, 4);
            y.town(6, 4, a[1] + 3);
            y.way(0, 1, a[0]);
            routeIs(y, 1, 4);
        }
    }

    private static void nightsWait() {
        CHECK.about("19 routeAt, nights that are waited for");
        CircusRoad x = new CircusRoad();
        x.town(1, 2, 2);
        x.town(1, 10, 12);
        x.town(1, 11, 11);
        x.way(0, 1, 1);
        x.way(1, 2, 1);
        routeIs(x, 0, 2, 1, 10, 2, 11);
    }

    private static void routeByTowns() {
        CHECK.about("18 route, most towns");
        CircusRoad x = new CircusRoad();
        x.town(10000, 0, 0);
        x.town(10000, 0, 0);
        x.town(0, 0, 0);
        x.town(0, 1, 1);
        x.way(2, 3, 10);
        x.way(0, 1, 1);
        routeIs(x, 2, 0, 3, 1);
    }

    private static void routeByTakes() {
        CHECK.about("18 route, the greatest takes");
        CircusRoad x = new CircusRoad();
        x.town(10, 0, 0);
        x.town(20, 0, 0);
        x.town(30, 0, 0);
        x.town(5, 1, 1);
        for (int i = 0; i < 3; i++) {
            x.way(i, 3, 10);
        }
        routeIs(x, 2, 0, 3, 1);
        x.way(2, 3, 11);
        routeIs(x, 1, 0, 3, 1);
    }

    private static void routeByNumbers() {
        CHECK.about("18 route, the least numbers");
        CircusRoad x = new CircusRoad();
        for (int i = 0; i < 8; i++) {
            x.town(9, 0, 29);
        }
        for (int i = 1; i < 8; i++) {
            x.way(0, i, 5);
        }
        routeIs(x, 0, 0, 1, 1, 2, 2, 3, 3, 4, 4, 5, 5, 6, 6, 7, 7);
        CircusRoad y = new CircusRoad();
        y.town(9, 0, 0);
        y.town(9, 0, 0);
        y.town(9, 1, 1);
        y.town(9, 1, 1);
        y.way(1, 3, 10);
        y.way(1, 2, 10);
        routeIs(y, 1, 0, 2, 1);
    }

    private static void routeGoesByOtherTowns() {
        CHECK.about("18 route, by other towns");
        CircusRoad x = new CircusRoad();
        x.town(1, 0, 0);
        x.town(1, 0, 0);
        x.town(2, 1, 2);
        x.way(0, 1, 8);
        x.way(1, 2, 7);
        // 15 hours by town 1, which isn't played: a begun ten counts once for the whole way
        routeIs(x, 0, 0, 2, 2);
        x.way(0, 1, 3);
        routeIs(x, 0, 0, 2, 1);
    }

    private static void routeFollowsChanges() {
        CHECK.about("18 route, as it is now");
        CircusRoad x = new CircusRoad();
        x.town(1, 0, 5);
        x.town(2, 0, 5);
        routeIs(x, 1, 0);
        x.way(0, 1, 50);
        routeIs(x, 0, 0, 1, 5);
        x.way(0, 1, 51);
        routeIs(x, 1, 0);
        x.town(3, 9, 9);
        routeIs(x, 2, 9);
        x.way(0, 2, 100);
        x.town(9999, 3, 2);
        routeIs(x, 2, 9);
        x.town(4, 9, 9);
        x.way(2, 3, 1);
        routeIs(x, 3, 9);
        x.town(1, 10, 10);
        x.way(2, 4, 1);
        routeIs(x, 3, 9, 4, 10);
    }

    private static void routeAtEdges() {
        CHECK.about("19 routeAt, edges");
        CircusRoad x = new CircusRoad();
        x.town(1, 0, 5);
        int[] none = {-1, 1, 8, MIN, MAX};
        for (int i : none) {
            due("routeAt(" + i + ", 0)", x.routeAt(i, 0), -1);
            due("routeAt(" + i + ", 1)", x.routeAt(i, 1), -1);
        }
        int[] whats = {-1, 2, MIN, MAX};
        for (int what : whats) {
            due("routeAt(0, " + what + ")", x.routeAt(0, what), -1);
        }
    }
}
