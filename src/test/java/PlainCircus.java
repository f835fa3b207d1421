import java.util.ArrayList;
import java.util.List;

/**
 * The document written down as plainly as it can be, without a thought for speed: every order and
 * every row is tried. ModelTest compares CircusRoad with it.
 */
final class PlainCircus {
    private record Act(int kind, int minutes, int worth, int who, int props) { }

    private record Town(int take, int first, int last) { }

    private record Taking(int town, int day, int sum) { }

    private final List<Act> acts = new ArrayList<>();
    private final int[] rests = {1, 1, 1, 1, 1, 1, 1, 1, 1, 1};
    private final boolean[][] bans = new boolean[4][4];
    private final int[] loads = new int[8];
    private final int[][] shares = new int[8][8];
    private final int[] exposed = new int[8];
    private final List<Town> towns = new ArrayList<>();
    private final int[][] ways = new int[8][8];
    private final List<Taking> takings = new ArrayList<>();

    private List<Integer> bestOrder;
    private boolean bestIsKnown;
    private List<Integer> bestRow;
    private boolean routeIsKnown;

    int act(int what, int who, int props) {
        if (what < 0) {
            return -1;
        }
        Act act = new Act(what % 1000 / 100, what / 1000, what % 100, who, props);
        boolean can = act.minutes >= 1 && act.minutes <= 60 && act.kind <= 3
            && who >= 0 && who <= 1023 && props >= 0 && props <= 255
            && (act.kind != 3 || props == 0) && acts.size() < 8;
        if (!can) {
            return -1;
        }
        acts.add(act);
        bestIsKnown = false;
        return acts.size() - 1;
    }

    boolean rests(int person, int number) {
        if (person < 0 || person > 9 || number < 0 || number > 3) {
            return false;
        }
        rests[person] = number;
        bestIsKnown = false;
        return true;
    }

    boolean ban(int first, int second, boolean is) {
        if (first < 0 || first > 3 || second < 0 || second > 3 || bans[first][second] == is) {
            return false;
        }
        bans[first][second] = is;
        bestIsKnown = false;
        return true;
    }

    /** The digits from the lowest on, or null if the order can't be told so. */
    private static List<Integer> digits(int order, int n) {
        if (order < 0 || n < 0 || n > 8 || (order > 0 && Integer.toString(order).length() > n)) {
            return null;
        }
        List<Integer> row = new ArrayList<>();
        String padded = String.format("%08d", order);
        for (int i = 0; i < n; i++) {
            row.add(padded.charAt(padded.length() - 1 - i) - '0');
        }
        return row;
    }

    private boolean tooSoon(List<Integer> row, int place) {
        for (int person = 0; person < 10; person++) {
            if ((acts.get(row.get(place)).who & 1 << person) == 0) {
                continue;
            }
            for (int earlier = 0; earlier < place; earlier++) {
                boolean there = (acts.get(row.get(earlier)).who & 1 << person) != 0;
                if (there && place - earlier - 1 < rests[person]) {
                    return true;
                }
            }
        }
        return false;
    }

    /** Place and which, or null if nothing breaks. */
    private int[] firstBreak(List<Integer> row) {
        for (int place = 0; place < row.size(); place++) {
            int digit = row.get(place);
            if (digit >= acts.size() || row.subList(0, place).contains(digit)) {
                return new int[] {place, 1};
            }
            if (tooSoon(row, place)) {
                return new int[] {place, 2};
            }
            if (place > 0 && bans[acts.get(row.get(place - 1)).kind][acts.get(digit).kind]) {
                return new int[] {place, 3};
            }
        }
        return row.size() < acts.size() ? new int[] {row.size(), 4} : null;
    }

    private int gapSum(List<Integer> row) {
        int sum = 0;
        for (int place = 0; place < row.size(); place++) {
            Act act = acts.get(row.get(place));
            if (act.kind == 3) {
                continue;
            }
            int ring = 0;
            int minutes = 0;
            for (int back = place - 1; back >= 0; back--) {
                Act earlier = acts.get(row.get(back));
                if (earlier.kind != 3) {
                    ring = earlier.props;
                    break;
                }
                minutes += earlier.minutes;
            }
            int differ = 0;
            for (int prop = 0; prop < 8; prop++) {
                if ((ring >> prop & 1) != (act.props >> prop & 1)) {
                    differ++;
                }
            }
            sum += Math.max(0, 2 * differ - minutes);
        }
        return sum;
    }

    private int worthSum(List<Integer> row) {
        int sum = 0;
        for (int place = 0; place < row.size(); place++) {
            sum += acts.get(row.get(place)).worth * (place + 1);
        }
        return sum;
    }

    int judge(int order, int n, int what) {
        List<Integer> row = digits(order, n);
        if (row == null || what < 0 || what > 1) {
            return -1;
        }
        int[] broken = firstBreak(row);
        return broken == null ? -1 : broken[what];
    }

    int gaps(int order, int n) {
        List<Integer> row = digits(order, n);
        return row == null || firstBreak(row) != null ? -1 : gapSum(row);
    }

    private static boolean isLess(List<Integer> a, List<Integer> b) {
        for (int i = 0; i < a.size(); i++) {
            if (!a.get(i).equals(b.get(i))) {
                return a.get(i) < b.get(i);
            }
        }
        return false;
    }

    private void tryOrders(List<Integer> row) {
        if (row.size() == acts.size()) {
            if (firstBreak(row) == null && (bestOrder == null || isBetterOrder(row))) {
                bestOrder = new ArrayList<>(row);
            }
            return;
        }
        for (int act = acts.size() - 1; act >= 0; act--) {
            if (!row.contains(act)) {
                row.add(act);
                tryOrders(row);
                row.remove(row.size() - 1);
            }
        }
    }

    private boolean isBetterOrder(List<Integer> row) {
        if (gapSum(row) != gapSum(bestOrder)) {
            return gapSum(row) < gapSum(bestOrder);
        }
        if (worthSum(row) != worthSum(bestOrder)) {
            return worthSum(row) > worthSum(bestOrder);
        }
        return isLess(row, bestOrder);
    }

    private List<Integer> bestNow() {
        if (!bestIsKnown) {
            bestIsKnown = true;
            bestOrder = null;
            if (!acts.isEmpty()) {
                tryOrders(new ArrayList<>());
            }
        }
        return bestOrder;
    }

    int best() {
        return bestNow() == null ? -1 : gapSum(bestNow());
    }

    int bestAt(int i) {
        return bestNow() == null || i < 0 || i >= acts.size() ? -1 : bestNow().get(i);
    }

    boolean load(int point, int load) {
        if (point < 0 || point > 7 || load < 0 || load > 10000) {
            return false;
        }
        loads[point] = load;
        return true;
    }

    boolean share(int point, int rope, int parts) {
        if (point < 0 || point > 7 || rope < 0 || rope > 7 || parts < 0 || parts > 100) {
            return false;
        }
        int before = shares[point][rope];
        shares[point][rope] = parts;
        int sum = 0;
        for (int each : shares[point]) {
            sum += each;
        }
        if (sum > 100) {
            shares[point][rope] = before;
            return false;
        }
        return true;
    }

    boolean exposed(int rope, int by) {
        if (rope < 0 || rope > 7 || by < -9 || by > 9) {
            return false;
        }
        exposed[rope] = by;
        return true;
    }

    private boolean up(int rope) {
        boolean any = exposed[rope] != 0;
        for (int point = 0; point < 8; point++) {
            any |= shares[point][rope] > 0;
        }
        return any;
    }

    /** The parts at 0 .. 7, 1 for each slack rope at 8 .. 15, what is gone at 16. */
    private int[] settled(int wind) {
        int[] all = new int[17];
        for (int rope = 0; rope < 8; rope++) {
            all[rope] = 100 * wind * exposed[rope];
            for (int point = 0; point < 8; point++) {
                all[rope] += loads[point] * shares[point][rope];
            }
        }
        while (true) {
            int pushing = -1;
            for (int rope = 7; rope >= 0; rope--) {
                if (all[rope] < 0) {
                    pushing = rope;
                }
            }
            if (pushing < 0) {
                return all;
            }
            all[8 + pushing] = 1;
            List<Integer> left = new ArrayList<>();
            for (int rope = 0; rope < 8; rope++) {
                if (up(rope) && all[8 + rope] == 0) {
                    left.add(rope);
                }
            }
            int had = -all[pushing];
            all[pushing] = 0;
            if (left.isEmpty()) {
                all[16] = -had;
                return all;
            }
            for (int i = 0; i < left.size(); i++) {
                all[left.get(i)] -= had / left.size() + (i < had % left.size() ? 1 : 0);
            }
        }
    }

    int part(int rope, int wind) {
        return rope < 0 || rope > 7 || Math.abs((long) wind) > 100 ? -1 : settled(wind)[rope];
    }

    boolean slack(int rope, int wind) {
        return rope >= 0 && rope <= 7 && Math.abs((long) wind) <= 100 && settled(wind)[8 + rope] == 1;
    }

    int gone(int wind) {
        return Math.abs((long) wind) > 100 ? 0 : settled(wind)[16];
    }

    int town(int take, int first, int last) {
        if (take < 0 || take > 10000 || first < 0 || last > 29 || last < first || towns.size() == 8) {
            return -1;
        }
        towns.add(new Town(take, first, last));
        routeIsKnown = false;
        return towns.size() - 1;
    }

    private boolean noTown(int number) {
        return number < 0 || number >= towns.size();
    }

    boolean way(int a, int b, int hours) {
        if (noTown(a) || noTown(b) || a == b || hours < 1 || hours > 99) {
            return false;
        }
        ways[a][b] = hours;
        ways[b][a] = hours;
        routeIsKnown = false;
        return true;
    }

    int hours(int a, int b) {
        if (noTown(a) || noTown(b)) {
            return -1;
        }
        int[] from = new int[towns.size()];
        java.util.Arrays.fill(from, 1000000);
        from[a] = 0;
        for (int round = 0; round < towns.size(); round++) {
            for (int c = 0; c < towns.size(); c++) {
                for (int d = 0; d < towns.size(); d++) {
                    if (ways[c][d] > 0) {
                        from[d] = Math.min(from[d], from[c] + ways[c][d]);
                    }
                }
            }
        }
        return from[b] >= 1000000 ? -1 : from[b];
    }

    /** The nights of a row, or null if it can't be gone. */
    private List<Integer> nights(List<Integer> row, int[][] hours) {
        List<Integer> nights = new ArrayList<>();
        for (int i = 0; i < row.size(); i++) {
            Town town = towns.get(row.get(i));
            int night = town.first;
            if (i > 0) {
                int far = hours[row.get(i - 1)][row.get(i)];
                if (far < 0) {
                    return null;
                }
                int earliest = nights.get(i - 1) + far / 10 + (far % 10 > 0 ? 1 : 0);
                while (night < earliest) {
                    night++;
                }
            }
            if (night > town.last) {
                return null;
            }
            nights.add(night);
        }
        return nights;
    }

    private int[][] allHours() {
        int[][] all = new int[towns.size()][towns.size()];
        for (int a = 0; a < towns.size(); a++) {
            for (int b = 0; b < towns.size(); b++) {
                all[a][b] = hours(a, b);
            }
        }
        return all;
    }

    private int takeSum(List<Integer> row) {
        int sum = 0;
        for (int town : row) {
            sum += towns.get(town).take;
        }
        return sum;
    }

    private void tryRows(List<Integer> row, int[][] hours) {
        if (nights(row, hours) == null) {
            return;
        }
        if (isBetterRow(row)) {
            bestRow = new ArrayList<>(row);
        }
        for (int town = towns.size() - 1; town >= 0; town--) {
            if (!row.contains(town)) {
                row.add(town);
                tryRows(row, hours);
                row.remove(row.size() - 1);
            }
        }
    }

    private boolean isBetterRow(List<Integer> row) {
        if (row.size() != bestRow.size()) {
            return row.size() > bestRow.size();
        }
        if (takeSum(row) != takeSum(bestRow)) {
            return takeSum(row) > takeSum(bestRow);
        }
        return isLess(row, bestRow);
    }

    private List<Integer> routeNow() {
        if (!routeIsKnown) {
            routeIsKnown = true;
            bestRow = new ArrayList<>();
            tryRows(new ArrayList<>(), allHours());
        }
        return bestRow;
    }

    int route() {
        return routeNow().size();
    }

    int routeAt(int i, int what) {
        if (i < 0 || i >= route() || what < 0 || what > 1) {
            return -1;
        }
        return what == 0 ? routeNow().get(i) : nights(routeNow(), allHours()).get(i);
    }

    int took(int town, int day, int sum) {
        if (noTown(town) || day < 0 || day > 6 || sum < 0 || sum > 1000000 || takings.size() == 500) {
            return -1;
        }
        takings.add(new Taking(town, day, sum));
        return takings.size();
    }

    int foretold(int town, int day, int what) {
        if (noTown(town) || day < 0 || day > 6 || what < 0 || what > 1) {
            return -1;
        }
        for (int wide = 0; wide < 4; wide++) {
            long sum = 0;
            long times = 0;
            for (Taking taking : takings) {
                boolean sameTown = wide >= 2 || taking.town == town;
                boolean sameDay = wide % 2 == 1 || taking.day == day;
                if (sameTown && sameDay) {
                    sum += taking.sum;
                    times++;
                }
            }
            if (times > 0) {
                long common = times;
                while (sum % common != 0 || times % common != 0) {
                    common--;
                }
                return (int) ((what == 0 ? sum : times) / common);
            }
        }
        return what;
    }

    int count(int what) {
        int number = 0;
        for (int i = 0; i < 16; i++) {
            number += what == 2 && bans[i / 4][i % 4] ? 1 : 0;
            number += what == 3 && i < 8 && up(i) ? 1 : 0;
        }
        return switch (what) {
            case 0 -> acts.size();
            case 1 -> towns.size();
            case 2, 3 -> number;
            case 4 -> takings.size();
            default -> -1;
        };
    }
}
