/**
 * A circus on the road: the order of its acts, the ropes of its tent, its route through towns, and
 * the takings that are foretold.
 */
public final class CircusRoad {
    public static final int NONE = -1;

    private static final int MOST_ACTS = 8;
    private static final int KINDS = 4;
    private static final int CLOWNS = 3;
    private static final int MOST_MINUTES = 60;
    private static final int PEOPLE = 10;
    private static final int MOST_REST = 3;
    private static final int EVERYBODY = 1023;
    private static final int ALL_PROPS = 255;

    private static final int NO_BREAK = 0;
    private static final int NOT_AN_ACT = 1;
    private static final int RESTS_TOO_LITTLE = 2;
    private static final int BANNED = 3;
    private static final int NOT_ALL_ACTS = 4;

    private static final int POINTS = 8;
    private static final int ROPES = 8;
    private static final int MOST_LOAD = 10000;
    private static final int WHOLE = 100;
    private static final int MOST_EXPOSED = 9;
    private static final int MOST_WIND = 100;

    private static final int MOST_TOWNS = 8;
    private static final int MOST_TAKE = 10000;
    private static final int NIGHTS = 30;
    private static final int MOST_HOURS = 99;
    private static final int HOURS_BY_NIGHT = 10;

    private static final int DAYS = 7;
    private static final int MOST_TAKING = 1000000;
    private static final int MOST_TAKINGS = 500;
    // Euclid's way needs far fewer steps for a divisor of at most 500.
    private static final int EUCLID_STEPS = 64;

    private final Show show;
    private final Order told;
    private final BestOrder bestOrder;
    private final Tent tent;
    private final Road road;
    private final BestRoute bestRoute;
    private final Till till;

    public CircusRoad() {
        show = new Show();
        told = new Order(show);
        bestOrder = new BestOrder(show);
        tent = new Tent();
        road = new Road();
        bestRoute = new BestRoute(road);
        till = new Till();
    }

    public int act(int what, int who, int props) {
        return show.add(what, who, props);
    }

    public boolean rests(int person, int acts) {
        return show.setRest(person, acts);
    }

    public boolean ban(int first, int second, boolean is) {
        return show.setBan(first, second, is);
    }

    public int judge(int order, int n, int what) {
        if (what < 0 || what > 1 || !Order.canBeTold(order, n)) {
            return NONE;
        }
        int which = told.read(order, n);
        if (which == NO_BREAK) {
            return NONE;
        }
        return what == 0 ? told.breakPlace : which;
    }

    public int gaps(int order, int n) {
        if (!Order.canBeTold(order, n) || told.read(order, n) != NO_BREAK) {
            return NONE;
        }
        return told.gapSum[n];
    }

    public int best() {
        bestOrder.refresh();
        return bestOrder.found ? bestOrder.leastGaps : NONE;
    }

    public int bestAt(int i) {
        bestOrder.refresh();
        if (!bestOrder.found || i < 0 || i >= show.size) {
            return NONE;
        }
        return bestOrder.acts[i];
    }

    public boolean load(int point, int load) {
        return tent.setLoad(point, load);
    }

    public boolean share(int point, int rope, int parts) {
        return tent.setShare(point, rope, parts);
    }

    public boolean exposed(int rope, int by) {
        return tent.setExposed(rope, by);
    }

    public int part(int rope, int wind) {
        if (!isIn(rope, ROPES) || !Tent.isWind(wind)) {
            return NONE;
        }
        tent.settle(wind);
        return tent.parts[rope];
    }

    public boolean slack(int rope, int wind) {
        if (!isIn(rope, ROPES) || !Tent.isWind(wind)) {
            return false;
        }
        tent.settle(wind);
        return tent.slackened[rope];
    }

    public int gone(int wind) {
        if (!Tent.isWind(wind)) {
            return 0;
        }
        tent.settle(wind);
        return tent.lost;
    }

    public int town(int take, int first, int last) {
        return road.add(take, first, last);
    }

    public boolean way(int a, int b, int hours) {
        return road.join(a, b, hours);
    }

    public int hours(int a, int b) {
        if (!road.has(a) || !road.has(b)) {
            return NONE;
        }
        return road.leastHours(a, b);
    }

    public int route() {
        bestRoute.refresh();
        return bestRoute.length;
    }

    public int routeAt(int i, int what) {
        bestRoute.refresh();
        if (!isIn(i, bestRoute.length) || what < 0 || what > 1) {
            return NONE;
        }
        return what == 0 ? bestRoute.towns[i] : bestRoute.nights[i];
    }

    public int took(int town, int day, int sum) {
        return road.has(town) ? till.add(town, day, sum) : NONE;
    }

    public int foretold(int town, int day, int what) {
        if (!road.has(town) || !isIn(day, DAYS) || what < 0 || what > 1) {
            return NONE;
        }
        till.foretell(town, day);
        return what == 0 ? till.above : till.below;
    }

    public int count(int what) {
        switch (what) {
            case 0:
                return show.size;
            case 1:
                return road.size;
            case 2:
                return Integer.bitCount(show.bans);
            case 3:
                return tent.ropesUp();
            case 4:
                return till.told;
            default:
                return NONE;
        }
    }

    private static boolean isIn(int number, int size) {
        return number >= 0 && number < size;
    }

    /** The acts, and the rules that an order of them keeps. */
    private static final class Show {
        private int size;
        private final int[] minutes;
        private final int[] kinds;
        private final int[] worths;
        private final int[] people;
        private final int[] props;
        // resters[b] are the people who may not come again b places behind themselves.
        private final int[] resters;
        // Bit first * KINDS + second.
        private int bans;
        // Tells the search for the best order that what it found may hold no more.
        private int changes;

        private Show() {
            minutes = new int[MOST_ACTS];
            kinds = new int[MOST_ACTS];
            worths = new int[MOST_ACTS];
            people = new int[MOST_ACTS];
            props = new int[MOST_ACTS];
            resters = new int[MOST_REST + 1];
            resters[1] = EVERYBODY;
        }

        private int add(int what, int who, int things) {
            if (size >= MOST_ACTS || !canBe(what, who, things)) {
                return NONE;
            }
            int number = size;
            minutes[number] = what / 1000;
            kinds[number] = what / 100 % 10;
            worths[number] = what % 100;
            people[number] = who;
            props[number] = things;
            size++;
            changes++;
            return number;
        }

        private static boolean canBe(int what, int who, int things) {
            if (what < 1000 || what / 1000 > MOST_MINUTES) {
                return false;
            }
            int kind = what / 100 % 10;
            if (kind >= KINDS || who < 0 || who > EVERYBODY) {
                return false;
            }
            return things >= 0 && things <= (kind == CLOWNS ? 0 : ALL_PROPS);
        }

        private boolean setRest(int person, int acts) {
            if (!isIn(person, PEOPLE) || acts < 0 || acts > MOST_REST) {
                return false;
            }
            for (int back = 1; back <= MOST_REST; back++) {
                if (back <= acts) {
                    resters[back] |= 1 << person;
                } else {
                    resters[back] &= ~(1 << person);
                }
            }
            changes++;
            return true;
        }

        private boolean setBan(int first, int second, boolean is) {
            if (!isIn(first, KINDS) || !isIn(second, KINDS) || isBanned(first, second) == is) {
                return false;
            }
            bans ^= 1 << (first * KINDS + second);
            changes++;
            return true;
        }

        private boolean isBanned(int first, int second) {
            return (bans >> (first * KINDS + second) & 1) != 0;
        }

        private boolean isClowns(int number) {
            return kinds[number] == CLOWNS;
        }
    }

    /** A row of acts as it is put together; place by place it keeps what holds ahead of that place. */
    private static final class Order {
        private final Show show;
        private final int[] acts;
        private final int[] used;
        private final int[] ring;
        // Minutes of the clowns since the latest other act.
        private final int[] pause;
        private final int[] gapSum;
        private final int[] worthSum;
        private int breakPlace;

        private Order(Show show) {
            this.show = show;
            acts = new int[MOST_ACTS];
            used = new int[MOST_ACTS + 1];
            ring = new int[MOST_ACTS + 1];
            pause = new int[MOST_ACTS + 1];
            gapSum = new int[MOST_ACTS + 1];
            worthSum = new int[MOST_ACTS + 1];
        }

        private static boolean canBeTold(int order, int n) {
            if (order < 0 || n < 0 || n > MOST_ACTS) {
                return false;
            }
            int rest = order;
            for (int i = 0; i < n; i++) {
                rest /= 10;
            }
            return rest == 0;
        }

        /** The first break of an order that can be told; breakPlace is where it is. */
        private int read(int order, int n) {
            int rest = order;
            for (int place = 0; place < n; place++) {
                int which = put(place, rest % 10);
                if (which != NO_BREAK) {
                    breakPlace = place;
                    return which;
                }
                rest /= 10;
            }
            breakPlace = n;
            return n < show.size ? NOT_ALL_ACTS : NO_BREAK;
        }

        /** Puts an act at a place behind those that stand, unless that breaks something: which. */
        private int put(int place, int act) {
            int which = breakAt(place, act);
            if (which == NO_BREAK) {
                set(place, act);
            }
            return which;
        }

        private int breakAt(int place, int act) {
            if (!isIn(place, MOST_ACTS) || !isIn(act, show.size) || (used[place] >> act & 1) != 0) {
                return NOT_AN_ACT;
            }
            for (int back = 1; back <= MOST_REST && back <= place; back++) {
                int both = show.people[act] & show.people[acts[place - back]];
                if ((both & show.resters[back]) != 0) {
                    return RESTS_TOO_LITTLE;
                }
            }
            if (place > 0 && show.isBanned(show.kinds[acts[place - 1]], show.kinds[act])) {
                return BANNED;
            }
            return NO_BREAK;
        }

        private void set(int place, int act) {
            int behind = place + 1;
            acts[place] = act;
            used[behind] = used[place] | 1 << act;
            worthSum[behind] = worthSum[place] + show.worths[act] * behind;
            if (show.isClowns(act)) {
                gapSum[behind] = gapSum[place];
                ring[behind] = ring[place];
                pause[behind] = pause[place] + show.minutes[act];
            } else {
                int change = 2 * Integer.bitCount(ring[place] ^ show.props[act]);
                gapSum[behind] = gapSum[place] + Math.max(0, change - pause[place]);
                ring[behind] = show.props[act];
                pause[behind] = 0;
            }
        }
    }

    /** The best order, sought again only when the show has changed. */
    private static final class BestOrder {
        private final Show show;
        private final Order row;
        private int seen;
        private boolean found;
        private int leastGaps;
        private int mostWorth;
        private final int[] acts;
        // The fewest minutes that the ring's change to an act can take, without clowns.
        private final int[] leastChange;
        private final int[] byWorth;

        private BestOrder(Show show) {
            this.show = show;
            row = new Order(show);
            acts = new int[MOST_ACTS];
            leastChange = new int[MOST_ACTS];
            byWorth = new int[MOST_ACTS];
        }

        private void refresh() {
            if (seen == show.changes) {
                return;
            }
            seen = show.changes;
            found = false;
            readLeastChanges();
            sortByWorth();
            if (show.size > 0) {
                extend(this, 0);
            }
        }

        // Acts are tried by their numbers, so of equal orders the one with the least comes first.
        private static void extend(BestOrder search, int place) {
            if (place >= MOST_ACTS || place >= search.show.size) {
                search.keep();
                return;
            }
            for (int act = 0; act < search.show.size; act++) {
                if (search.row.put(place, act) == NO_BREAK && search.canWin(place + 1)) {
                    extend(search, place + 1);
                }
            }
        }

        private void keep() {
            found = true;
            leastGaps = row.gapSum[show.size];
            mostWorth = row.worthSum[show.size];
            System.arraycopy(row.acts, 0, acts, 0, MOST_ACTS);
        }

        /** Whether the row, with so many acts, could still become better than what was kept. */
        private boolean canWin(int places) {
            if (!found) {
                return true;
            }
            int gapsToCome = row.gapSum[places] + leastGapsBehind(places);
            if (gapsToCome != leastGaps) {
                return gapsToCome < leastGaps;
            }
            return row.worthSum[places] + mostWorthBehind(places) > mostWorth;
        }

        // A clown's minutes shorten one gap only, so all of them shorten the sum by no more.
        private int leastGapsBehind(int places) {
            int sum = -row.pause[places];
            for (int act = 0; act < show.size; act++) {
                if ((row.used[places] >> act & 1) == 0) {
                    sum += show.isClowns(act) ? -show.minutes[act] : leastChange[act];
                }
            }
            return Math.max(0, sum);
        }

        // No row of the acts left is worth more than that in which worth rises.
        private int mostWorthBehind(int places) {
            int sum = 0;
            int place = places;
            for (int i = 0; i < show.size; i++) {
                int act = byWorth[i];
                if ((row.used[places] >> act & 1) == 0) {
                    place++;
                    sum += show.worths[act] * place;
                }
            }
            return sum;
        }

        private void readLeastChanges() {
            for (int act = 0; act < show.size; act++) {
                int least = Integer.bitCount(show.props[act]);
                for (int other = 0; other < show.size; other++) {
                    if (other != act && !show.isClowns(other)) {
                        least = Math.min(least, Integer.bitCount(show.props[other] ^ show.props[act]));
                    }
                }
                leastChange[act] = 2 * least;
            }
        }

        private void sortByWorth() {
            for (int act = 0; act < show.size; act++) {
                int at = act;
                while (at > 0 && show.worths[byWorth[at - 1]] > show.worths[act]) {
                    byWorth[at] = byWorth[at - 1];
                    at--;
                }
                byWorth[at] = act;
            }
        }
    }

    /** The tent: loads at points, and the ropes that bear them and the wind. */
    private static final class Tent {
        private final int[] loads;
        // The share of point p of rope r is at p * ROPES + r.
        private final int[] shares;
        private final int[] exposures;
        private final int[] parts;
        private final boolean[] bears;
        private final boolean[] slackened;
        private int lost;

        private Tent() {
            loads = new int[POINTS];
            shares = new int[POINTS * ROPES];
            exposures = new int[ROPES];
            parts = new int[ROPES];
            bears = new boolean[ROPES];
            slackened = new boolean[ROPES];
        }

        private static boolean isWind(int wind) {
            return wind >= -MOST_WIND && wind <= MOST_WIND;
        }

        private boolean setLoad(int point, int load) {
            if (!isIn(point, POINTS) || load < 0 || load > MOST_LOAD) {
                return false;
            }
            loads[point] = load;
            return true;
        }

        private boolean setShare(int point, int rope, int much) {
            if (!isIn(point, POINTS) || !isIn(rope, ROPES) || much < 0 || much > WHOLE) {
                return false;
            }
            if (sharesBeside(point, rope) + much > WHOLE) {
                return false;
            }
            shares[point * ROPES + rope] = much;
            return true;
        }

        private int sharesBeside(int point, int rope) {
            int sum = 0;
            for (int other = 0; other < ROPES; other++) {
                if (other != rope) {
                    sum += shares[point * ROPES + other];
                }
            }
            return sum;
        }

        private boolean setExposed(int rope, int by) {
            if (!isIn(rope, ROPES) || by < -MOST_EXPOSED || by > MOST_EXPOSED) {
                return false;
            }
            exposures[rope] = by;
            return true;
        }

        private boolean isUp(int rope) {
            for (int point = 0; point < POINTS; point++) {
                if (shares[point * ROPES + rope] > 0) {
                    return true;
                }
            }
            return exposures[rope] != 0;
        }

        private int ropesUp() {
            int up = 0;
            for (int rope = 0; rope < ROPES; rope++) {
                if (isUp(rope)) {
                    up++;
                }
            }
            return up;
        }

        /** Finds parts, slackened and lost with a wind; each round slackens a rope, or is the last. */
        private void settle(int wind) {
            hang(wind);
            for (int round = 0; round < ROPES; round++) {
                int rope = firstThatPushes();
                if (rope == NONE) {
                    return;
                }
                slacken(rope);
            }
        }

        private void hang(int wind) {
            lost = 0;
            for (int rope = 0; rope < ROPES; rope++) {
                int sum = WHOLE * wind * exposures[rope];
                for (int point = 0; point < POINTS; point++) {
                    sum += loads[point] * shares[point * ROPES + rope];
                }
                parts[rope] = sum;
                bears[rope] = isUp(rope);
                slackened[rope] = false;
            }
        }

        private int firstThatPushes() {
            for (int rope = 0; rope < ROPES; rope++) {
                if (bears[rope] && parts[rope] < 0) {
                    return rope;
                }
            }
            return NONE;
        }

        private void slacken(int rope) {
            int had = parts[rope];
            parts[rope] = 0;
            bears[rope] = false;
            slackened[rope] = true;
            int left = ropesThatBear();
            if (left == 0) {
                lost = had;
            } else {
                spread(had / left, had % left);
            }
        }

        private int ropesThatBear() {
            int left = 0;
            for (int rope = 0; rope < ROPES; rope++) {
                if (bears[rope]) {
                    left++;
                }
            }
            return left;
        }

        // Only a part below 0 is spread, so what is left over is never above 0.
        private void spread(int each, int over) {
            int more = over;
            for (int rope = 0; rope < ROPES; rope++) {
                if (bears[rope]) {
                    parts[rope] += each;
                    if (more < 0) {
                        parts[rope]--;
                        more++;
                    }
                }
            }
        }
    }

    /** The towns and the ways between them. */
    private static final class Road {
        private int size;
        private final int[] takes;
        private final int[] firsts;
        private final int[] lasts;
        // Between towns a and b at a * MOST_TOWNS + b, NONE where there is no way.
        private final int[] ways;
        private final int[] least;
        // Tells the search for the route that what it found may hold no more.
        private int changes;

        private Road() {
            takes = new int[MOST_TOWNS];
            firsts = new int[MOST_TOWNS];
            lasts = new int[MOST_TOWNS];
            ways = new int[MOST_TOWNS * MOST_TOWNS];
            least = new int[MOST_TOWNS * MOST_TOWNS];
            for (int a = 0; a < MOST_TOWNS; a++) {
                for (int b = 0; b < MOST_TOWNS; b++) {
                    ways[a * MOST_TOWNS + b] = a == b ? 0 : NONE;
                    least[a * MOST_TOWNS + b] = a == b ? 0 : NONE;
                }
            }
        }

        private boolean has(int number) {
            return isIn(number, size);
        }

        private int add(int take, int first, int last) {
            if (size >= MOST_TOWNS || take < 0 || take > MOST_TAKE) {
                return NONE;
            }
            if (!isIn(first, NIGHTS) || !isIn(last, NIGHTS) || last < first) {
                return NONE;
            }
            int number = size;
            takes[number] = take;
            firsts[number] = first;
            lasts[number] = last;
            size++;
            changes++;
            return number;
        }

        private boolean join(int a, int b, int hours) {
            if (!has(a) || !has(b) || a == b || hours < 1 || hours > MOST_HOURS) {
                return false;
            }
            ways[a * MOST_TOWNS + b] = hours;
            ways[b * MOST_TOWNS + a] = hours;
            changes++;
            measure();
            return true;
        }

        // A way may have got longer, so nothing measured before can be kept.
        private void measure() {
            System.arraycopy(ways, 0, least, 0, MOST_TOWNS * MOST_TOWNS);
            for (int by = 0; by < size; by++) {
                for (int a = 0; a < size; a++) {
                    for (int b = 0; b < size; b++) {
                        goBy(a, by, b);
                    }
                }
            }
        }

        private void goBy(int a, int by, int b) {
            int there = least[a * MOST_TOWNS + by];
            int on = least[by * MOST_TOWNS + b];
            int now = least[a * MOST_TOWNS + b];
            if (there != NONE && on != NONE && (now == NONE || there + on < now)) {
                least[a * MOST_TOWNS + b] = there + on;
            }
        }

        private int leastHours(int a, int b) {
            return least[a * MOST_TOWNS + b];
        }

        /** The night on which a town is played behind another's night; NONE if it can't be. */
        private int nightBehind(int ahead, int night, int next) {
            int far = leastHours(ahead, next);
            if (far == NONE) {
                return NONE;
            }
            int there = night + (far + HOURS_BY_NIGHT - 1) / HOURS_BY_NIGHT;
            int played = Math.max(there, firsts[next]);
            return played <= lasts[next] ? played : NONE;
        }
    }

    /** The route, sought again only when the road has changed. */
    private static final class BestRoute {
        private final Road road;
        private int seen;
        private int length;
        private int take;
        private final int[] towns;
        private final int[] nights;
        // The row as it is tried; used and takeSum are those ahead of a place.
        private final int[] row;
        private final int[] rowNights;
        private final int[] used;
        private final int[] takeSum;

        private BestRoute(Road road) {
            this.road = road;
            towns = new int[MOST_TOWNS];
            nights = new int[MOST_TOWNS];
            row = new int[MOST_TOWNS];
            rowNights = new int[MOST_TOWNS];
            used = new int[MOST_TOWNS + 1];
            takeSum = new int[MOST_TOWNS + 1];
        }

        private void refresh() {
            if (seen == road.changes) {
                return;
            }
            seen = road.changes;
            length = 0;
            take = 0;
            extend(this, 0);
        }

        // Towns are tried by their numbers, so of equal rows the one with the least comes first.
        private static void extend(BestRoute search, int place) {
            search.keepIfBetter(place);
            if (place >= MOST_TOWNS) {
                return;
            }
            for (int next = 0; next < search.road.size; next++) {
                if (search.put(place, next) && search.canWin(place + 1)) {
                    extend(search, place + 1);
                }
            }
        }

        private boolean put(int place, int next) {
            int night = nightAt(place, next);
            if (night == NONE) {
                return false;
            }
            row[place] = next;
            rowNights[place] = night;
            used[place + 1] = used[place] | 1 << next;
            takeSum[place + 1] = takeSum[place] + road.takes[next];
            return true;
        }

        private int nightAt(int place, int next) {
            if ((used[place] >> next & 1) != 0) {
                return NONE;
            }
            if (place == 0) {
                return road.firsts[next];
            }
            return road.nightBehind(row[place - 1], rowNights[place - 1], next);
        }

        private void keepIfBetter(int places) {
            if (isBetter(places, takeSum[places])) {
                length = places;
                take = takeSum[places];
                System.arraycopy(row, 0, towns, 0, places);
                System.arraycopy(rowNights, 0, nights, 0, places);
            }
        }

        private boolean isBetter(int places, int sum) {
            return places != length ? places > length : sum > take;
        }

        // No town comes earlier by others than straight, so what can't come next can't come later.
        private boolean canWin(int places) {
            int most = places;
            int sum = takeSum[places];
            if (places < MOST_TOWNS) {
                for (int next = 0; next < road.size; next++) {
                    if (nightAt(places, next) != NONE) {
                        most++;
                        sum += road.takes[next];
                    }
                }
            }
            return isBetter(most, sum);
        }
    }

    /** The takings that were told. */
    private static final class Till {
        private int told;
        // Of town t on day d at t * DAYS + d.
        private final int[] sums;
        private final int[] times;
        private int above;
        private int below;

        private Till() {
            sums = new int[MOST_TOWNS * DAYS];
            times = new int[MOST_TOWNS * DAYS];
        }

        private int add(int number, int day, int sum) {
            if (told >= MOST_TAKINGS || !isIn(number, MOST_TOWNS) || !isIn(day, DAYS)) {
                return NONE;
            }
            if (sum < 0 || sum > MOST_TAKING) {
                return NONE;
            }
            sums[number * DAYS + day] += sum;
            times[number * DAYS + day]++;
            told++;
            return told;
        }

        /** Finds above and below, in lowest terms, from the nearest takings that there are. */
        private void foretell(int number, int day) {
            gather(number, number, day, day);
            if (below == 0) {
                gather(number, number, 0, DAYS - 1);
            }
            if (below == 0) {
                gather(0, MOST_TOWNS - 1, day, day);
            }
            if (below == 0) {
                gather(0, MOST_TOWNS - 1, 0, DAYS - 1);
            }
            reduce();
        }

        private void gather(int firstTown, int lastTown, int firstDay, int lastDay) {
            above = 0;
            below = 0;
            for (int number = firstTown; number <= lastTown; number++) {
                for (int day = firstDay; day <= lastDay; day++) {
                    above += sums[number * DAYS + day];
                    below += times[number * DAYS + day];
                }
            }
        }

        private void reduce() {
            int common = commonDivisor(above, below);
            if (common > 0) {
                above /= common;
                below /= common;
            } else {
                below = 1;
            }
        }

        private static int commonDivisor(int a, int b) {
            int greater = a;
            int lesser = b;
            for (int step = 0; step < EUCLID_STEPS && lesser != 0; step++) {
                int rest = greater % lesser;
                greater = lesser;
                lesser = rest;
            }
            return greater;
        }
    }
}
