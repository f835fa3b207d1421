import java.util.ArrayList;
import java.util.List;

/**
 * "What is refused changes nothing": of two circuses of the same calls one is refused something, and
 * both answer alike from then on.
 */
public final class RefusedTest {
    private static final Check CHECK = new Check();
    private static final int MIN = Integer.MIN_VALUE;
    private static final int MAX = Integer.MAX_VALUE;
    // With those ahead of them and the questions, they stay below an object's 512 calls.
    private static final int MOST_AT_ONCE = 90;
    private static final int[] WINDS = {-100, -7, 0, 7, 100};
    private static final int[] ORDERS = {0, 10, 210, 3210, 43210, 543210, 6543210, 76543210, 1234567, 24135};

    /** A call by its name; a ban's third argument is 1 for true. */
    private record Call(String name, int... args) {
        long on(CircusRoad x) {
            return switch (name) {
                case "act" -> x.act(args[0], args[1], args[2]);
                case "rests" -> told(x.rests(args[0], args[1]));
                case "ban" -> told(x.ban(args[0], args[1], args[2] == 1));
                case "load" -> told(x.load(args[0], args[1]));
                case "share" -> told(x.share(args[0], args[1], args[2]));
                case "exposed" -> told(x.exposed(args[0], args[1]));
                case "town" -> x.town(args[0], args[1], args[2]);
                case "way" -> told(x.way(args[0], args[1], args[2]));
                case "took" -> x.took(args[0], args[1], args[2]);
                default -> throw new IllegalArgumentException(name);
            };
        }

        boolean answersNumbers() {
            return name.equals("act") || name.equals("town") || name.equals("took");
        }

        String text() {
            StringBuilder text = new StringBuilder(name).append('(');
            for (int i = 0; i < args.length; i++) {
                text.append(i > 0 ? ", " : "").append(args[i]);
            }
            return text.append(')').toString();
        }

        private static long told(boolean is) {
            return is ? 1 : 0;
        }
    }

    public static void main(String[] args) {
        statesHaveAnswers();
        inState("a new one", new ArrayList<>(), always(), noTownsYet(), noBansYet());
        inState("people who rest", resting(), always(), noBansYet());
        inState("a mixed one", mixed(), always(), whereMixed());
        inState("a full one", full(), always(), whereMixed(), whereFull());
        CHECK.end();
    }

    /** A state without a best order or a route of several towns would hide what changed it. */
    private static void statesHaveAnswers() {
        for (List<Call> calls : List.of(mixed(), full())) {
            CircusRoad x = new CircusRoad();
            for (Call call : calls) {
                CHECK.that(call.text() + " is refused", call.on(x) >= (call.answersNumbers() ? 0 : 1));
            }
            CHECK.that("there is no best order", x.best() > 0);
            CHECK.that("the route is short", x.route() > 3);
        }
    }

    @SafeVarargs
    private static void inState(String state, List<Call> calls, List<Call>... refused) {
        List<Call> all = new ArrayList<>();
        for (List<Call> some : refused) {
            all.addAll(some);
        }
        for (Call call : all) {
            CHECK.about("what is refused changes nothing, " + state + ", " + call.text());
            alike(calls, List.of(call));
        }
        for (int from = 0; from < all.size(); from += MOST_AT_ONCE) {
            int to = Math.min(from + MOST_AT_ONCE, all.size());
            CHECK.about("what is refused changes nothing, " + state + ", " + from + " to " + to + " in a row");
            alike(calls, all.subList(from, to));
        }
    }

    private static void alike(List<Call> calls, List<Call> refused) {
        CircusRoad with = new CircusRoad();
        CircusRoad without = new CircusRoad();
        for (Call call : calls) {
            CHECK.due(call.text(), call.on(with), call.on(without));
        }
        for (Call call : refused) {
            CHECK.due(call.text(), call.on(with), call.answersNumbers() ? -1 : 0);
        }
        compare("", answers(with), answers(without));
        for (Call call : later()) {
            CHECK.due(call.text() + " later", call.on(with), call.on(without));
        }
        compare("later, ", counts(with), counts(without));
    }

    private static void compare(String when, List<Long> got, List<Long> want) {
        for (int i = 0; i < want.size(); i++) {
            CHECK.due(when + "question " + i, got.get(i), want.get(i));
        }
    }

    private static List<Long> answers(CircusRoad x) {
        List<Long> all = counts(x);
        askShow(x, all);
        askTent(x, all);
        askRoad(x, all);
        for (int i = 0; i < 56; i++) {
            all.add((long) x.foretold(i / 7, i % 7, 0));
            all.add((long) x.foretold(i / 7, i % 7, 1));
        }
        return all;
    }

    private static List<Long> counts(CircusRoad x) {
        List<Long> all = new ArrayList<>();
        for (int what = 0; what < 5; what++) {
            all.add((long) x.count(what));
        }
        return all;
    }

    private static void askShow(CircusRoad x, List<Long> all) {
        all.add((long) x.best());
        for (int i = 0; i < 8; i++) {
            all.add((long) x.bestAt(i));
        }
        for (int i = 0; i < ORDERS.length; i++) {
            int n = Math.min(i + 1, 8);
            all.add((long) x.judge(ORDERS[i], n, 0));
            all.add((long) x.judge(ORDERS[i], n, 1));
            all.add((long) x.gaps(ORDERS[i], n));
        }
        for (int person = 0; person < 10; person++) {
            int a = FIRST_WITH[person];
            int b = SECOND_WITH[person];
            all.add((long) x.judge(b * 10 + a, 2, 1));
            all.add((long) x.judge(b * 100 + 50 + a, 3, 1));
            all.add((long) x.judge(b * 1000 + 650 + a, 4, 1));
        }
    }

    private static void askTent(CircusRoad x, List<Long> all) {
        for (int wind : WINDS) {
            for (int rope = 0; rope < 8; rope++) {
                all.add((long) x.part(rope, wind));
                all.add(x.slack(rope, wind) ? 1L : 0L);
            }
            all.add((long) x.gone(wind));
        }
    }

    private static void askRoad(CircusRoad x, List<Long> all) {
        for (int a = 0; a < 8; a++) {
            for (int b = 0; b <= a; b++) {
                all.add((long) x.hours(a, b));
            }
        }
        all.add((long) x.route());
        for (int i = 0; i < 8; i++) {
            all.add((long) x.routeAt(i, 0));
            all.add((long) x.routeAt(i, 1));
        }
    }

    /** What can be done still shows whether a number was lost, or a place taken. */
    private static List<Call> later() {
        return List.of(
            new Call("share", 0, 1, 100), new Call("share", 7, 7, 50), new Call("load", 7, 1),
            new Call("ban", 1, 2, 1), new Call("ban", 0, 0, 0), new Call("town", 1, 2, 3),
            new Call("way", 0, 1, 5), new Call("took", 0, 6, 1), new Call("act", 1000, 0, 0));
    }

    // Each person is in two of the acts 0 to 4, each two of these acts have one person of both.
    private static final int[] FIRST_WITH = {0, 0, 0, 0, 1, 1, 1, 2, 2, 3};
    private static final int[] SECOND_WITH = {1, 2, 3, 4, 2, 3, 4, 3, 4, 4};

    private static List<Call> resting() {
        List<Call> calls = new ArrayList<>();
        for (int act = 0; act < 7; act++) {
            int who = 0;
            for (int person = 0; person < 10; person++) {
                if (FIRST_WITH[person] == act || SECOND_WITH[person] == act) {
                    who |= 1 << person;
                }
            }
            calls.add(new Call("act", 1000, who, 0));
        }
        for (int person = 0; person < 10; person++) {
            calls.add(new Call("rests", person, person % 4));
        }
        calls.add(new Call("town", 1, 0, 29));
        return calls;
    }

    private static List<Call> mixed() {
        List<Call> calls = new ArrayList<>();
        for (int i = 0; i < 6; i++) {
            int kind = i % 4;
            calls.add(new Call("act", (i + 1) * 1000 + kind * 100 + i * 7, 1 << i % 3, kind == 3 ? 0 : i * 41));
        }
        calls.add(new Call("ban", 0, 0, 1));
        calls.add(new Call("ban", 3, 2, 1));
        for (int i = 0; i < 8; i++) {
            calls.add(new Call("share", i, i, 90));
            calls.add(new Call("share", i, (i + 3) % 8, 10));
            calls.add(new Call("load", i, 100 + i * 11));
            calls.add(new Call("exposed", i, i * 2 - 7));
        }
        for (int i = 0; i < 6; i++) {
            calls.add(new Call("town", i * 10, i, 29));
        }
        for (int i = 0; i < 4; i++) {
            calls.add(new Call("way", i, i + 1, 15 + i));
        }
        for (int i = 0; i < 9; i++) {
            calls.add(new Call("took", i % 4, i * 2 % 7, i * i));
        }
        return calls;
    }

    private static List<Call> full() {
        List<Call> calls = mixed();
        calls.add(new Call("act", 9255, 0, 129));
        calls.add(new Call("act", 8344, 0, 0));
        calls.add(new Call("town", 70, 3, 9));
        calls.add(new Call("town", 80, 4, 4));
        calls.add(new Call("way", 6, 7, 10));
        return calls;
    }

    private static List<Call> always() {
        List<Call> calls = new ArrayList<>();
        int[] noWhats = {MIN, -1000, 0, 999, 1400, 60400, 61000, MAX};
        for (int what : noWhats) {
            calls.add(new Call("act", what, 0, 0));
        }
        int[] noWho = {MIN, -1, 1024, MAX};
        for (int who : noWho) {
            calls.add(new Call("act", 1000, who, 0));
            calls.add(new Call("took", 0, who, 5));
        }
        int[] noProps = {MIN, -1, 256, MAX};
        for (int props : noProps) {
            calls.add(new Call("act", 1000, 0, props));
            calls.add(new Call("act", 1300, 0, props));
        }
        calls.add(new Call("act", 1300, 0, 1));
        for (int person = 0; person < 10; person++) {
            calls.add(new Call("rests", person, -1));
            calls.add(new Call("rests", person, 4));
        }
        int[] nowhere = {MIN, -1, 10, 32, MAX};
        for (int none : nowhere) {
            calls.addAll(alwaysAt(none));
        }
        for (int i = 0; i < 8; i++) {
            calls.addAll(alwaysBy(i));
        }
        calls.addAll(alwaysTowns());
        return calls;
    }

    private static List<Call> alwaysAt(int none) {
        return List.of(
            new Call("rests", none, 0), new Call("rests", none, 3), new Call("rests", 0, MAX),
            new Call("ban", none, 0, 1), new Call("ban", 0, none, 1), new Call("ban", none, 0, 0),
            new Call("load", none, 5), new Call("share", none, 0, 0), new Call("share", 0, none, 0),
            new Call("exposed", none, 3), new Call("way", none, 0, 1), new Call("way", 0, none, 1),
            new Call("took", none, 0, 5), new Call("took", 0, none, 5));
    }

    private static List<Call> alwaysBy(int i) {
        return List.of(
            new Call("load", i, -1), new Call("load", i, 10001), new Call("load", i, MIN), new Call("load", i, MAX),
            new Call("share", i, i, -1), new Call("share", i, i, 101), new Call("share", i, i, MIN),
            new Call("share", i, i, MAX), new Call("exposed", i, -10), new Call("exposed", i, 10),
            new Call("exposed", i, MIN), new Call("exposed", i, MAX), new Call("way", i, i, 5),
            new Call("took", i, 7, 5), new Call("took", i, -1, 5), new Call("took", i, 0, -1),
            new Call("took", i, 0, 1000001), new Call("took", i, 0, MIN), new Call("took", i, 0, MAX));
    }

    private static List<Call> alwaysTowns() {
        return List.of(
            new Call("town", -1, 0, 0), new Call("town", 10001, 0, 0), new Call("town", MIN, 0, 0),
            new Call("town", MAX, 0, 0), new Call("town", 0, -1, 0), new Call("town", 0, 0, 30),
            new Call("town", 0, 1, 0), new Call("town", 0, 29, 28), new Call("town", 0, MIN, 0),
            new Call("town", 0, 0, MAX), new Call("way", 0, 1, 0), new Call("way", 0, 1, -1),
            new Call("way", 0, 1, 100), new Call("way", 1, 0, MIN), new Call("way", 1, 0, MAX));
    }

    private static List<Call> noTownsYet() {
        return List.of(
            new Call("way", 0, 1, 5), new Call("way", 1, 0, 5), new Call("took", 0, 0, 5), new Call("took", 7, 6, 5));
    }

    private static List<Call> noBansYet() {
        List<Call> calls = new ArrayList<>();
        for (int i = 0; i < 16; i++) {
            calls.add(new Call("ban", i / 4, i % 4, 0));
        }
        return calls;
    }

    private static List<Call> whereMixed() {
        List<Call> calls = new ArrayList<>();
        calls.add(new Call("ban", 0, 0, 1));
        calls.add(new Call("ban", 3, 2, 1));
        calls.add(new Call("ban", 2, 3, 0));
        for (int i = 0; i < 8; i++) {
            calls.add(new Call("share", i, i, 91));
            calls.add(new Call("share", i, (i + 3) % 8, 11));
            calls.add(new Call("share", i, (i + 1) % 8, 1));
        }
        calls.add(new Call("way", 0, 8, 1));
        calls.add(new Call("way", 8, 0, 1));
        calls.add(new Call("took", 8, 0, 5));
        return calls;
    }

    private static List<Call> whereFull() {
        return List.of(
            new Call("act", 1000, 0, 0), new Call("act", 60399, 1023, 0), new Call("town", 0, 0, 0),
            new Call("town", 10000, 0, 29));
    }
}
