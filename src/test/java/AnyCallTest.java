/** No call throws or answers what it never may, for any arguments in any state (LANGUAGE.md, rule 7). */
public final class AnyCallTest {
    private static final Check CHECK = new Check();
    private static final int[] NUMBERS = {
        Integer.MIN_VALUE, Integer.MIN_VALUE + 1, -1000000, -101, -100, -10, -9, -1, 0, 1, 2, 3, 4, 5, 7, 8, 9,
        10, 29, 30, 31, 32, 60, 99, 100, 101, 255, 256, 999, 1000, 1023, 1024, 1300, 10000, 10001, 60399, 61000,
        1000000, 1000001, 76543210, 100000000, Integer.MAX_VALUE - 1, Integer.MAX_VALUE,
    };
    private static final int MOST_CALLS = 512;

    private CircusRoad x;
    private int calls;
    private int state;

    public static void main(String[] args) {
        CHECK.about("any call");
        for (int state = 0; state < 3; state++) {
            AnyCallTest test = new AnyCallTest();
            test.state = state;
            test.withThree();
            test.withTwo();
            test.withOne();
        }
        longUse();
        CHECK.end();
    }

    /** The object for the next call, a new one if the last was used up. */
    private CircusRoad next() {
        if (x == null || calls >= MOST_CALLS) {
            x = begun(state);
            calls = 30;
        }
        calls++;
        return x;
    }

    /** Nothing, something or as much as there may be. */
    private static CircusRoad begun(int state) {
        CircusRoad x = new CircusRoad();
        for (int i = 0; i < state * 4; i++) {
            x.act((i + 1) * 1000 + i % 4 * 100 + i, 1 << i, i % 4 == 3 ? 0 : i * 30);
            x.town(i, i, i + 10);
            x.exposed(i, i - 3);
        }
        return x;
    }

    private static void within(String call, long got, long least, long most) {
        CHECK.that(call + " answered " + got, got >= least && got <= most);
    }

    private void withThree() {
        for (int a : NUMBERS) {
            for (int b : NUMBERS) {
                for (int c : NUMBERS) {
                    within("act", next().act(a, b, c), -1, 7);
                    within("judge", next().judge(a, b, c), -1, 8);
                    next().share(a, b, c);
                    within("town", next().town(a, b, c), -1, 7);
                    next().way(a, b, c);
                    within("took", next().took(a, b, c), -1, 500);
                    within("foretold", next().foretold(a, b, c), -1, 500000000);
                }
            }
        }
    }

    private void withTwo() {
        for (int a : NUMBERS) {
            for (int b : NUMBERS) {
                next().rests(a, b);
                next().ban(a, b, true);
                next().ban(a, b, false);
                within("gaps", next().gaps(a, b), -1, 128);
                next().load(a, b);
                next().exposed(a, b);
                within("part", next().part(a, b), -1, 8720000);
                next().slack(a, b);
                within("hours", next().hours(a, b), -1, 693);
                within("routeAt", next().routeAt(a, b), -1, 29);
            }
        }
    }

    private void withOne() {
        for (int a : NUMBERS) {
            within("bestAt", next().bestAt(a), -1, 7);
            within("gone", next().gone(a), -720000, 0);
            within("count", next().count(a), -1, 500);
            within("best", next().best(), -1, 128);
            within("route", next().route(), 0, 8);
        }
    }

    /** What calls behind the 512th answer is free, but they end without throwing. */
    private static void longUse() {
        AnyCallTest test = new AnyCallTest();
        test.x = begun(2);
        for (int i = 0; i < 100000; i++) {
            test.x.took(i % 8, i % 7, 1000000);
            test.x.rests(i % 10, i % 4);
            test.x.ban(i % 4, i / 4 % 4, i % 3 == 0);
            test.x.foretold(i % 8, i % 7, i % 2);
            test.x.part(i % 8, i % 201 - 100);
        }
        within("count(4)", test.x.count(4), 0, Integer.MAX_VALUE);
    }
}
