/** Promise 24 and the days of the Terms at their boundaries: a method for each sentence of the document. */
final class TimeBoundariesTest {
    public static void main(String[] args) {
        Checks.sentence("Terms: TODAY is 0 at first", TimeBoundariesTest::todayAtFirst);
        Checks.sentence("24 (1 .. 1,000 days): today", TimeBoundariesTest::tickAtItsEnds);
        Checks.sentence("24 Range: the days", TimeBoundariesTest::tickOutOfRange);
        Checks.sentence("24 or beyond 9,999", TimeBoundariesTest::tickBeyondTheLastDay);
        Checks.sentence("512 calls", TimeBoundariesTest::fiveHundredAndTwelveCalls);
        Checks.finish();
    }

    private static void todayAtFirst() {
        Checks.same("an order due on day 0", new OrderRows().order(0, 0), 0);
        OrderRows rows = Boundary.withItem(1, 2);
        Checks.same("from which day weights hold", rows.history(0, 0, 2), 0);
        Checks.same("on which day they were told", rows.history(0, 0, 3), 0);
        Checks.same("the first tick", new OrderRows().tick(1), 1);
    }

    private static void tickAtItsEnds() {
        OrderRows rows = new OrderRows();
        Checks.same("tick(1)", rows.tick(1), 1);
        Checks.same("tick(1000)", rows.tick(1_000), 1_001);
        Checks.same("tick(999)", rows.tick(999), 2_000);
        Checks.same("tick(1) again", rows.tick(1), 2_001);
    }

    private static OrderRows onDay(int day) {
        OrderRows rows = Boundary.withItem(1, 2);
        Boundary.goTo(rows, day);
        return rows;
    }

    private static void tickOutOfRange() {
        for (int days : new int[] {0, -1, 1_001, Boundary.LOWEST, Boundary.HIGHEST}) {
            Boundary.refused("tick(" + days + ")", Checks.RANGE, () -> onDay(0), rows -> rows.tick(days));
            Boundary.refused("tick(" + days + ") on day 60", Checks.RANGE, () -> onDay(60), rows -> rows.tick(days));
        }
    }

    private static void tickBeyondTheLastDay() {
        Checks.same("to the last day by 1,000", onDay(8_999).tick(1_000), 9_999);
        Boundary.refused("beyond it by 1,000", Checks.RANGE, () -> onDay(9_000), rows -> rows.tick(1_000));
        Checks.same("to the last day by 1", onDay(9_998).tick(1), 9_999);
        Boundary.refused("beyond it by 1", Checks.RANGE, () -> onDay(9_998), rows -> rows.tick(2));
        for (int days : new int[] {1, 1_000, Boundary.HIGHEST}) {
            Boundary.refused("on it, tick(" + days + ")", Checks.RANGE, () -> onDay(9_999), rows -> rows.tick(days));
        }
    }

    private static void fiveHundredAndTwelveCalls() {
        OrderRows rows = new OrderRows();
        for (int call = 1; call <= 512; call++) {
            Checks.same("call " + call, rows.tick(1), call);
        }
    }
}
