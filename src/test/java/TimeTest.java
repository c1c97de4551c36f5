/** Promise 24: tick. */
final class TimeTest {
    public static void main(String[] args) {
        OrderRows rows = new OrderRows();
        for (int wrong : new int[] {0, -1, 1_001, Integer.MIN_VALUE, Integer.MAX_VALUE}) {
            Checks.refused("tick(" + wrong + ")", Checks.RANGE, () -> rows.tick(wrong));
        }
        Checks.same("tick(1)", rows.tick(1), 1);
        Checks.same("tick(1000)", rows.tick(1_000), 1_001);
        for (int i = 2; i <= 9; i++) {
            Checks.same("tick on", rows.tick(1_000), i * 1_000 + 1);
        }
        Checks.refused("tick beyond the last day", Checks.RANGE, () -> rows.tick(999));
        Checks.same("tick to the last day", rows.tick(998), 9_999);
        Checks.refused("tick on the last day", Checks.RANGE, () -> rows.tick(1));
        Checks.same("an order due on the last day", rows.order(0, 9_999), 0);
        Checks.refused("an order due yesterday", Checks.RANGE, () -> rows.order(0, 9_998));
        Checks.finish();
    }
}
