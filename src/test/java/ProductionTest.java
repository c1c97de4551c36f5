/** Promises 10, 11, 12 and 23: made, state, rest, late. */
final class ProductionTest {
    public static void main(String[] args) {
        statesFollowTheirOrder();
        statesLookAtTheirDay();
        restIsAsOfToday();
        lateGoesByNumbers();
        Checks.finish();
    }

    private static OrderRows withItems(int items) {
        OrderRows rows = new OrderRows();
        rows.order(0, 10);
        for (int i = 0; i < items; i++) {
            rows.item(0, 5, 6, 7);
        }
        return rows;
    }

    private static void statesFollowTheirOrder() {
        OrderRows rows = withItems(1);
        Checks.same("0 of 0 kilos", rows.state(0, 0), 2);
        rows.weights(0, 10, 20);
        Checks.same("open on the due day", rows.state(0, 10), 0);
        Checks.same("late on the day after", rows.state(0, 11), 1);
        rows.made(0, 9);
        Checks.same("one below least", rows.state(0, 10), 0);
        Checks.same("one below least, late", rows.state(0, 9_999), 1);
        rows.made(0, 1);
        Checks.same("least", rows.state(0, 10), 2);
        Checks.same("least, after the due day", rows.state(0, 11), 2);
        rows.made(0, 10);
        Checks.same("most", rows.state(0, 0), 2);
        rows.made(0, 1);
        Checks.same("above most", rows.state(0, 0), 3);
        Checks.same("above most, after the due day", rows.state(0, 9_999), 3);
    }

    private static void statesLookAtTheirDay() {
        OrderRows rows = withItems(2);
        rows.weights(0, 5, 8);
        rows.tick(3);
        rows.made(0, 4);
        rows.made(1, 4);
        rows.tick(2);
        rows.made(0, 1);
        rows.tick(10);
        rows.made(0, 9);
        int[][] dayAndState = {{0, 0}, {3, 0}, {4, 0}, {5, 2}, {14, 2}, {15, 3}, {9_999, 3}};
        for (int[] due : dayAndState) {
            Checks.same("state on " + due[0], rows.state(0, due[0]), due[1]);
        }
        Checks.same("item 1 before it was made", rows.state(1, 2), 2);
        Checks.same("item 1 from then on", rows.state(1, 3), 3);
        rows.change(0, 3, 4, 1, 0);
        Checks.same("before the first was made", rows.state(0, 2), 0);
        Checks.same("from then on", rows.state(0, 3), 2);
        rows.change(0, 3, 6, 4, 0);
        Checks.same("by the least of that day", rows.state(0, 5), 0);
        rows.change(0, 5, 15, 6, 0);
        Checks.same("late by the due day of that day", rows.state(0, 11), 0);
        rows.change(0, 5, 15, 0, 0);
        rows.change(0, 4, 20, 15, 0);
        Checks.same("by the most of that day", rows.state(0, 15), 2);
    }

    private static void restIsAsOfToday() {
        OrderRows rows = withItems(1);
        Checks.same("of 0 kilos", rows.rest(0), 0);
        rows.weights(0, 10, 20);
        Checks.same("nothing made", rows.rest(0), 10);
        rows.made(0, 4);
        Checks.same("some made", rows.rest(0), 6);
        rows.change(0, 3, 15, 1, 0);
        Checks.same("a change of tomorrow", rows.rest(0), 6);
        rows.tick(1);
        Checks.same("holds tomorrow", rows.rest(0), 11);
        rows.made(0, 11);
        Checks.same("least made", rows.rest(0), 0);
        rows.made(0, 100);
        Checks.same("more made", rows.rest(0), 0);
    }

    private static void lateGoesByNumbers() {
        OrderRows rows = withItems(5);
        for (int wrong : new int[] {-1, Integer.MIN_VALUE}) {
            Checks.refused("late(" + wrong + ")", Checks.INDEX, () -> rows.late(wrong));
        }
        for (int item : new int[] {1, 3, 4}) {
            rows.weights(item, 5, 9);
        }
        rows.change(3, 5, 11, 11, 0);
        rows.tick(10);
        Checks.same("none on the due day", rows.late(0), -1);
        rows.tick(1);
        Checks.same("first on the day after", rows.late(0), 1);
        Checks.same("second", rows.late(1), 4);
        Checks.same("third", rows.late(2), -1);
        rows.tick(1);
        Checks.same("one more day", rows.late(1), 3);
        Checks.same("pushed back", rows.late(2), 4);
        rows.made(1, 5);
        Checks.same("met is not late", rows.late(0), 3);
        rows.weights(0, 1, 1);
        Checks.same("the first item", rows.late(0), 0);
        Checks.same("far behind", rows.late(Integer.MAX_VALUE), -1);
    }
}
