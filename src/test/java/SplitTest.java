/** Promise 9: split. */
final class SplitTest {
    public static void main(String[] args) {
        kilosComeOffMostAndLeast();
        thePartHasTheFieldsOfToday();
        thePartStandsForItself();
        Checks.finish();
    }

    private static OrderRows withItem(int least, int most) {
        OrderRows rows = new OrderRows();
        rows.order(0, 50);
        rows.item(0, 5, 6, 7);
        rows.weights(0, least, most);
        return rows;
    }

    private static void weigh(OrderRows rows, int item, int day, int least, int most) {
        Checks.same("least of " + item + " on " + day, rows.field(item, 3, day), least);
        Checks.same("most of " + item + " on " + day, rows.field(item, 4, day), most);
    }

    private static void kilosComeOffMostAndLeast() {
        OrderRows rows = withItem(100, 300);
        rows.tick(5);
        Checks.same("the part's number", rows.split(0, 40), 1);
        weigh(rows, 0, 4, 100, 300);
        weigh(rows, 0, 5, 60, 260);
        weigh(rows, 0, 9_999, 60, 260);
        weigh(rows, 1, 5, 40, 40);
        Checks.same("a second part", rows.split(0, 100), 2);
        weigh(rows, 0, 5, 0, 160);
        weigh(rows, 2, 5, 60, 100);
        Checks.same("all that is left", rows.split(0, 160), 3);
        weigh(rows, 0, 5, 0, 0);
        weigh(rows, 3, 5, 0, 160);
        Checks.refused("nothing is left", Checks.RANGE, () -> rows.split(0, 1));
        Checks.refused("three splits and weights are eight changes", Checks.INDEX, () -> rows.history(0, 8, 0));
        int[][] due = {{4, 260, 5, 5}, {3, 60, 5, 5}, {4, 160, 5, 5}, {3, 0, 5, 5}, {4, 0, 5, 5}, {3, 0, 5, 5}};
        for (int i = 0; i < due.length; i++) {
            for (int what = 0; what < 4; what++) {
                Checks.same("history " + i + " " + what, rows.history(0, i + 2, what), due[i][what]);
            }
        }
    }

    private static void thePartHasTheFieldsOfToday() {
        OrderRows rows = withItem(10, 20);
        rows.change(0, 0, 50, 3, 0);
        rows.change(0, 1, 60, 4, 0);
        rows.change(0, 5, 70, 2, 0);
        rows.tick(3);
        rows.split(0, 5);
        int[] due = {50, 6, 7, 5, 5, 70};
        for (int field = 0; field < 6; field++) {
            for (int day : new int[] {0, 3, 4, 9_999}) {
                Checks.same("field " + field + " on " + day, rows.field(1, field, day), due[field]);
            }
        }
        Checks.refused("the part has no changes yet", Checks.INDEX, () -> rows.history(1, 0, 0));
        rows.change(0, 3, 1, 4, 0);
        rows.change(0, 4, 2, 4, 0);
        rows.split(0, 3);
        weigh(rows, 2, 3, 3, 3);
        weigh(rows, 0, 3, 2, 12);
        weigh(rows, 0, 4, 1, 2);
    }

    private static void thePartStandsForItself() {
        OrderRows rows = withItem(10, 20);
        rows.agree(0, 7);
        rows.split(0, 5);
        Checks.same("its order is the item's", rows.ready(0), false);
        rows.made(0, 10);
        Checks.same("the part is not made with the item", rows.ready(0), false);
        rows.made(1, 5);
        Checks.same("both are met", rows.ready(0), true);
        Checks.refused("the item's rule is not the part's", Checks.TURN, () -> rows.change(1, 0, 1, 0, 7));
        rows.order(1, 60);
        rows.item(1, 1, 1, 1);
        rows.weights(2, 1, 1);
        Checks.same("an item of another order", rows.split(2, 1), 3);
        Checks.same("its part is not of order 0", rows.ready(0), true);
        Checks.same("its part is of order 1", rows.ready(1), false);
    }
}
