/** Promises 3, 5 and 7: item, agree, field. */
final class ItemsTest {
    public static void main(String[] args) {
        itemsBeginAsGiven();
        agreeIsForOneItem();
        Checks.finish();
    }

    private static void itemsBeginAsGiven() {
        OrderRows rows = new OrderRows();
        rows.order(0, 50);
        rows.order(0, 60);
        Checks.same("first item", rows.item(1, 1, 100_000, 3), 0);
        rows.tick(20);
        Checks.same("second item", rows.item(0, 100_000, 2, 1), 1);
        int[][] due = {{1, 100_000, 3, 0, 0, 60}, {100_000, 2, 1, 0, 0, 50}};
        for (int item = 0; item < 2; item++) {
            for (int field = 0; field < 6; field++) {
                for (int day : new int[] {0, 19, 20, 21, 9_999}) {
                    Checks.same("field " + field + " of " + item + " on " + day,
                            rows.field(item, field, day), due[item][field]);
                }
            }
        }
        Checks.refused("a new item has no changes", Checks.INDEX, () -> rows.history(0, 0, 0));
    }

    private static void agreeIsForOneItem() {
        OrderRows rows = new OrderRows();
        rows.order(0, 5);
        rows.item(0, 1, 1, 1);
        rows.item(0, 1, 1, 1);
        rows.made(0, 1);
        rows.made(1, 1);
        rows.agree(0, 1);
        Checks.refused("the other item's rule", Checks.TURN, () -> rows.change(1, 0, 5, 0, 1));
        rows.change(0, 0, 5, 0, 1);
        rows.agree(0, 99);
        Checks.refused("not the rule agreed last", Checks.TURN, () -> rows.change(0, 0, 6, 0, 1));
        rows.change(0, 0, 7, 0, 99);
        Checks.same("changed by the last rule", rows.field(0, 0, 0), 7);
    }
}
