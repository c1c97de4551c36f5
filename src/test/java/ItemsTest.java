/** Promises 3, 5 and 7: item, agree, field. */
final class ItemsTest {
    public static void main(String[] args) {
        itemsBeginAsGiven();
        itemsAreRefused();
        itemsAreAtMostSixty();
        fieldsAreRefused();
        agreeIsRefused();
        agreeIsForOneItem();
        Checks.finish();
    }

    private static void itemsBeginAsGiven() {
        OrderRows rows = new OrderRows();
        rows.order(0, 50);
        rows.order(0, 60);
        Checks.same("first item", rows.item(1, 1, 100_000, 3), 0);
        rows.tick(20);
        Checks.same("second item", rows.item(0, 100_000, 2, 1), 1);
        int[][] due = {{1, 100_000, 3, 0, 0, 60}, {100_000, 2, 1, 0, 0, 50}};
        for (int item = 0; item < 2; item++) {
            for (int field = 0; field < 6; field++) {
                for (int day : new int[] {0, 19, 20, 21, 9_999}) {
                    Checks.same("field " + field + " of " + item + " on " + day,
                            rows.field(item, field, day), due[item][field]);
                }
            }
        }
        Checks.refused("a new item has no changes", Checks.INDEX, () -> rows.history(0, 0, 0));
    }

    private static void itemsAreRefused() {
        OrderRows rows = new OrderRows();
        rows.order(0, 5);
        for (int order : new int[] {-1, 1, Integer.MIN_VALUE, Integer.MAX_VALUE}) {
            Checks.refused("order " + order, Checks.INDEX, () -> rows.item(order, 0, 0, 0));
        }
        for (int size : new int[] {0, -1, 100_001, Integer.MIN_VALUE, Integer.MAX_VALUE}) {
            Checks.refused("thick " + size, Checks.RANGE, () -> rows.item(0, size, 1, 1));
            Checks.refused("width " + size, Checks.RANGE, () -> rows.item(0, 1, size, 1));
            Checks.refused("length " + size, Checks.RANGE, () -> rows.item(0, 1, 1, size));
        }
        rows.tick(6);
        Checks.same("an item of an order past its day", rows.item(0, 1, 1, 1), 0);
    }

    private static void itemsAreAtMostSixty() {
        OrderRows rows = new OrderRows();
        rows.order(0, 5);
        for (int i = 0; i < 60; i++) {
            Checks.same("item " + i, rows.item(0, i + 1, 1, 1), i);
        }
        Checks.refused("item 60", Checks.MEANING, () -> rows.item(0, 1, 1, 1));
        Checks.refused("item 60, no order", Checks.INDEX, () -> rows.item(1, 1, 1, 1));
        Checks.refused("item 60, no size", Checks.RANGE, () -> rows.item(0, 0, 1, 1));
        Checks.same("the last item", rows.field(59, 0, 0), 60);
        Checks.same("the first item", rows.field(0, 0, 0), 1);
    }

    private static void fieldsAreRefused() {
        OrderRows rows = new OrderRows();
        rows.order(0, 5);
        rows.item(0, 1, 1, 1);
        for (int wrong : new int[] {-1, 1, Integer.MIN_VALUE, Integer.MAX_VALUE}) {
            Checks.refused("field of item " + wrong, Checks.INDEX, () -> rows.field(wrong, 0, -1));
        }
        for (int wrong : new int[] {-1, 6, Integer.MIN_VALUE, Integer.MAX_VALUE}) {
            Checks.refused("field " + wrong, Checks.INDEX, () -> rows.field(0, wrong, -1));
        }
        for (int wrong : new int[] {-1, 10_000, Integer.MIN_VALUE, Integer.MAX_VALUE}) {
            Checks.refused("day " + wrong, Checks.RANGE, () -> rows.field(0, 5, wrong));
        }
    }

    private static void agreeIsRefused() {
        OrderRows rows = new OrderRows();
        rows.order(0, 5);
        rows.item(0, 1, 1, 1);
        for (int wrong : new int[] {-1, 1, Integer.MIN_VALUE, Integer.MAX_VALUE}) {
            Checks.refused("agree of item " + wrong, Checks.INDEX, () -> rows.agree(wrong, 0));
        }
        for (int wrong : new int[] {0, -1, 100, Integer.MIN_VALUE, Integer.MAX_VALUE}) {
            Checks.refused("rule " + wrong, Checks.RANGE, () -> rows.agree(0, wrong));
        }
    }

    private static void agreeIsForOneItem() {
        OrderRows rows = new OrderRows();
        rows.order(0, 5);
        rows.item(0, 1, 1, 1);
        rows.item(0, 1, 1, 1);
        rows.made(0, 1);
        rows.made(1, 1);
        rows.agree(0, 1);
        Checks.refused("the other item's rule", Checks.TURN, () -> rows.change(1, 0, 5, 0, 1));
        rows.change(0, 0, 5, 0, 1);
        rows.agree(0, 99);
        Checks.refused("not the rule agreed last", Checks.TURN, () -> rows.change(0, 0, 6, 0, 1));
        rows.change(0, 0, 7, 0, 99);
        Checks.same("changed by the last rule", rows.field(0, 0, 0), 7);
    }
}
