/** Promises 2, 21 and 22: order, join, ready. */
final class OrdersTest {
    public static void main(String[] args) {
        ordersAreNumbered();
        readyLooksAtTheWholeGroup();
        Checks.finish();
    }

    private static void ordersAreNumbered() {
        OrderRows rows = new OrderRows();
        Checks.same("first order", rows.order(0, 0), 0);
        Checks.same("second order", rows.order(9, 9_999), 1);
        Checks.same("third order", rows.order(0, 5), 2);
        rows.tick(5);
        Checks.same("an order due today", rows.order(4, 5), 3);
    }

    private static void readyLooksAtTheWholeGroup() {
        OrderRows rows = new OrderRows();
        rows.order(0, 10);
        rows.order(1, 10);
        rows.order(2, 10);
        Checks.same("an order without items", rows.ready(0), true);
        int item = rows.item(1, 1, 1, 1);
        Checks.same("an item of 0 kilos is met", rows.ready(1), true);
        rows.weights(item, 5, 9);
        Checks.same("an open item", rows.ready(1), false);
        Checks.same("another order's item", rows.ready(0), true);
        rows.join(0, 1);
        Checks.same("a joined order's item", rows.ready(0), false);
        Checks.same("an order apart", rows.ready(2), true);
        rows.made(item, 5);
        Checks.same("met", rows.ready(0), true);
        rows.made(item, 5);
        Checks.same("over", rows.ready(1), true);
        int second = rows.item(0, 1, 1, 1);
        rows.weights(second, 1, 1);
        Checks.same("one of two items open", rows.ready(1), false);
    }
}
