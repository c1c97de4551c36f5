/** Promises 1, 2, 21 and 22: a new object, order, join, ready. */
final class OrdersTest {
    public static void main(String[] args) {
        newObjectHasNothing();
        ordersAreNumbered();
        ordersAreRefused();
        ordersAreAtMostThirty();
        joinCountsTheWholeGroup();
        joinIsRefused();
        readyLooksAtTheWholeGroup();
        readyIsAsOfToday();
        aFullHouseIsLookedThrough();
        Checks.finish();
    }

    private static void newObjectHasNothing() {
        OrderRows rows = new OrderRows();
        Checks.refused("ready(0) of no orders", Checks.INDEX, () -> rows.ready(0));
        Checks.refused("item of no order", Checks.INDEX, () -> rows.item(0, 1, 1, 1));
        Checks.refused("rest of no item", Checks.INDEX, () -> rows.rest(0));
        Checks.refused("price of no quote", Checks.INDEX, () -> rows.price(0));
        Checks.same("late(0) of no items", rows.late(0), -1);
        OrderRows other = new OrderRows();
        other.order(0, 0);
        Checks.refused("another object's order", Checks.INDEX, () -> rows.ready(0));
    }

    private static void ordersAreNumbered() {
        OrderRows rows = new OrderRows();
        Checks.same("first order", rows.order(0, 0), 0);
        Checks.same("second order", rows.order(9, 9_999), 1);
        Checks.same("third order", rows.order(0, 5), 2);
        rows.tick(5);
        Checks.same("an order due today", rows.order(4, 5), 3);
    }

    private static void ordersAreRefused() {
        OrderRows rows = new OrderRows();
        for (int customer : new int[] {-1, 10, Integer.MIN_VALUE, Integer.MAX_VALUE}) {
            Checks.refused("customer " + customer, Checks.INDEX, () -> rows.order(customer, -1));
        }
        for (int due : new int[] {-1, 10_000, Integer.MIN_VALUE, Integer.MAX_VALUE}) {
            Checks.refused("due " + due, Checks.RANGE, () -> rows.order(0, due));
        }
        rows.tick(7);
        Checks.refused("due in the past", Checks.RANGE, () -> rows.order(0, 6));
        Checks.same("refused orders take no number", rows.order(0, 7), 0);
    }

    private static void ordersAreAtMostThirty() {
        OrderRows rows = new OrderRows();
        for (int i = 0; i < 30; i++) {
            Checks.same("order " + i, rows.order(i % 10, i), i);
        }
        Checks.refused("order 30", Checks.MEANING, () -> rows.order(0, 0));
        Checks.refused("order 30, no customer", Checks.INDEX, () -> rows.order(10, 0));
        Checks.refused("order 30, no day", Checks.RANGE, () -> rows.order(0, 10_000));
        Checks.same("the last order is there", rows.item(29, 1, 1, 1), 0);
        Checks.refused("no order behind it", Checks.INDEX, () -> rows.item(30, 1, 1, 1));
    }

    private static void joinCountsTheWholeGroup() {
        OrderRows rows = new OrderRows();
        for (int i = 0; i < 6; i++) {
            rows.order(i, 10);
        }
        Checks.same("0 with 1", rows.join(0, 1), 2);
        Checks.same("0 with 1 again", rows.join(1, 0), 2);
        Checks.same("2 with 3", rows.join(3, 2), 2);
        Checks.same("4 with 3", rows.join(4, 3), 3);
        Checks.same("both groups", rows.join(1, 2), 5);
        Checks.same("already together", rows.join(0, 4), 5);
        Checks.same("all", rows.join(5, 0), 6);
    }

    private static void joinIsRefused() {
        OrderRows rows = new OrderRows();
        rows.order(0, 1);
        rows.order(0, 1);
        Checks.refused("one with itself", Checks.INDEX, () -> rows.join(1, 1));
        for (int wrong : new int[] {-1, 2, Integer.MIN_VALUE, Integer.MAX_VALUE}) {
            Checks.refused("join(" + wrong + ", 0)", Checks.INDEX, () -> rows.join(wrong, 0));
            Checks.refused("join(0, " + wrong + ")", Checks.INDEX, () -> rows.join(0, wrong));
            Checks.refused("ready(" + wrong + ")", Checks.INDEX, () -> rows.ready(wrong));
        }
        Checks.same("refused joins join nothing", rows.join(0, 1), 2);
    }

    private static void readyLooksAtTheWholeGroup() {
        OrderRows rows = new OrderRows();
        rows.order(0, 10);
        rows.order(1, 10);
        rows.order(2, 10);
        Checks.same("an order without items", rows.ready(0), true);
        int item = rows.item(1, 1, 1, 1);
        Checks.same("an item of 0 kilos is met", rows.ready(1), true);
        rows.weights(item, 5, 9);
        Checks.same("an open item", rows.ready(1), false);
        Checks.same("another order's item", rows.ready(0), true);
        rows.join(0, 1);
        Checks.same("a joined order's item", rows.ready(0), false);
        Checks.same("an order apart", rows.ready(2), true);
        rows.made(item, 5);
        Checks.same("met", rows.ready(0), true);
        rows.made(item, 5);
        Checks.same("over", rows.ready(1), true);
        int second = rows.item(0, 1, 1, 1);
        rows.weights(second, 1, 1);
        Checks.same("one of two items open", rows.ready(1), false);
    }

    private static void readyIsAsOfToday() {
        OrderRows rows = new OrderRows();
        rows.order(0, 2);
        int item = rows.item(0, 1, 1, 1);
        rows.weights(item, 0, 9);
        rows.change(item, 3, 4, 3, 0);
        Checks.same("before the change holds", rows.ready(0), true);
        rows.tick(2);
        Checks.same("on the day before it holds", rows.ready(0), true);
        rows.tick(1);
        Checks.same("late", rows.ready(0), false);
    }

    private static void aFullHouseIsLookedThrough() {
        OrderRows rows = new OrderRows();
        for (int order = 0; order < 30; order++) {
            rows.order(0, 5);
        }
        for (int item = 0; item < 60; item++) {
            rows.item(item / 2, 1, 1, 1);
        }
        for (int order = 1; order < 30; order++) {
            Checks.same("join " + order, rows.join(order, 0), order + 1);
        }
        Checks.same("all met", rows.ready(29), true);
        rows.weights(59, 1, 1);
        Checks.same("the last item is open", rows.ready(0), false);
        rows.tick(6);
        Checks.same("the last item is late", rows.late(0), 59);
        Checks.same("alone", rows.late(1), -1);
        rows.made(59, 1);
        Checks.same("the last item is met", rows.ready(0), true);
    }
}
