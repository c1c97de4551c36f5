/** Calls at a boundary; worlds to make them in. */
final class Boundary {

    interface World {
        OrderRows make();
    }

    interface Call {
        void on(OrderRows rows);
    }

    /** The ends of int: a sum or difference that is not looked at before wraps around there. */
    static final int LOWEST = Integer.MIN_VALUE;
    static final int HIGHEST = Integer.MAX_VALUE;

    private Boundary() {
    }

    /** The call is refused, and the world is afterwards as one in which it was not made. */
    static void refused(String what, Class<? extends Exception> due, World world, Call call) {
        OrderRows called = world.make();
        Checks.refused(what, due, () -> call.on(called));
        Checks.same(what + " left a trace", Sight.of(called), Sight.of(world.make()));
    }

    /** Order 0 of customer 0, due on day 50; item 0 of 5, 6, 7 and 0 to 0 kilos. */
    static OrderRows withItem() {
        OrderRows rows = new OrderRows();
        rows.order(0, 50);
        rows.item(0, 5, 6, 7);
        return rows;
    }

    static OrderRows withItem(int least, int most) {
        OrderRows rows = withItem();
        rows.weights(0, least, most);
        return rows;
    }

    static OrderRows withOrders(int orders) {
        OrderRows rows = new OrderRows();
        for (int i = 0; i < orders; i++) {
            rows.order(i % 10, 50);
        }
        return rows;
    }

    static OrderRows withItems(int items) {
        OrderRows rows = withOrders(1);
        for (int i = 0; i < items; i++) {
            rows.item(0, 5, 6, 7);
        }
        return rows;
    }

    /** As withItem(), after this many changes of thick, all of them from day 0. */
    static OrderRows withChanges(int changes) {
        OrderRows rows = withItem();
        change(rows, 0, changes);
        return rows;
    }

    static void change(OrderRows rows, int item, int changes) {
        for (int i = 0; i < changes; i++) {
            rows.change(item, 0, 100 + i, 0, 0);
        }
    }

    /** Ticks on to this day an object on which no day has gone by yet. */
    static void goTo(OrderRows rows, int day) {
        int today = 0;
        while (today < day) {
            today = rows.tick(Math.min(1_000, day - today));
        }
    }
}
