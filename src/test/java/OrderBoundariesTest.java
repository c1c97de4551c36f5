/** Promises 1, 2, 3, 21 and 22 at their boundaries: a method for each sentence of the document. */
final class OrderBoundariesTest {
    private static final int[] NO_DAYS = {-1, 10_000, Boundary.LOWEST, Boundary.HIGHEST};

    public static void main(String[] args) {
        Checks.sentence("1 No orders.", OrderBoundariesTest::newObject);
        Checks.sentence("2 An order: its number.", OrderBoundariesTest::orderNumbers);
        Checks.sentence("2 Index: no such customer", OrderBoundariesTest::orderOfNoCustomer);
        Checks.sentence("2 range: the day is past", OrderBoundariesTest::orderOfADayPast);
        Checks.sentence("2 range: or none", OrderBoundariesTest::orderOfNoDay);
        Checks.sentence("2 meaning: there are 30", OrderBoundariesTest::orderThirtyOne);
        Checks.sentence("3 of 0 to 0 kilos", OrderBoundariesTest::itemOfNoKilos);
        Checks.sentence("3 its number", OrderBoundariesTest::itemNumbers);
        Checks.sentence("3 Index: no such order", OrderBoundariesTest::itemOfNoOrder);
        Checks.sentence("3 range: sizes", OrderBoundariesTest::itemOfWrongSize);
        Checks.sentence("3 meaning: there are 60", OrderBoundariesTest::itemSixtyOne);
        Checks.sentence("21 and all that are joined with them", OrderBoundariesTest::joinOfGroups);
        Checks.sentence("21 how many are together then", OrderBoundariesTest::joinOfThirty);
        Checks.sentence("21 Index: no such orders", OrderBoundariesTest::joinOfNoOrder);
        Checks.sentence("21 (or they are one)", OrderBoundariesTest::joinOfOne);
        Checks.sentence("22 (one without items is)", OrderBoundariesTest::readyWithoutItems);
        Checks.sentence("Terms: READY when all are met or over", OrderBoundariesTest::readyFromLeastOn);
        Checks.sentence("Terms: READY as of today", OrderBoundariesTest::readyAsOfToday);
        Checks.sentence("Terms: all items of all its orders", OrderBoundariesTest::readyOfAFullHouse);
        Checks.sentence("22 Index: no such order", OrderBoundariesTest::readyOfNoOrder);
        Checks.finish();
    }

    private static void newObject() {
        Boundary.refused("ready(0)", Checks.INDEX, OrderRows::new, rows -> rows.ready(0));
        Boundary.refused("item of order 0", Checks.INDEX, OrderRows::new, rows -> rows.item(0, 1, 1, 1));
        Boundary.refused("join(0, 1)", Checks.INDEX, OrderRows::new, rows -> rows.join(0, 1));
        Boundary.refused("rest(0)", Checks.INDEX, OrderRows::new, rows -> rows.rest(0));
        Boundary.refused("price(0)", Checks.INDEX, OrderRows::new, rows -> rows.price(0));
        Checks.same("late(0)", new OrderRows().late(0), -1);
        OrderRows other = new OrderRows();
        other.order(0, 0);
        Boundary.refused("another object's order", Checks.INDEX, OrderRows::new, rows -> rows.ready(0));
    }

    private static void orderNumbers() {
        OrderRows rows = new OrderRows();
        for (int i = 0; i < 30; i++) {
            Checks.same("order " + i, rows.order(i % 10, 9_999 - i), i);
        }
    }

    private static void orderOfNoCustomer() {
        for (int customer : new int[] {-1, 10, Boundary.LOWEST, Boundary.HIGHEST}) {
            Boundary.refused("customer " + customer, Checks.INDEX, OrderRows::new, rows -> rows.order(customer, 5));
        }
        OrderRows rows = new OrderRows();
        Checks.same("customer 0", rows.order(0, 5), 0);
        Checks.same("customer 9", rows.order(9, 5), 1);
    }

    private static OrderRows onDay(int day) {
        OrderRows rows = new OrderRows();
        Boundary.goTo(rows, day);
        return rows;
    }

    private static void orderOfADayPast() {
        Boundary.refused("due on day 6, on day 7", Checks.RANGE, () -> onDay(7), rows -> rows.order(0, 6));
        Boundary.refused("due on day 0, on day 7", Checks.RANGE, () -> onDay(7), rows -> rows.order(0, 0));
        Boundary.refused("due on 9,998, on 9,999", Checks.RANGE, () -> onDay(9_999), rows -> rows.order(0, 9_998));
        Checks.same("due today", onDay(7).order(0, 7), 0);
        Checks.same("due today, on the last day", onDay(9_999).order(0, 9_999), 0);
    }

    private static void orderOfNoDay() {
        for (int day : NO_DAYS) {
            Boundary.refused("due on day " + day, Checks.RANGE, OrderRows::new, rows -> rows.order(0, day));
        }
        OrderRows rows = new OrderRows();
        Checks.same("due on day 0", rows.order(0, 0), 0);
        Checks.same("due on day 9,999", rows.order(0, 9_999), 1);
    }

    private static void orderThirtyOne() {
        Checks.same("order 29", Boundary.withOrders(29).order(0, 5), 29);
        Boundary.refused("order 30", Checks.MEANING, () -> Boundary.withOrders(30), rows -> rows.order(0, 5));
        Boundary.refused("item of order 30", Checks.INDEX, () -> Boundary.withOrders(30),
                rows -> rows.item(30, 1, 1, 1));
        Checks.same("item of order 29", Boundary.withOrders(30).item(29, 1, 1, 1), 0);
    }

    private static void itemOfNoKilos() {
        OrderRows rows = Boundary.withItem();
        for (int day : new int[] {0, 1, 50, 9_999}) {
            Checks.same("least on " + day, rows.field(0, 3, day), 0);
            Checks.same("most on " + day, rows.field(0, 4, day), 0);
        }
        Checks.same("nothing made is enough", rows.state(0, 9_999), 2);
        Boundary.refused("it has no change", Checks.INDEX, Boundary::withItem, made -> made.history(0, 0, 0));
    }

    private static void itemNumbers() {
        OrderRows rows = Boundary.withOrders(3);
        for (int i = 0; i < 60; i++) {
            Checks.same("item " + i, rows.item(i % 3, 1 + i, 1, 1), i);
        }
        Checks.same("thick of item 0", rows.field(0, 0, 0), 1);
        Checks.same("thick of item 59", rows.field(59, 0, 0), 60);
    }

    private static void itemOfNoOrder() {
        for (int order : new int[] {-1, 2, 30, Boundary.LOWEST, Boundary.HIGHEST}) {
            Boundary.refused("item of order " + order, Checks.INDEX, () -> Boundary.withOrders(2),
                    rows -> rows.item(order, 1, 1, 1));
        }
        Checks.same("item of order 1", Boundary.withOrders(2).item(1, 1, 1, 1), 0);
    }

    private static void itemOfWrongSize() {
        for (int size : new int[] {0, -1, 100_001, Boundary.LOWEST, Boundary.HIGHEST}) {
            Boundary.refused("thick " + size, Checks.RANGE, Boundary::withItem, rows -> rows.item(0, size, 1, 1));
            Boundary.refused("width " + size, Checks.RANGE, Boundary::withItem, rows -> rows.item(0, 1, size, 1));
            Boundary.refused("length " + size, Checks.RANGE, Boundary::withItem, rows -> rows.item(0, 1, 1, size));
        }
        OrderRows rows = Boundary.withOrders(1);
        Checks.same("the least sizes", rows.item(0, 1, 1, 1), 0);
        Checks.same("the most sizes", rows.item(0, 100_000, 100_000, 100_000), 1);
        for (int field = 0; field < 3; field++) {
            Checks.same("least size " + field, rows.field(0, field, 0), 1);
            Checks.same("most size " + field, rows.field(1, field, 0), 100_000);
        }
    }

    private static OrderRows withSixtyBySplit() {
        OrderRows rows = Boundary.withItems(59);
        rows.weights(0, 0, 5);
        rows.split(0, 1);
        return rows;
    }

    private static void itemSixtyOne() {
        Checks.same("item 59", Boundary.withItems(59).item(0, 1, 1, 1), 59);
        Boundary.refused("item 60", Checks.MEANING, () -> Boundary.withItems(60), rows -> rows.item(0, 1, 1, 1));
        Boundary.refused("rest of item 60", Checks.INDEX, () -> Boundary.withItems(60), rows -> rows.rest(60));
        Boundary.refused("item 60 behind a split", Checks.MEANING, OrderBoundariesTest::withSixtyBySplit,
                rows -> rows.item(0, 1, 1, 1));
    }

    private static void joinOfGroups() {
        OrderRows rows = Boundary.withOrders(6);
        Checks.same("0 with 1", rows.join(0, 1), 2);
        Checks.same("1 with 0 again", rows.join(1, 0), 2);
        Checks.same("3 with 2", rows.join(3, 2), 2);
        Checks.same("4 with 3", rows.join(4, 3), 3);
        Checks.same("one of a group with one of another", rows.join(1, 2), 5);
        Checks.same("two of one group", rows.join(0, 4), 5);
        rows.item(4, 1, 1, 1);
        rows.weights(0, 1, 1);
        Checks.same("0 goes with 4", rows.ready(0), false);
        Checks.same("5 goes alone", rows.ready(5), true);
    }

    private static void joinOfThirty() {
        OrderRows rows = Boundary.withOrders(30);
        for (int order = 28; order >= 0; order--) {
            Checks.same("join " + order, rows.join(order, order + 1), 30 - order);
        }
        Checks.same("the first with the last", rows.join(0, 29), 30);
    }

    private static void joinOfNoOrder() {
        for (int wrong : new int[] {-1, 2, 30, Boundary.LOWEST, Boundary.HIGHEST}) {
            Boundary.refused("join(" + wrong + ", 0)", Checks.INDEX, () -> Boundary.withOrders(2),
                    rows -> rows.join(wrong, 0));
            Boundary.refused("join(0, " + wrong + ")", Checks.INDEX, () -> Boundary.withOrders(2),
                    rows -> rows.join(0, wrong));
            Boundary.refused("join(" + wrong + ", " + wrong + ")", Checks.INDEX, () -> Boundary.withOrders(2),
                    rows -> rows.join(wrong, wrong));
        }
    }

    private static OrderRows withTwoJoined() {
        OrderRows rows = Boundary.withOrders(3);
        rows.join(0, 1);
        return rows;
    }

    private static void joinOfOne() {
        Boundary.refused("join(0, 0)", Checks.INDEX, () -> Boundary.withOrders(2), rows -> rows.join(0, 0));
        Boundary.refused("join(1, 1)", Checks.INDEX, () -> Boundary.withOrders(2), rows -> rows.join(1, 1));
        Boundary.refused("join(1, 1) of a group", Checks.INDEX, OrderBoundariesTest::withTwoJoined,
                rows -> rows.join(1, 1));
    }

    private static void readyWithoutItems() {
        OrderRows rows = Boundary.withOrders(3);
        Checks.same("alone", rows.ready(0), true);
        rows.join(0, 1);
        Checks.same("a group without items", rows.ready(1), true);
        rows.item(2, 1, 1, 1);
        rows.weights(0, 1, 1);
        Checks.same("another order has one", rows.ready(0), true);
        rows.join(1, 2);
        Checks.same("an order of its group has one", rows.ready(0), false);
    }

    private static void readyFromLeastOn() {
        OrderRows rows = Boundary.withItem(5, 9);
        int[] kilos = {4, 1, 4, 1};
        boolean[] due = {false, true, true, true};
        Checks.same("nothing made", rows.ready(0), false);
        for (int i = 0; i < kilos.length; i++) {
            int sum = rows.made(0, kilos[i]);
            Checks.same(sum + " of 5 to 9 kilos", rows.ready(0), due[i]);
        }
    }

    private static void readyAsOfToday() {
        OrderRows rows = Boundary.withItem(0, 9);
        rows.change(0, 3, 4, 3, 0);
        rows.tick(2);
        Checks.same("on the day before a change holds", rows.ready(0), true);
        rows.tick(1);
        Checks.same("open on the day from which it holds", rows.ready(0), false);
        rows.tick(48);
        Checks.same("late", rows.ready(0), false);
        rows.made(0, 4);
        Checks.same("met behind the due day", rows.ready(0), true);
    }

    private static void readyOfAFullHouse() {
        OrderRows rows = Boundary.withOrders(30);
        for (int item = 0; item < 60; item++) {
            rows.item(item / 2, 1, 1, 1);
        }
        for (int order = 1; order < 30; order++) {
            rows.join(order, 0);
        }
        Checks.same("all are met", rows.ready(29), true);
        for (int item : new int[] {59, 0, 31}) {
            rows.weights(item, 1, 1);
            Checks.same("item " + item + " is open", rows.ready(29 - item / 2), false);
            rows.made(item, 1);
            Checks.same("item " + item + " is met", rows.ready(29 - item / 2), true);
        }
    }

    private static void readyOfNoOrder() {
        for (int wrong : new int[] {-1, 2, 30, Boundary.LOWEST, Boundary.HIGHEST}) {
            Boundary.refused("ready(" + wrong + ")", Checks.INDEX, () -> Boundary.withOrders(2),
                    rows -> rows.ready(wrong));
        }
        Checks.same("ready(1)", Boundary.withOrders(2).ready(1), true);
    }
}
