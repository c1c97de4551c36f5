/** Terms: refusals come in this order, index, turn, range, meaning; a method for each call with more than one. */
final class RefusalOrderTest {
    private static final int MANY = 200;

    public static void main(String[] args) {
        Checks.sentence("2 order", RefusalOrderTest::order);
        Checks.sentence("3 item", RefusalOrderTest::item);
        Checks.sentence("4 weights", RefusalOrderTest::weights);
        Checks.sentence("5 agree", RefusalOrderTest::agree);
        Checks.sentence("6 change", RefusalOrderTest::change);
        Checks.sentence("7 field", RefusalOrderTest::field);
        Checks.sentence("9 split", RefusalOrderTest::split);
        Checks.sentence("10 made", RefusalOrderTest::made);
        Checks.sentence("11 state", RefusalOrderTest::state);
        Checks.sentence("14 quote", RefusalOrderTest::quote);
        Checks.sentence("17 credit", RefusalOrderTest::credit);
        Checks.sentence("18 accept", RefusalOrderTest::accept);
        Checks.sentence("19 capacity", RefusalOrderTest::capacity);
        Checks.sentence("20 reserve", RefusalOrderTest::reserve);
        Checks.finish();
    }

    private static void order() {
        Boundary.World full = () -> Boundary.withOrders(30);
        Boundary.refused("index, range", Checks.INDEX, OrderRows::new, rows -> rows.order(10, -1));
        Boundary.refused("index, meaning", Checks.INDEX, full, rows -> rows.order(10, 5));
        Boundary.refused("range, meaning", Checks.RANGE, full, rows -> rows.order(0, -1));
        Boundary.refused("index, range, meaning", Checks.INDEX, full, rows -> rows.order(-1, 10_000));
    }

    private static void item() {
        Boundary.World full = () -> Boundary.withItems(60);
        Boundary.refused("index, range", Checks.INDEX, OrderRows::new, rows -> rows.item(0, 0, 1, 1));
        Boundary.refused("index, meaning", Checks.INDEX, full, rows -> rows.item(1, 1, 1, 1));
        Boundary.refused("range, meaning", Checks.RANGE, full, rows -> rows.item(0, 1, 1, 0));
        Boundary.refused("index, range, meaning", Checks.INDEX, full, rows -> rows.item(-1, 0, 0, 0));
    }

    private static void weights() {
        Boundary.World full = () -> Boundary.withChanges(19);
        Boundary.refused("index, range", Checks.INDEX, full, rows -> rows.weights(1, -1, -1));
        Boundary.refused("range, meaning", Checks.RANGE, full, rows -> rows.weights(0, 2, 1));
    }

    private static void agree() {
        Boundary.refused("index, range", Checks.INDEX, Boundary::withItem, rows -> rows.agree(1, 0));
    }

    private static OrderRows withMadeAndChanges(int changes) {
        OrderRows rows = Boundary.withChanges(changes);
        rows.made(0, 1);
        return rows;
    }

    private static void change() {
        Boundary.World made = () -> withMadeAndChanges(0);
        Boundary.World full = () -> Boundary.withChanges(20);
        Boundary.World both = () -> withMadeAndChanges(20);
        Boundary.refused("no field, turn", Checks.INDEX, made, rows -> rows.change(0, -1, 1, 0, 0));
        Boundary.refused("no item, range", Checks.INDEX, made, rows -> rows.change(1, 0, 0, -1, 0));
        Boundary.refused("no field, range, meaning", Checks.INDEX, both, rows -> rows.change(0, 6, 0, -1, 0));
        Boundary.refused("turn, value", Checks.TURN, made, rows -> rows.change(0, 0, 0, 0, 0));
        Boundary.refused("turn, day", Checks.TURN, made, rows -> rows.change(0, 2, 1, 10_000, 0));
        Boundary.refused("turn, room", Checks.TURN, both, rows -> rows.change(0, 1, 1, 0, 0));
        Boundary.refused("value, room", Checks.RANGE, full, rows -> rows.change(0, 0, 0, 0, 0));
        Boundary.refused("day, room", Checks.RANGE, full, rows -> rows.change(0, 5, 60, -1, 0));
        Boundary.refused("day, least above most", Checks.RANGE, made, rows -> rows.change(0, 3, 5, -1, 0));
        Boundary.refused("value, least above most", Checks.RANGE, made, rows -> rows.change(0, 3, 1_000_001, 0, 0));
        Boundary.refused("least above most, room", Checks.MEANING, full, rows -> rows.change(0, 3, 5, 0, 0));
    }

    private static void field() {
        Boundary.refused("no item, day", Checks.INDEX, Boundary::withItem, rows -> rows.field(1, 0, -1));
        Boundary.refused("no field, day", Checks.INDEX, Boundary::withItem, rows -> rows.field(0, 6, 10_000));
    }

    private static OrderRows withWeightsAndMade(int items, int kilos) {
        OrderRows rows = Boundary.withItems(items);
        rows.weights(0, 10, 20);
        if (kilos > 0) {
            rows.made(0, kilos);
        }
        return rows;
    }

    private static OrderRows withWeightsAndNineteenChanges() {
        OrderRows rows = Boundary.withItem(10, 20);
        Boundary.change(rows, 0, 17);
        return rows;
    }

    private static void split() {
        Boundary.World full = () -> withWeightsAndMade(60, 0);
        Boundary.World fullAndMade = () -> withWeightsAndMade(60, 1);
        Boundary.refused("index, range", Checks.INDEX, Boundary::withItem, rows -> rows.split(1, 0));
        Boundary.refused("index, meaning", Checks.INDEX, full, rows -> rows.split(60, 1));
        Boundary.refused("turn, range", Checks.TURN, () -> withWeightsAndMade(1, 1), rows -> rows.split(0, 0));
        Boundary.refused("turn, too many", Checks.TURN, () -> withWeightsAndMade(1, 1), rows -> rows.split(0, 21));
        Boundary.refused("turn, meaning", Checks.TURN, fullAndMade, rows -> rows.split(0, 1));
        Boundary.refused("range, no room for items", Checks.RANGE, full, rows -> rows.split(0, 21));
        Boundary.refused("range, no room for changes", Checks.RANGE, RefusalOrderTest::withWeightsAndNineteenChanges,
                rows -> rows.split(0, 0));
    }

    private static OrderRows withManyRows() {
        OrderRows rows = Boundary.withItem();
        for (int i = 0; i < MANY; i++) {
            rows.made(0, 1);
        }
        return rows;
    }

    private static void made() {
        Boundary.refused("index, range", Checks.INDEX, Boundary::withItem, rows -> rows.made(1, 0));
        Boundary.refused("index, meaning", Checks.INDEX, RefusalOrderTest::withManyRows, rows -> rows.made(1, 1));
        Boundary.refused("range, meaning", Checks.RANGE, RefusalOrderTest::withManyRows, rows -> rows.made(0, 0));
        Boundary.refused("too many, meaning", Checks.RANGE, RefusalOrderTest::withManyRows,
                rows -> rows.made(0, 1_000_001));
    }

    private static void state() {
        Boundary.refused("index, range", Checks.INDEX, Boundary::withItem, rows -> rows.state(1, -1));
        Boundary.refused("index, range above", Checks.INDEX, Boundary::withItem, rows -> rows.state(-1, 10_000));
    }

    private static OrderRows withSixtyQuotes() {
        OrderRows rows = Boundary.withItem();
        for (int i = 0; i < 60; i++) {
            rows.quote(0, 9);
        }
        rows.tick(3);
        return rows;
    }

    private static void quote() {
        Boundary.refused("index, range", Checks.INDEX, Boundary::withItem, rows -> rows.quote(1, -1));
        Boundary.refused("index, meaning", Checks.INDEX, RefusalOrderTest::withSixtyQuotes, rows -> rows.quote(1, 9));
        Boundary.refused("day past, meaning", Checks.RANGE, RefusalOrderTest::withSixtyQuotes,
                rows -> rows.quote(0, 2));
        Boundary.refused("no day, meaning", Checks.RANGE, RefusalOrderTest::withSixtyQuotes,
                rows -> rows.quote(0, 10_000));
    }

    private static void credit() {
        Boundary.refused("index, range", Checks.INDEX, OrderRows::new, rows -> rows.credit(10, -1));
        Boundary.refused("index, range above", Checks.INDEX, OrderRows::new, rows -> rows.credit(-1, 2_000_000_001));
    }

    /** Quote 0 is accepted and quote 1 is past; the customer has no credit any more. */
    private static OrderRows withoutCredit() {
        OrderRows rows = Boundary.withItem();
        rows.costs(1, 0, 0);
        rows.credit(0, 1);
        rows.quote(0, 9);
        rows.quote(0, 2);
        rows.accept(0);
        rows.credit(0, 0);
        rows.tick(3);
        return rows;
    }

    private static void accept() {
        Boundary.refused("accepted, meaning", Checks.TURN, RefusalOrderTest::withoutCredit, rows -> rows.accept(0));
        Boundary.refused("past, meaning", Checks.TURN, RefusalOrderTest::withoutCredit, rows -> rows.accept(1));
    }

    private static OrderRows withReserved() {
        OrderRows rows = Boundary.withItem(0, 10);
        rows.capacity(10);
        rows.reserve(0);
        return rows;
    }

    private static void capacity() {
        Boundary.refused("range, meaning", Checks.RANGE, RefusalOrderTest::withReserved, rows -> rows.capacity(-1));
    }

    private static OrderRows withReservedAndMoreMost() {
        OrderRows rows = withReserved();
        rows.weights(0, 0, 11);
        return rows;
    }

    private static void reserve() {
        Boundary.refused("turn, meaning", Checks.TURN, RefusalOrderTest::withReservedAndMoreMost,
                rows -> rows.reserve(0));
    }
}
