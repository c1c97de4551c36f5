/** How a field's value on a day is found (Terms), at its boundaries: a method for each sentence. */
final class FieldBoundariesTest {
    public static void main(String[] args) {
        Checks.sentence("Terms: the order's at first", FieldBoundariesTest::dueAtFirst);
        Checks.sentence("Terms: whose day is the latest up to it", FieldBoundariesTest::theLatestUpToADay);
        Checks.sentence("Terms: of the same day the one told last", FieldBoundariesTest::theOneToldLast);
        Checks.sentence("Terms: without one as it was made", FieldBoundariesTest::withoutAChange);
        Checks.sentence("Terms: (also for days ahead of that)", FieldBoundariesTest::onDaysBeforeItWasMade);
        Checks.sentence("Terms: FIELDS 0 .. 5, each for itself", FieldBoundariesTest::eachFieldForItself);
        Checks.finish();
    }

    private static void dueAtFirst() {
        OrderRows rows = new OrderRows();
        rows.order(0, 0);
        rows.order(0, 9_999);
        rows.tick(1);
        rows.item(0, 1, 1, 1);
        rows.item(1, 1, 1, 1);
        Checks.same("of an order whose day is past", rows.field(0, 5, 0), 0);
        Checks.same("of an order of the last day", rows.field(1, 5, 9_999), 9_999);
    }

    private static void sameOnDays(OrderRows rows, int field, int[][] dayAndValue) {
        for (int[] due : dayAndValue) {
            Checks.same("field " + field + " on " + due[0], rows.field(0, field, due[0]), due[1]);
        }
    }

    private static void theLatestUpToADay() {
        OrderRows rows = Boundary.withItem();
        rows.change(0, 0, 20, 20, 0);
        rows.change(0, 0, 10, 10, 0);
        rows.change(0, 0, 99, 9_999, 0);
        sameOnDays(rows, 0, new int[][] {{0, 5}, {9, 5}, {10, 10}, {19, 10}, {20, 20}, {9_998, 20}, {9_999, 99}});
        rows.tick(30);
        rows.change(0, 0, 3, 0, 0);
        sameOnDays(rows, 0, new int[][] {{0, 3}, {9, 3}, {10, 10}, {30, 20}});
    }

    private static void theOneToldLast() {
        OrderRows rows = Boundary.withItem();
        rows.change(0, 0, 10, 10, 0);
        rows.change(0, 0, 20, 20, 0);
        rows.change(0, 0, 11, 10, 0);
        sameOnDays(rows, 0, new int[][] {{9, 5}, {10, 11}, {19, 11}, {20, 20}});
        rows.tick(15);
        rows.change(0, 0, 12, 10, 0);
        rows.change(0, 0, 1, 0, 0);
        rows.change(0, 0, 2, 0, 0);
        sameOnDays(rows, 0, new int[][] {{0, 2}, {9, 2}, {10, 12}, {20, 20}});
    }

    private static void withoutAChange() {
        OrderRows rows = Boundary.withItem();
        rows.change(0, 0, 10, 10, 0);
        int[] due = {5, 6, 7, 0, 0, 50};
        for (int field = 0; field < 6; field++) {
            sameOnDays(rows, field, new int[][] {{0, due[field]}, {9, due[field]}});
        }
        sameOnDays(rows, 1, new int[][] {{10, 6}, {9_999, 6}});
    }

    private static void onDaysBeforeItWasMade() {
        OrderRows rows = Boundary.withOrders(1);
        rows.tick(20);
        rows.item(0, 5, 6, 7);
        int[] due = {5, 6, 7, 0, 0, 50};
        for (int field = 0; field < 6; field++) {
            sameOnDays(rows, field, new int[][] {{0, due[field]}, {19, due[field]}, {20, due[field]}});
        }
        rows.change(0, 0, 9, 3, 0);
        sameOnDays(rows, 0, new int[][] {{2, 5}, {3, 9}, {19, 9}});
    }

    private static void eachFieldForItself() {
        int[] before = {5, 6, 7, 10, 20, 50};
        int[] value = {1, 2, 3, 11, 21, 60};
        for (int changed = 0; changed < 6; changed++) {
            OrderRows rows = Boundary.withItem(10, 20);
            rows.item(0, 5, 6, 7);
            rows.change(0, changed, value[changed], 0, 0);
            for (int field = 0; field < 6; field++) {
                Checks.same("field " + field + ", changed " + changed, rows.field(0, field, 0),
                        field == changed ? value[field] : before[field]);
            }
            Checks.same("the other item's thick, changed " + changed, rows.field(1, 0, 0), 5);
        }
    }
}
