/** Promises 19 and 20 at their boundaries: a method for each sentence of the document. */
final class CapacityBoundariesTest {
    public static void main(String[] args) {
        Checks.sentence("Terms: 0 at first", CapacityBoundariesTest::capacityAtFirst);
        Checks.sentence("19 Range: it is not so", CapacityBoundariesTest::capacityOutOfRange);
        Checks.sentence("19 meaning: some day has more reserved", CapacityBoundariesTest::capacityBelowReserved);
        Checks.sentence("Terms: the same for all days", CapacityBoundariesTest::capacityOfEachDay);
        Checks.sentence("20 Index: no such item", CapacityBoundariesTest::reserveOfNoItem);
        Checks.sentence("20 turn: it is reserved", CapacityBoundariesTest::reserveTwice);
        Checks.sentence("20 meaning: no day has enough", CapacityBoundariesTest::reserveWithoutEnough);
        Checks.sentence("20 from today", CapacityBoundariesTest::reserveNotBeforeToday);
        Checks.sentence("20 to its due day", CapacityBoundariesTest::reserveNotBehindTheDueDay);
        Checks.sentence("Terms: the latest day that has enough left", CapacityBoundariesTest::reserveTheLatestDay);
        Checks.sentence("Terms: as of the day on which this is done", CapacityBoundariesTest::reserveAsOfToday);
        Checks.finish();
    }

    /** Items with these mosts, due on day 5. */
    private static OrderRows with(int capacity, int... mosts) {
        OrderRows rows = new OrderRows();
        rows.order(0, 5);
        for (int i = 0; i < mosts.length; i++) {
            rows.item(0, 1, 1, 1);
            rows.weights(i, 0, mosts[i]);
        }
        rows.capacity(capacity);
        return rows;
    }

    private static OrderRows withReserved(int capacity, int... mosts) {
        OrderRows rows = with(capacity, mosts);
        for (int i = 0; i < mosts.length; i++) {
            rows.reserve(i);
        }
        return rows;
    }

    private static void capacityAtFirst() {
        Boundary.refused("1 kilo", Checks.MEANING, () -> Boundary.withItem(0, 1), rows -> rows.reserve(0));
        Checks.same("0 kilos", Boundary.withItem(0, 0).reserve(0), 50);
    }

    private static void capacityOutOfRange() {
        for (int kilos : new int[] {-1, 100_000_001, Boundary.LOWEST, Boundary.HIGHEST}) {
            Boundary.refused("capacity(" + kilos + ")", Checks.RANGE, () -> with(10, 10, 5),
                    rows -> rows.capacity(kilos));
        }
        OrderRows rows = with(10, 10, 10, 10);
        rows.capacity(100_000_000);
        Checks.same("capacity(100000000)", rows.reserve(0), 5);
        Checks.same("two on a day", rows.reserve(1), 5);
        OrderRows none = with(10, 1);
        none.capacity(0);
        Checks.refused("capacity(0)", Checks.MEANING, () -> none.reserve(0));
    }

    private static void capacityBelowReserved() {
        Boundary.refused("one below one item", Checks.MEANING, () -> withReserved(30, 30),
                rows -> rows.capacity(29));
        Boundary.refused("0", Checks.MEANING, () -> withReserved(30, 30), rows -> rows.capacity(0));
        Boundary.refused("one below two items of a day", Checks.MEANING, () -> withReserved(60, 30, 30),
                rows -> rows.capacity(59));
        Boundary.refused("below the lesser day's and the greater's", Checks.MEANING, () -> withReserved(60, 40, 30, 30),
                rows -> rows.capacity(59));
        OrderRows past = withReserved(60, 30, 30);
        past.tick(6);
        Checks.refused("one below, the day is past", Checks.MEANING, () -> past.capacity(59));
        OrderRows rows = withReserved(60, 30, 30);
        rows.capacity(60);
        rows.item(0, 1, 1, 1);
        Checks.same("just what is reserved", rows.reserve(2), 5);
        OrderRows none = withReserved(60, 0, 0);
        none.capacity(0);
        none.item(0, 1, 1, 1);
        Checks.same("0, where 0 kilos are reserved", none.reserve(2), 5);
    }

    private static void capacityOfEachDay() {
        OrderRows rows = with(10, 10, 10, 10, 10, 10, 10, 10);
        for (int item = 0; item < 6; item++) {
            Checks.same("item " + item, rows.reserve(item), 5 - item);
        }
        Checks.refused("all days are full", Checks.MEANING, () -> rows.reserve(6));
    }

    private static void reserveOfNoItem() {
        for (int item : new int[] {-1, 2, 60, Boundary.LOWEST, Boundary.HIGHEST}) {
            Boundary.refused("reserve(" + item + ")", Checks.INDEX, () -> with(10, 5, 5), rows -> rows.reserve(item));
        }
        Checks.same("reserve(1)", with(10, 5, 5).reserve(1), 5);
    }

    private static OrderRows withFirstReserved(int first) {
        OrderRows rows = with(10, first, 5);
        rows.reserve(0);
        return rows;
    }

    private static void reserveTwice() {
        Boundary.refused("5 kilos", Checks.TURN, () -> withFirstReserved(5), rows -> rows.reserve(0));
        Boundary.refused("0 kilos", Checks.TURN, () -> withFirstReserved(0), rows -> rows.reserve(0));
        OrderRows changed = withFirstReserved(5);
        changed.weights(0, 0, 6);
        Checks.refused("after a change of most", Checks.TURN, () -> changed.reserve(0));
        OrderRows split = withFirstReserved(5);
        split.split(0, 2);
        Checks.refused("after a split", Checks.TURN, () -> split.reserve(0));
        Checks.same("the split's part is not reserved", split.reserve(2), 5);
    }

    private static void reserveWithoutEnough() {
        Boundary.refused("one above a day's", Checks.MEANING, () -> with(10, 11), rows -> rows.reserve(0));
        Checks.same("all of a day's", with(10, 10).reserve(0), 5);
        Checks.same("the most kilos", with(1_000_000, 1_000_000).reserve(0), 5);
        OrderRows later = with(10, 11);
        Checks.refused("refused", Checks.MEANING, () -> later.reserve(0));
        later.capacity(11);
        Checks.same("not reserved by a refusal", later.reserve(0), 5);
    }

    private static OrderRows withTwoReservedOn(int day, int third) {
        OrderRows rows = with(10, third, 10, 10);
        Boundary.goTo(rows, day);
        rows.reserve(1);
        rows.reserve(2);
        return rows;
    }

    private static void reserveNotBeforeToday() {
        Checks.same("today", withTwoReservedOn(3, 10).reserve(0), 3);
        Boundary.refused("not yesterday", Checks.MEANING, () -> withTwoReservedOn(4, 10), rows -> rows.reserve(0));
        Checks.same("0 kilos on a full day", withTwoReservedOn(4, 0).reserve(0), 5);
        OrderRows first = new OrderRows();
        first.order(0, 0);
        first.item(0, 1, 1, 1);
        first.item(0, 1, 1, 1);
        first.weights(0, 0, 1);
        first.weights(1, 0, 1);
        first.capacity(1);
        Checks.same("day 0", first.reserve(0), 0);
        Checks.refused("no day before day 0", Checks.MEANING, () -> first.reserve(1));
    }

    private static OrderRows withItemOn(int day, int most) {
        OrderRows rows = with(10, most);
        Boundary.goTo(rows, day);
        return rows;
    }

    private static void reserveNotBehindTheDueDay() {
        Checks.same("on the due day", withItemOn(5, 10).reserve(0), 5);
        Boundary.refused("behind it", Checks.MEANING, () -> withItemOn(6, 10), rows -> rows.reserve(0));
        Boundary.refused("behind it, 0 kilos", Checks.MEANING, () -> withItemOn(6, 0), rows -> rows.reserve(0));
        OrderRows moved = withItemOn(6, 10);
        moved.change(0, 5, 6, 0, 0);
        Checks.same("due today by a change", moved.reserve(0), 6);
        OrderRows last = with(10, 10);
        last.change(0, 5, 9_999, 0, 0);
        Checks.same("due on the last day", last.reserve(0), 9_999);
    }

    private static void reserveTheLatestDay() {
        OrderRows rows = with(100, 60, 41, 40, 100, 59, 1);
        int[] due = {5, 4, 5, 3, 4, 2};
        for (int item = 0; item < due.length; item++) {
            Checks.same("item " + item, rows.reserve(item), due[item]);
        }
        int[] mosts = new int[60];
        java.util.Arrays.fill(mosts, 1_000_000);
        OrderRows full = with(1_000_000, mosts);
        for (int item = 0; item < 60; item++) {
            full.change(item, 5, 9_999, 0, 0);
        }
        for (int item = 0; item < 59; item++) {
            Checks.same("a day each, item " + item, full.reserve(item), 9_999 - item);
        }
        full.capacity(100_000_000);
        Checks.same("the last one", full.reserve(59), 9_999);
    }

    private static void reserveAsOfToday() {
        OrderRows rows = with(20, 10, 10, 10);
        rows.change(0, 4, 100, 1, 0);
        rows.change(0, 5, 9, 1, 0);
        Checks.same("the due day and most of today", rows.reserve(0), 5);
        rows.weights(0, 0, 20);
        Checks.same("what was reserved stays", rows.reserve(1), 5);
        Checks.same("and no more", rows.reserve(2), 4);
        OrderRows later = with(20, 10, 10);
        later.change(0, 4, 20, 2, 0);
        later.change(0, 5, 9, 2, 0);
        later.change(1, 5, 9, 2, 0);
        later.tick(2);
        Checks.same("the due day and most of a later day", later.reserve(0), 9);
        Checks.same("a full day", later.reserve(1), 8);
    }
}
