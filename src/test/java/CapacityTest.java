/** Promises 19 and 20: capacity, reserve. */
final class CapacityTest {
    public static void main(String[] args) {
        capacityKeepsWhatIsReserved();
        reserveTakesTheLatestDay();
        reserveGoesNoFurtherThanToday();
        aPartReservesForItself();
        Checks.finish();
    }

    private static OrderRows withItems(int due, int... mosts) {
        OrderRows rows = new OrderRows();
        rows.order(0, due);
        for (int i = 0; i < mosts.length; i++) {
            rows.item(0, 1, 1, 1);
            rows.weights(i, 0, mosts[i]);
        }
        return rows;
    }

    private static void capacityKeepsWhatIsReserved() {
        OrderRows rows = withItems(5, 30, 30, 50);
        rows.capacity(100);
        Checks.same("30", rows.reserve(0), 5);
        Checks.same("30 more", rows.reserve(1), 5);
        Checks.same("50 before", rows.reserve(2), 4);
        Checks.refused("below the sum of a day", Checks.MEANING, () -> rows.capacity(59));
        rows.capacity(60);
        rows.tick(10);
        Checks.refused("days past count too", Checks.MEANING, () -> rows.capacity(59));
        rows.capacity(1_000);
        OrderRows one = withItems(5, 30);
        one.capacity(30);
        one.reserve(0);
        Checks.refused("below one item", Checks.MEANING, () -> one.capacity(29));
        one.capacity(30);
    }

    private static void reserveTakesTheLatestDay() {
        OrderRows rows = withItems(5, 60, 50, 40, 101, 100);
        rows.capacity(100);
        Checks.same("on the due day", rows.reserve(0), 5);
        Checks.same("not enough left there", rows.reserve(1), 4);
        Checks.same("just enough left there", rows.reserve(2), 5);
        Checks.refused("more than a day has", Checks.MEANING, () -> rows.reserve(3));
        Checks.same("all of a day", rows.reserve(4), 3);
        rows.capacity(150);
        Checks.same("more on each day", rows.reserve(3), 2);
    }

    private static void reserveGoesNoFurtherThanToday() {
        OrderRows rows = withItems(5, 10, 10, 10, 0, 0);
        rows.capacity(10);
        rows.tick(4);
        Checks.same("on the due day", rows.reserve(0), 5);
        Checks.same("today", rows.reserve(1), 4);
        Checks.refused("not yesterday", Checks.MEANING, () -> rows.reserve(2));
        Checks.same("0 kilos on a full day", rows.reserve(3), 5);
        rows.tick(2);
        Checks.refused("0 kilos, the due day is past", Checks.MEANING, () -> rows.reserve(4));
        rows.change(2, 5, 6, 0, 0);
        Checks.same("due today", rows.reserve(2), 6);
    }

    private static void aPartReservesForItself() {
        OrderRows rows = withItems(5, 60);
        rows.capacity(60);
        rows.reserve(0);
        rows.split(0, 20);
        Checks.refused("the item keeps its 60 kilos on day 5", Checks.MEANING, () -> rows.capacity(59));
        Checks.same("the part is not reserved with it", rows.reserve(1), 4);
        Checks.refused("the item is still reserved", Checks.TURN, () -> rows.reserve(0));
    }
}
