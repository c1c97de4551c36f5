/** Promises 19 and 20: capacity, reserve. */
final class CapacityTest {
    public static void main(String[] args) {
        capacityIsRefused();
        capacityKeepsWhatIsReserved();
        reserveTakesTheLatestDay();
        reserveGoesNoFurtherThanToday();
        reserveTakesWhatHoldsToday();
        reserveIsRefused();
        sixtyItemsFindTheirDays();
        Checks.finish();
    }

    private static OrderRows withItems(int due, int... mosts) {
        OrderRows rows = new OrderRows();
        rows.order(0, due);
        for (int i = 0; i < mosts.length; i++) {
            rows.item(0, 1, 1, 1);
            rows.weights(i, 0, mosts[i]);
        }
        return rows;
    }

    private static void capacityIsRefused() {
        OrderRows rows = withItems(5, 1);
        for (int wrong : new int[] {-1, 100_000_001, Integer.MIN_VALUE, Integer.MAX_VALUE}) {
            Checks.refused("capacity(" + wrong + ")", Checks.RANGE, () -> rows.capacity(wrong));
        }
        Checks.refused("0 at first", Checks.MEANING, () -> rows.reserve(0));
        rows.capacity(100_000_000);
        rows.capacity(0);
        Checks.refused("0 again", Checks.MEANING, () -> rows.reserve(0));
    }

    private static void capacityKeepsWhatIsReserved() {
        OrderRows rows = withItems(5, 30, 30, 50);
        rows.capacity(100);
        Checks.same("30", rows.reserve(0), 5);
        Checks.same("30 more", rows.reserve(1), 5);
        Checks.same("50 before", rows.reserve(2), 4);
        Checks.refused("below the sum of a day", Checks.MEANING, () -> rows.capacity(59));
        rows.capacity(60);
        rows.tick(10);
        Checks.refused("days past count too", Checks.MEANING, () -> rows.capacity(59));
        rows.capacity(1_000);
        OrderRows one = withItems(5, 30);
        one.capacity(30);
        one.reserve(0);
        Checks.refused("below one item", Checks.MEANING, () -> one.capacity(29));
        one.capacity(30);
    }

    private static void reserveTakesTheLatestDay() {
        OrderRows rows = withItems(5, 60, 50, 40, 101, 100);
        rows.capacity(100);
        Checks.same("on the due day", rows.reserve(0), 5);
        Checks.same("not enough left there", rows.reserve(1), 4);
        Checks.same("just enough left there", rows.reserve(2), 5);
        Checks.refused("more than a day has", Checks.MEANING, () -> rows.reserve(3));
        Checks.same("all of a day", rows.reserve(4), 3);
        rows.capacity(150);
        Checks.same("more on each day", rows.reserve(3), 2);
    }

    private static void reserveGoesNoFurtherThanToday() {
        OrderRows rows = withItems(5, 10, 10, 10, 0, 0);
        rows.capacity(10);
        rows.tick(4);
        Checks.same("on the due day", rows.reserve(0), 5);
        Checks.same("today", rows.reserve(1), 4);
        Checks.refused("not yesterday", Checks.MEANING, () -> rows.reserve(2));
        Checks.same("0 kilos on a full day", rows.reserve(3), 5);
        rows.tick(2);
        Checks.refused("0 kilos, the due day is past", Checks.MEANING, () -> rows.reserve(4));
        rows.change(2, 5, 6, 0, 0);
        Checks.same("due today", rows.reserve(2), 6);
    }

    private static void reserveTakesWhatHoldsToday() {
        OrderRows rows = withItems(5, 10, 10, 10);
        rows.capacity(20);
        rows.change(0, 4, 100, 1, 0);
        rows.change(0, 5, 9, 1, 0);
        Checks.same("the due day of today", rows.reserve(0), 5);
        rows.weights(0, 0, 20);
        Checks.same("the kilos of then stay", rows.reserve(1), 5);
        Checks.same("and no more", rows.reserve(2), 4);
        Checks.refused("turn, whatever changed", Checks.TURN, () -> rows.reserve(0));
        OrderRows later = withItems(5, 10, 10);
        later.capacity(20);
        later.change(0, 4, 20, 2, 0);
        later.change(0, 5, 9, 2, 0);
        later.change(1, 5, 9, 2, 0);
        later.tick(2);
        Checks.same("the due day of a later day", later.reserve(0), 9);
        Checks.same("the kilos of a later day", later.reserve(1), 8);
    }

    private static void reserveIsRefused() {
        OrderRows rows = withItems(0, 0, 5);
        for (int wrong : new int[] {-1, 2, Integer.MIN_VALUE, Integer.MAX_VALUE}) {
            Checks.refused("reserve(" + wrong + ")", Checks.INDEX, () -> rows.reserve(wrong));
        }
        Checks.same("0 kilos of no capacity", rows.reserve(0), 0);
        Checks.refused("0 kilos twice", Checks.TURN, () -> rows.reserve(0));
        Checks.refused("no capacity", Checks.MEANING, () -> rows.reserve(1));
        rows.capacity(5);
        Checks.same("a refused one is not reserved", rows.reserve(1), 0);
        Checks.refused("twice", Checks.TURN, () -> rows.reserve(1));
        Checks.same("the part of a reserved item", rows.split(1, 2), 2);
        Checks.refused("is not reserved", Checks.MEANING, () -> rows.reserve(2));
    }

    private static void sixtyItemsFindTheirDays() {
        int[] mosts = new int[60];
        java.util.Arrays.fill(mosts, 1_000_000);
        OrderRows rows = withItems(9_999, mosts);
        rows.capacity(1_000_000);
        for (int item = 0; item < 59; item++) {
            Checks.same("a day each", rows.reserve(item), 9_999 - item);
        }
        rows.capacity(100_000_000);
        Checks.same("the last one", rows.reserve(59), 9_999);
        Checks.refused("two on that day", Checks.MEANING, () -> rows.capacity(1_999_999));
        rows.capacity(2_000_000);
    }
}
