/** Promise 9 at its boundaries: a method for each sentence of the document. */
final class SplitBoundariesTest {
    public static void main(String[] args) {
        Checks.sentence("9 Index: no such item", SplitBoundariesTest::splitOfNoItem);
        Checks.sentence("9 turn: something was made", SplitBoundariesTest::splitOfWhatWasMade);
        Checks.sentence("9 range: the kilos are not 1 up", SplitBoundariesTest::splitOfTooFew);
        Checks.sentence("9 range: up to its most today", SplitBoundariesTest::splitOfTooMany);
        Checks.sentence("9 meaning: there are 60 items", SplitBoundariesTest::splitWithoutRoomForItems);
        Checks.sentence("9 or it had more than 18 changes", SplitBoundariesTest::splitWithoutRoomForChanges);
        Checks.sentence("Terms: off its least as much (but not below 0)", SplitBoundariesTest::leastStopsAtNone);
        Checks.sentence("Terms: from today on", SplitBoundariesTest::splitFromToday);
        Checks.finish();
    }

    private static void weigh(OrderRows rows, int item, int day, int least, int most) {
        Checks.same("least of " + item + " on " + day, rows.field(item, 3, day), least);
        Checks.same("most of " + item + " on " + day, rows.field(item, 4, day), most);
    }

    private static void splitOfNoItem() {
        for (int item : new int[] {-1, 1, 60, Boundary.LOWEST, Boundary.HIGHEST}) {
            Boundary.refused("split(" + item + ", 1)", Checks.INDEX, () -> Boundary.withItem(10, 20),
                    rows -> rows.split(item, 1));
        }
    }

    private static OrderRows withOneKilo() {
        OrderRows rows = Boundary.withItem(10, 20);
        rows.made(0, 1);
        return rows;
    }

    private static void splitOfWhatWasMade() {
        Boundary.refused("one kilo was made", Checks.TURN, SplitBoundariesTest::withOneKilo, rows -> rows.split(0, 1));
        OrderRows rows = withOneKilo();
        rows.item(0, 1, 1, 1);
        rows.weights(1, 1, 2);
        Checks.same("of another item", rows.split(1, 1), 2);
        rows.tick(1);
        Checks.refused("made on a day before", Checks.TURN, () -> rows.split(0, 1));
    }

    private static void splitOfTooFew() {
        for (int kilos : new int[] {0, -1, Boundary.LOWEST}) {
            Boundary.refused(kilos + " kilos", Checks.RANGE, () -> Boundary.withItem(10, 20),
                    rows -> rows.split(0, kilos));
        }
        Boundary.refused("0 of 0 kilos", Checks.RANGE, Boundary::withItem, rows -> rows.split(0, 0));
        OrderRows rows = Boundary.withItem(10, 20);
        Checks.same("1 kilo", rows.split(0, 1), 1);
        weigh(rows, 0, 0, 9, 19);
        weigh(rows, 1, 0, 1, 1);
    }

    /** Most is 20 today, 30 from tomorrow on. */
    private static OrderRows withMoreTomorrow() {
        OrderRows rows = Boundary.withItem(10, 20);
        rows.change(0, 4, 30, 1, 0);
        return rows;
    }

    private static void splitOfTooMany() {
        for (int kilos : new int[] {21, 1_000_001, Boundary.HIGHEST}) {
            Boundary.refused(kilos + " kilos", Checks.RANGE, () -> Boundary.withItem(10, 20),
                    rows -> rows.split(0, kilos));
        }
        Boundary.refused("1 of 0 kilos", Checks.RANGE, Boundary::withItem, rows -> rows.split(0, 1));
        Boundary.refused("by the most of tomorrow", Checks.RANGE, SplitBoundariesTest::withMoreTomorrow,
                rows -> rows.split(0, 21));
        OrderRows later = withMoreTomorrow();
        later.tick(1);
        Checks.same("tomorrow", later.split(0, 30), 1);
        OrderRows all = Boundary.withItem(10, 20);
        Checks.same("all", all.split(0, 20), 1);
        weigh(all, 0, 0, 0, 0);
        weigh(all, 1, 0, 10, 20);
        Checks.refused("nothing is left", Checks.RANGE, () -> all.split(0, 1));
        OrderRows heavy = Boundary.withItem(1_000_000, 1_000_000);
        heavy.split(0, 1_000_000);
        weigh(heavy, 0, 0, 0, 0);
        weigh(heavy, 1, 0, 1_000_000, 1_000_000);
    }

    private static OrderRows withWeighedItems(int items) {
        OrderRows rows = Boundary.withItems(items);
        rows.weights(0, 10, 20);
        return rows;
    }

    private static void splitWithoutRoomForItems() {
        OrderRows rows = withWeighedItems(59);
        Checks.same("item 59", rows.split(0, 5), 59);
        weigh(rows, 59, 0, 5, 5);
        Checks.refused("item 60, after a split", Checks.MEANING, () -> rows.split(0, 5));
        Boundary.refused("item 60", Checks.MEANING, () -> withWeighedItems(60), full -> full.split(0, 5));
    }

    private static OrderRows withWeightsAndChanges(int changes) {
        OrderRows rows = Boundary.withItem(10, 20);
        Boundary.change(rows, 0, changes - 2);
        return rows;
    }

    private static void splitWithoutRoomForChanges() {
        OrderRows rows = withWeightsAndChanges(18);
        Checks.same("after 18", rows.split(0, 5), 1);
        Checks.same("it told two changes", rows.history(0, 19, 2), 0);
        for (int changes : new int[] {19, 20}) {
            Boundary.refused("after " + changes, Checks.MEANING, () -> withWeightsAndChanges(changes),
                    with -> with.split(0, 5));
        }
        Checks.same("the new item has room", rows.split(1, 5), 2);
    }

    private static void leastStopsAtNone() {
        int[][] kilosAndRest = {{9, 1, 11, 9}, {10, 0, 10, 10}, {11, 0, 9, 10}};
        for (int[] due : kilosAndRest) {
            OrderRows rows = Boundary.withItem(10, 20);
            rows.split(0, due[0]);
            weigh(rows, 0, 0, due[1], due[2]);
            weigh(rows, 1, 0, due[3], due[0]);
        }
        OrderRows none = Boundary.withItem(0, 20);
        none.split(0, 5);
        weigh(none, 0, 0, 0, 15);
        weigh(none, 1, 0, 0, 5);
    }

    private static void splitFromToday() {
        OrderRows rows = Boundary.withItem(10, 20);
        rows.change(0, 4, 30, 8, 0);
        rows.tick(5);
        rows.split(0, 4);
        weigh(rows, 0, 4, 10, 20);
        weigh(rows, 0, 5, 6, 16);
        weigh(rows, 0, 7, 6, 16);
        weigh(rows, 0, 8, 6, 30);
        for (int day : new int[] {0, 4, 5, 8, 9_999}) {
            weigh(rows, 1, day, 4, 4);
        }
    }
}
