/** Promises 10, 11, 12 and 23 at their boundaries: a method for each sentence of the document. */
final class ProductionBoundariesTest {
    private static final int[] NO_ITEMS = {-1, 1, 60, Boundary.LOWEST, Boundary.HIGHEST};

    public static void main(String[] args) {
        Checks.sentence("10 all of the item", ProductionBoundariesTest::madeIsSummed);
        Checks.sentence("10 Index: no such item", ProductionBoundariesTest::madeOfNoItem);
        Checks.sentence("10 range: kilos", ProductionBoundariesTest::madeOfWrongKilos);
        Checks.sentence("10 meaning: or there are 200 such rows", ProductionBoundariesTest::madeInTwoHundredRows);
        Checks.sentence("10 (of all items)", ProductionBoundariesTest::madeInRowsOfAllItems);
        Checks.sentence("11 Index: no such item", ProductionBoundariesTest::stateOfNoItem);
        Checks.sentence("11 range: no such day", ProductionBoundariesTest::stateOnNoDay);
        Checks.sentence("Terms: 3 OVER (above most)", ProductionBoundariesTest::over);
        Checks.sentence("Terms: 2 MET (least or more)", ProductionBoundariesTest::met);
        Checks.sentence("Terms: 0 OPEN (up to the due day), 1 LATE", ProductionBoundariesTest::openThenLate);
        Checks.sentence("Terms: the first that is so", ProductionBoundariesTest::overBeforeMet);
        Checks.sentence("Terms: all that was made up to it", ProductionBoundariesTest::madeUpToADay);
        Checks.sentence("Terms: its fields on that day", ProductionBoundariesTest::fieldsOnThatDay);
        Checks.sentence("12 Index: no such item", ProductionBoundariesTest::restOfNoItem);
        Checks.sentence("Terms: what is below least (0 otherwise)", ProductionBoundariesTest::restEndsAtNone);
        Checks.sentence("Terms: as of today", ProductionBoundariesTest::restAsOfToday);
        Checks.sentence("23 (0 first, by numbers)", ProductionBoundariesTest::lateByNumbers);
        Checks.sentence("23 -1 when there are not so many", ProductionBoundariesTest::lateBehindTheLast);
        Checks.sentence("23 as of today", ProductionBoundariesTest::lateAsOfToday);
        Checks.sentence("23 Index: i is below 0", ProductionBoundariesTest::lateBelowNone);
        Checks.finish();
    }

    private static void madeIsSummed() {
        OrderRows rows = Boundary.withItems(2);
        Checks.same("first", rows.made(0, 1), 1);
        Checks.same("of the same day", rows.made(0, 1_000_000), 1_000_001);
        Checks.same("of another item", rows.made(1, 3), 3);
        rows.tick(1);
        Checks.same("of another day", rows.made(0, 9), 1_000_010);
    }

    private static OrderRows withTwoMade() {
        OrderRows rows = Boundary.withItem(5, 9);
        rows.made(0, 2);
        return rows;
    }

    private static void madeOfNoItem() {
        for (int item : NO_ITEMS) {
            Boundary.refused("made(" + item + ", 1)", Checks.INDEX, ProductionBoundariesTest::withTwoMade,
                    rows -> rows.made(item, 1));
        }
    }

    private static void madeOfWrongKilos() {
        for (int kilos : new int[] {0, -1, 1_000_001, Boundary.LOWEST, Boundary.HIGHEST}) {
            Boundary.refused(kilos + " kilos", Checks.RANGE, ProductionBoundariesTest::withTwoMade,
                    rows -> rows.made(0, kilos));
        }
        Checks.same("1 kilo", withTwoMade().made(0, 1), 3);
        Checks.same("1,000,000 kilos", withTwoMade().made(0, 1_000_000), 1_000_002);
    }

    private static OrderRows withRows(int rowsOfFirst, int rowsOfSecond, int kilos) {
        OrderRows rows = Boundary.withItems(3);
        for (int i = 0; i < rowsOfFirst; i++) {
            rows.made(0, kilos);
        }
        for (int i = 0; i < rowsOfSecond; i++) {
            rows.made(1, kilos);
        }
        return rows;
    }

    private static void madeInTwoHundredRows() {
        Checks.same("row 199", withRows(199, 0, 1).made(0, 1), 200);
        Checks.same("row 199 of the most kilos", withRows(199, 0, 1_000_000).made(0, 1_000_000), 200_000_000);
        Boundary.refused("row 200", Checks.MEANING, () -> withRows(200, 0, 1), rows -> rows.made(0, 1));
        Boundary.refused("row 200 of the most kilos", Checks.MEANING, () -> withRows(200, 0, 1_000_000),
                rows -> rows.made(0, 1_000_000));
        OrderRows later = withRows(200, 0, 1);
        later.tick(1);
        Checks.refused("row 200 on another day", Checks.MEANING, () -> later.made(0, 1));
    }

    private static void madeInRowsOfAllItems() {
        Checks.same("row 199", withRows(100, 99, 1).made(1, 1), 100);
        for (int item = 0; item < 3; item++) {
            int made = item;
            Boundary.refused("row 200 of item " + item, Checks.MEANING, () -> withRows(100, 100, 1),
                    rows -> rows.made(made, 1));
        }
    }

    private static void stateOfNoItem() {
        for (int item : NO_ITEMS) {
            Boundary.refused("state(" + item + ", 0)", Checks.INDEX, Boundary::withItem, rows -> rows.state(item, 0));
        }
    }

    private static void stateOnNoDay() {
        for (int day : new int[] {-1, 10_000, Boundary.LOWEST, Boundary.HIGHEST}) {
            Boundary.refused("state(0, " + day + ")", Checks.RANGE, Boundary::withItem, rows -> rows.state(0, day));
        }
        Checks.same("state(0, 0)", Boundary.withItem(1, 1).state(0, 0), 0);
        Checks.same("state(0, 9999)", Boundary.withItem(1, 1).state(0, 9_999), 1);
    }

    private static OrderRows withMade(int kilos) {
        OrderRows rows = Boundary.withItem(10, 20);
        rows.made(0, kilos);
        return rows;
    }

    private static void over() {
        Checks.same("most", withMade(20).state(0, 0), 2);
        Checks.same("one above", withMade(21).state(0, 0), 3);
        Checks.same("one above, behind the due day", withMade(21).state(0, 51), 3);
        OrderRows none = Boundary.withItem();
        none.made(0, 1);
        Checks.same("one above 0", none.state(0, 0), 3);
    }

    private static void met() {
        Checks.same("one below least", withMade(9).state(0, 0), 0);
        Checks.same("least", withMade(10).state(0, 0), 2);
        Checks.same("least, behind the due day", withMade(10).state(0, 51), 2);
        Checks.same("0 of 0 to 0 kilos", Boundary.withItem().state(0, 0), 2);
        Checks.same("0 of 0 to 5 kilos, behind the due day", Boundary.withItem(0, 5).state(0, 51), 2);
    }

    private static void openThenLate() {
        Checks.same("on the day before", withMade(9).state(0, 49), 0);
        Checks.same("on the due day", withMade(9).state(0, 50), 0);
        Checks.same("on the day after", withMade(9).state(0, 51), 1);
        OrderRows last = new OrderRows();
        last.order(0, 9_999);
        last.item(0, 1, 1, 1);
        last.weights(0, 1, 1);
        Checks.same("due on the last day", last.state(0, 9_999), 0);
        OrderRows first = new OrderRows();
        first.order(0, 0);
        first.item(0, 1, 1, 1);
        first.weights(0, 1, 1);
        Checks.same("due on the first day, there", first.state(0, 0), 0);
        Checks.same("due on the first day, behind it", first.state(0, 1), 1);
    }

    private static void overBeforeMet() {
        OrderRows rows = Boundary.withItem(5, 10);
        rows.change(0, 4, 6, 4, 0);
        rows.change(0, 3, 9, 2, 0);
        rows.made(0, 7);
        Checks.same("above most and below least", rows.state(0, 4), 3);
        Checks.same("below least alone", rows.state(0, 3), 0);
    }

    private static void madeUpToADay() {
        OrderRows rows = Boundary.withItem(10, 20);
        rows.item(0, 1, 1, 1);
        rows.tick(3);
        rows.made(0, 10);
        rows.tick(2);
        rows.made(1, 50);
        rows.tick(5);
        rows.made(0, 11);
        int[][] dayAndState = {{0, 0}, {2, 0}, {3, 2}, {5, 2}, {9, 2}, {10, 3}, {9_999, 3}};
        for (int[] due : dayAndState) {
            Checks.same("state on " + due[0], rows.state(0, due[0]), due[1]);
        }
        Checks.same("the other item before", rows.state(1, 4), 2);
        Checks.same("the other item then", rows.state(1, 5), 3);
    }

    private static void fieldsOnThatDay() {
        OrderRows least = withMade(10);
        least.change(0, 3, 11, 5, 0);
        Checks.same("by the least before", least.state(0, 4), 2);
        Checks.same("by the least of that day", least.state(0, 5), 0);
        OrderRows most = withMade(15);
        most.change(0, 4, 14, 5, 0);
        Checks.same("by the most before", most.state(0, 4), 2);
        Checks.same("by the most of that day", most.state(0, 5), 3);
        OrderRows due = withMade(9);
        due.change(0, 5, 5, 6, 0);
        Checks.same("by the due day before", due.state(0, 5), 0);
        Checks.same("by the due day of that day", due.state(0, 6), 1);
        due.change(0, 5, 60, 52, 0);
        due.change(0, 5, 50, 6, 0);
        Checks.same("late by one day", due.state(0, 51), 1);
        Checks.same("open again by a later due day", due.state(0, 52), 0);
    }

    private static void restOfNoItem() {
        for (int item : NO_ITEMS) {
            Boundary.refused("rest(" + item + ")", Checks.INDEX, Boundary::withItem, rows -> rows.rest(item));
        }
    }

    private static void restEndsAtNone() {
        Checks.same("of 0 kilos", Boundary.withItem().rest(0), 0);
        Checks.same("nothing made", Boundary.withItem(10, 20).rest(0), 10);
        Checks.same("one below least", withMade(9).rest(0), 1);
        Checks.same("least", withMade(10).rest(0), 0);
        Checks.same("one above least", withMade(11).rest(0), 0);
        Checks.same("above most", withMade(1_000_000).rest(0), 0);
        Checks.same("the most of all", Boundary.withItem(1_000_000, 1_000_000).rest(0), 1_000_000);
    }

    private static void restAsOfToday() {
        OrderRows rows = withMade(4);
        rows.change(0, 3, 15, 1, 0);
        Checks.same("the day before a change holds", rows.rest(0), 6);
        rows.tick(1);
        Checks.same("the day from which it holds", rows.rest(0), 11);
    }

    /** Of six items 1, 3 and 5 are below their least and due on day 50. */
    private static OrderRows withThreeBelow(int day) {
        OrderRows rows = Boundary.withItems(6);
        for (int item = 1; item < 6; item += 2) {
            rows.weights(item, 5, 9);
        }
        Boundary.goTo(rows, day);
        return rows;
    }

    private static void lateByNumbers() {
        OrderRows rows = withThreeBelow(51);
        for (int i = 0; i < 3; i++) {
            Checks.same("late(" + i + ")", rows.late(i), 1 + 2 * i);
        }
        rows.made(1, 5);
        Checks.same("met is not late", rows.late(0), 3);
        rows.made(3, 10);
        Checks.same("over is not late", rows.late(0), 5);
        rows.weights(0, 1, 1);
        Checks.same("item 0", rows.late(0), 0);
        OrderRows full = Boundary.withItems(60);
        full.weights(59, 1, 1);
        Boundary.goTo(full, 51);
        Checks.same("item 59", full.late(0), 59);
    }

    private static void lateBehindTheLast() {
        Checks.same("late(3) of three", withThreeBelow(51).late(3), -1);
        Checks.same("late(60)", withThreeBelow(51).late(60), -1);
        Checks.same("late of the highest int", withThreeBelow(51).late(Boundary.HIGHEST), -1);
        Checks.same("late(0) of none", Boundary.withItem().late(0), -1);
        OrderRows full = Boundary.withItems(60);
        Checks.same("late(0) of none of 60", full.late(0), -1);
        full.weights(59, 1, 1);
        Boundary.goTo(full, 51);
        Checks.same("late(1) of one of 60", full.late(1), -1);
        Checks.same("late(0) of no items", new OrderRows().late(0), -1);
    }

    private static void lateAsOfToday() {
        Checks.same("on the due day", withThreeBelow(50).late(0), -1);
        Checks.same("on the day after", withThreeBelow(51).late(0), 1);
        OrderRows rows = withThreeBelow(49);
        rows.change(3, 5, 51, 51, 0);
        rows.tick(2);
        Checks.same("by the due day of today", rows.late(1), 5);
        rows.tick(1);
        Checks.same("a day on", rows.late(1), 3);
    }

    private static void lateBelowNone() {
        for (int i : new int[] {-1, -2, Boundary.LOWEST}) {
            Boundary.refused("late(" + i + ")", Checks.INDEX, () -> withThreeBelow(51), rows -> rows.late(i));
            Boundary.refused("late(" + i + ") of no items", Checks.INDEX, OrderRows::new, rows -> rows.late(i));
        }
    }
}
