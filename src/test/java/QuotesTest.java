/** Promises 13 to 18: costs, quote, quoteAt, price, credit, accept. */
final class QuotesTest {
    public static void main(String[] args) {
        pricesFollowTheCostRows();
        pricesKeepToTheirDay();
        quoteAtTellsEachPart();
        acceptCountsForTheCustomer();
        Checks.finish();
    }

    private static OrderRows withItem(int width) {
        OrderRows rows = new OrderRows();
        rows.order(2, 9);
        rows.item(0, 1, width, 1);
        return rows;
    }

    private static long priceOfNext(OrderRows rows) {
        return rows.price(rows.quote(0, 9_999));
    }

    private static void pricesFollowTheCostRows() {
        OrderRows rows = withItem(50);
        rows.weights(0, 0, 1);
        Checks.same("without cost rows", priceOfNext(rows), 0);
        rows.costs(100, 7, 3);
        int[][] mostAndCents = {{0, 250}, {1, 257}, {999, 257}, {1_000, 257}, {1_001, 264}, {1_000_000, 7_250}};
        for (int[] due : mostAndCents) {
            rows.weights(0, 0, due[0]);
            Checks.same("most " + due[0], priceOfNext(rows), due[1]);
        }
        rows.costs(100_000, 100_000, 100_000);
        rows.change(0, 1, 100_000, 0, 0);
        Checks.same("the dearest", priceOfNext(rows), 100_000L + 100_000_000L + 10_000_000_000L);
        rows.costs(0, 100_000, 0);
        Checks.same("thousands alone", priceOfNext(rows), 100_000_000L);
        rows.costs(0, 0, 100_000);
        Checks.same("width alone", priceOfNext(rows), 10_000_000_000L);
        rows.costs(0, 0, 0);
        Checks.same("nothing", priceOfNext(rows), 0);
    }

    private static void pricesKeepToTheirDay() {
        OrderRows rows = withItem(50);
        rows.costs(1, 10, 100);
        rows.weights(0, 0, 1_000);
        rows.change(0, 1, 60, 1, 0);
        rows.change(0, 4, 2_000, 1, 0);
        int first = rows.quote(0, 5);
        rows.tick(1);
        int second = rows.quote(0, 5);
        rows.costs(0, 0, 0);
        rows.change(0, 1, 70, 0, 0);
        Checks.same("as of its day", rows.price(first), 1 + 10 + 5_000);
        Checks.same("as of the next day", rows.price(second), 1 + 20 + 6_000);
    }

    private static void quoteAtTellsEachPart() {
        OrderRows rows = withItem(1);
        rows.item(0, 1, 1, 1);
        rows.quote(1, 7);
        rows.quote(0, 8);
        rows.accept(1);
        int[][] due = {{1, 7, 0}, {0, 8, 1}};
        for (int quote = 0; quote < 2; quote++) {
            for (int what = 0; what < 3; what++) {
                Checks.same("quoteAt " + quote + " " + what, rows.quoteAt(quote, what), due[quote][what]);
            }
        }
        for (int wrong : new int[] {-1, 2, Integer.MIN_VALUE, Integer.MAX_VALUE}) {
            Checks.refused("quoteAt(" + wrong + ", 0)", Checks.INDEX, () -> rows.quoteAt(wrong, 0));
            Checks.refused("price(" + wrong + ")", Checks.INDEX, () -> rows.price(wrong));
            Checks.refused("accept(" + wrong + ")", Checks.INDEX, () -> rows.accept(wrong));
        }
        for (int wrong : new int[] {-1, 3, Integer.MIN_VALUE, Integer.MAX_VALUE}) {
            Checks.refused("quoteAt(0, " + wrong + ")", Checks.INDEX, () -> rows.quoteAt(0, wrong));
        }
    }

    private static void acceptCountsForTheCustomer() {
        OrderRows rows = withItem(1);
        rows.order(2, 9);
        rows.order(3, 9);
        rows.item(1, 1, 1, 1);
        rows.item(2, 1, 1, 1);
        rows.costs(100_000, 0, 0);
        for (int item = 0; item < 3; item++) {
            rows.quote(item, 5);
            rows.quote(item, 5);
        }
        Checks.refused("no credit at first", Checks.MEANING, () -> rows.accept(0));
        rows.credit(2, 99_999);
        Checks.refused("one above the credit", Checks.MEANING, () -> rows.accept(0));
        rows.credit(2, 200_000);
        Checks.same("first", rows.accept(0), 100_000);
        Checks.same("of another order, up to the credit", rows.accept(2), 200_000);
        Checks.refused("all are counted", Checks.MEANING, () -> rows.accept(1));
        Checks.refused("another customer has none", Checks.MEANING, () -> rows.accept(4));
        Checks.same("a refused one is not accepted", rows.quoteAt(1, 2), 0);
        rows.credit(2, 0);
        rows.credit(3, 2_000_000_000);
        Checks.same("another customer's own sum", rows.accept(4), 100_000);
        rows.credit(2, 300_000);
        Checks.same("more credit", rows.accept(1), 300_000);
    }
}
