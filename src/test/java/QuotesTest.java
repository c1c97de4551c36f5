/** Promises 13 to 18: costs, quote, quoteAt, price, credit, accept. */
final class QuotesTest {
    public static void main(String[] args) {
        pricesFollowTheCostRows();
        pricesKeepToTheirDay();
        costsAreRefused();
        quotesAreRefused();
        quotesAreAtMostSixty();
        quoteAtTellsEachPart();
        creditIsRefused();
        acceptCountsForTheCustomer();
        acceptIsRefused();
        Checks.finish();
    }

    private static OrderRows withItem(int width) {
        OrderRows rows = new OrderRows();
        rows.order(2, 9);
        rows.item(0, 1, width, 1);
        return rows;
    }

    private static long priceOfNext(OrderRows rows) {
        return rows.price(rows.quote(0, 9_999));
    }

    private static void pricesFollowTheCostRows() {
        OrderRows rows = withItem(50);
        rows.weights(0, 0, 1);
        Checks.same("without cost rows", priceOfNext(rows), 0);
        rows.costs(100, 7, 3);
        int[][] mostAndCents = {{0, 250}, {1, 257}, {999, 257}, {1_000, 257}, {1_001, 264}, {1_000_000, 7_250}};
        for (int[] due : mostAndCents) {
            rows.weights(0, 0, due[0]);
            Checks.same("most " + due[0], priceOfNext(rows), due[1]);
        }
        rows.costs(100_000, 100_000, 100_000);
        rows.change(0, 1, 100_000, 0, 0);
        Checks.same("the dearest", priceOfNext(rows), 100_000L + 100_000_000L + 10_000_000_000L);
        rows.costs(0, 100_000, 0);
        Checks.same("thousands alone", priceOfNext(rows), 100_000_000L);
        rows.costs(0, 0, 100_000);
        Checks.same("width alone", priceOfNext(rows), 10_000_000_000L);
        rows.costs(0, 0, 0);
        Checks.same("nothing", priceOfNext(rows), 0);
    }

    private static void pricesKeepToTheirDay() {
        OrderRows rows = withItem(50);
        rows.costs(1, 10, 100);
        rows.weights(0, 0, 1_000);
        rows.change(0, 1, 60, 1, 0);
        rows.change(0, 4, 2_000, 1, 0);
        int first = rows.quote(0, 5);
        rows.tick(1);
        int second = rows.quote(0, 5);
        rows.costs(0, 0, 0);
        rows.change(0, 1, 70, 0, 0);
        Checks.same("as of its day", rows.price(first), 1 + 10 + 5_000);
        Checks.same("as of the next day", rows.price(second), 1 + 20 + 6_000);
    }

    private static void costsAreRefused() {
        OrderRows rows = withItem(2);
        rows.costs(1, 1, 1);
        for (int wrong : new int[] {-1, 100_001, Integer.MIN_VALUE, Integer.MAX_VALUE}) {
            Checks.refused("base " + wrong, Checks.RANGE, () -> rows.costs(wrong, 5, 5));
            Checks.refused("per thousand " + wrong, Checks.RANGE, () -> rows.costs(5, wrong, 5));
            Checks.refused("per width " + wrong, Checks.RANGE, () -> rows.costs(5, 5, wrong));
        }
        Checks.same("refused costs change nothing", priceOfNext(rows), 3);
    }

    private static void quotesAreRefused() {
        OrderRows rows = withItem(1);
        rows.tick(5);
        for (int wrong : new int[] {-1, 1, Integer.MIN_VALUE, Integer.MAX_VALUE}) {
            Checks.refused("quote of item " + wrong, Checks.INDEX, () -> rows.quote(wrong, -1));
        }
        for (int wrong : new int[] {4, -1, 10_000, Integer.MIN_VALUE, Integer.MAX_VALUE}) {
            Checks.refused("quote until " + wrong, Checks.RANGE, () -> rows.quote(0, wrong));
        }
        Checks.same("until today", rows.quote(0, 5), 0);
        Checks.same("until the last day", rows.quote(0, 9_999), 1);
    }

    private static void quotesAreAtMostSixty() {
        OrderRows rows = withItem(1);
        for (int i = 0; i < 60; i++) {
            Checks.same("quote " + i, rows.quote(0, i), i);
        }
        Checks.refused("quote 60", Checks.MEANING, () -> rows.quote(0, 5));
        Checks.refused("quote 60, no item", Checks.INDEX, () -> rows.quote(1, 5));
        Checks.refused("quote 60, no day", Checks.RANGE, () -> rows.quote(0, 10_000));
        Checks.same("the last quote", rows.quoteAt(59, 1), 59);
        Checks.refused("none behind it", Checks.INDEX, () -> rows.quoteAt(60, 1));
    }

    private static void quoteAtTellsEachPart() {
        OrderRows rows = withItem(1);
        rows.item(0, 1, 1, 1);
        rows.quote(1, 7);
        rows.quote(0, 8);
        rows.accept(1);
        int[][] due = {{1, 7, 0}, {0, 8, 1}};
        for (int quote = 0; quote < 2; quote++) {
            for (int what = 0; what < 3; what++) {
                Checks.same("quoteAt " + quote + " " + what, rows.quoteAt(quote, what), due[quote][what]);
            }
        }
        for (int wrong : new int[] {-1, 2, Integer.MIN_VALUE, Integer.MAX_VALUE}) {
            Checks.refused("quoteAt(" + wrong + ", 0)", Checks.INDEX, () -> rows.quoteAt(wrong, 0));
            Checks.refused("price(" + wrong + ")", Checks.INDEX, () -> rows.price(wrong));
            Checks.refused("accept(" + wrong + ")", Checks.INDEX, () -> rows.accept(wrong));
        }
        for (int wrong : new int[] {-1, 3, Integer.MIN_VALUE, Integer.MAX_VALUE}) {
            Checks.refused("quoteAt(0, " + wrong + ")", Checks.INDEX, () -> rows.quoteAt(0, wrong));
        }
    }

    private static void creditIsRefused() {
        OrderRows rows = withItem(1);
        for (int wrong : new int[] {-1, 10, Integer.MIN_VALUE, Integer.MAX_VALUE}) {
            Checks.refused("credit of " + wrong, Checks.INDEX, () -> rows.credit(wrong, -1));
        }
        for (int wrong : new int[] {-1, 2_000_000_001, Integer.MIN_VALUE, Integer.MAX_VALUE}) {
            Checks.refused("credit " + wrong, Checks.RANGE, () -> rows.credit(2, wrong));
        }
        rows.credit(0, 0);
        rows.credit(9, 2_000_000_000);
    }

    private static void acceptCountsForTheCustomer() {
        OrderRows rows = withItem(1);
        rows.order(2, 9);
        rows.order(3, 9);
        rows.item(1, 1, 1, 1);
        rows.item(2, 1, 1, 1);
        rows.costs(100_000, 0, 0);
        for (int item = 0; item < 3; item++) {
            rows.quote(item, 5);
            rows.quote(item, 5);
        }
        Checks.refused("no credit at first", Checks.MEANING, () -> rows.accept(0));
        rows.credit(2, 99_999);
        Checks.refused("one above the credit", Checks.MEANING, () -> rows.accept(0));
        rows.credit(2, 200_000);
        Checks.same("first", rows.accept(0), 100_000);
        Checks.same("of another order, up to the credit", rows.accept(2), 200_000);
        Checks.refused("all are counted", Checks.MEANING, () -> rows.accept(1));
        Checks.refused("another customer has none", Checks.MEANING, () -> rows.accept(4));
        Checks.same("a refused one is not accepted", rows.quoteAt(1, 2), 0);
        rows.credit(2, 0);
        rows.credit(3, 2_000_000_000);
        Checks.same("another customer's own sum", rows.accept(4), 100_000);
        rows.credit(2, 300_000);
        Checks.same("more credit", rows.accept(1), 300_000);
    }

    private static void acceptIsRefused() {
        OrderRows rows = withItem(100_000);
        rows.costs(0, 0, 100_000);
        rows.credit(2, 2_000_000_000);
        rows.quote(0, 5);
        Checks.refused("a price beyond an int", Checks.MEANING, () -> rows.accept(0));
        rows.costs(1, 0, 0);
        rows.quote(0, 5);
        rows.quote(0, 5);
        rows.quote(0, 6);
        rows.tick(5);
        Checks.same("on its last day", rows.accept(1), 1);
        Checks.refused("twice", Checks.TURN, () -> rows.accept(1));
        rows.tick(1);
        Checks.refused("its day is past", Checks.TURN, () -> rows.accept(2));
        Checks.refused("past, ahead of the credit", Checks.TURN, () -> rows.accept(0));
        Checks.same("its day is today", rows.accept(3), 2);
        rows.credit(2, 0);
        Checks.refused("twice, ahead of the credit", Checks.TURN, () -> rows.accept(3));
    }
}
