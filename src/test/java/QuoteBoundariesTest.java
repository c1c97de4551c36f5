/** Promises 13 to 18 at their boundaries: a method for each sentence of the document. */
final class QuoteBoundariesTest {
    private static final int[] NO_RATES = {-1, 100_001, Boundary.LOWEST, Boundary.HIGHEST};
    private static final int[] NO_QUOTES = {-1, 2, 60, Boundary.LOWEST, Boundary.HIGHEST};

    public static void main(String[] args) {
        Checks.sentence("Terms: (0 .. 100,000 each)", QuoteBoundariesTest::costsAtTheirEnds);
        Checks.sentence("Terms: all 0 at first", QuoteBoundariesTest::costsAtFirst);
        Checks.sentence("13 Range: they are not so", QuoteBoundariesTest::costsOutOfRange);
        Checks.sentence("Terms: each begun 1,000 kilos", QuoteBoundariesTest::begunThousands);
        Checks.sentence("Terms: as of today", QuoteBoundariesTest::quoteAsOfToday);
        Checks.sentence("14 its number", QuoteBoundariesTest::quoteNumbers);
        Checks.sentence("14 Index: no such item", QuoteBoundariesTest::quoteOfNoItem);
        Checks.sentence("14 range: the day is past", QuoteBoundariesTest::quoteUntilADayPast);
        Checks.sentence("14 range: or none", QuoteBoundariesTest::quoteUntilNoDay);
        Checks.sentence("14 meaning: there are 60", QuoteBoundariesTest::quoteSixtyOne);
        Checks.sentence("15 Index: no such quote", QuoteBoundariesTest::quoteAtOfNoQuote);
        Checks.sentence("15 Index: or what", QuoteBoundariesTest::quoteAtOfNoWhat);
        Checks.sentence("16 Index: no such quote", QuoteBoundariesTest::priceOfNoQuote);
        Checks.sentence("16 long", QuoteBoundariesTest::priceBeyondInt);
        Checks.sentence("Terms: CREDIT .. 0 at first", QuoteBoundariesTest::creditAtFirst);
        Checks.sentence("17 Index: no such customer", QuoteBoundariesTest::creditOfNoCustomer);
        Checks.sentence("17 range: it", QuoteBoundariesTest::creditOutOfRange);
        Checks.sentence("18 all accepted cents of its customer", QuoteBoundariesTest::acceptSumsByCustomer);
        Checks.sentence("18 Index: no such quote", QuoteBoundariesTest::acceptOfNoQuote);
        Checks.sentence("18 turn: it was accepted", QuoteBoundariesTest::acceptTwice);
        Checks.sentence("18 turn: or its day is past", QuoteBoundariesTest::acceptOnADayPast);
        Checks.sentence("18 meaning: above the credit", QuoteBoundariesTest::acceptAboveTheCredit);
        Checks.sentence("18 long", QuoteBoundariesTest::acceptBeyondInt);
        Checks.finish();
    }

    /** Item 0 is 6 wide and has this most. */
    private static long priceAt(int most, int base, int perThousand, int perWidth) {
        OrderRows rows = Boundary.withItem(0, most);
        rows.costs(base, perThousand, perWidth);
        return rows.price(rows.quote(0, 5));
    }

    private static void costsAtTheirEnds() {
        Checks.same("all 0", priceAt(1_000, 0, 0, 0), 0);
        Checks.same("base 100,000", priceAt(1_000, 100_000, 0, 0), 100_000);
        Checks.same("per thousand 100,000", priceAt(1_000, 0, 100_000, 0), 100_000);
        Checks.same("per width 100,000", priceAt(1_000, 0, 0, 100_000), 600_000);
    }

    private static void costsAtFirst() {
        OrderRows rows = Boundary.withItem(0, 1_000_000);
        Checks.same("a price at first", rows.price(rows.quote(0, 5)), 0);
    }

    private static OrderRows withCosts() {
        OrderRows rows = Boundary.withItem(0, 1_000);
        rows.costs(1, 10, 100);
        return rows;
    }

    private static void costsOutOfRange() {
        for (int rate : NO_RATES) {
            Boundary.refused("base " + rate, Checks.RANGE, QuoteBoundariesTest::withCosts,
                    rows -> rows.costs(rate, 5, 5));
            Boundary.refused("per thousand " + rate, Checks.RANGE, QuoteBoundariesTest::withCosts,
                    rows -> rows.costs(5, rate, 5));
            Boundary.refused("per width " + rate, Checks.RANGE, QuoteBoundariesTest::withCosts,
                    rows -> rows.costs(5, 5, rate));
        }
    }

    private static void begunThousands() {
        int[][] mostAndThousands = {{0, 0}, {1, 1}, {999, 1}, {1_000, 1}, {1_001, 2}, {2_000, 2}, {2_001, 3},
            {999_000, 999}, {999_001, 1_000}, {1_000_000, 1_000}};
        for (int[] due : mostAndThousands) {
            Checks.same("most " + due[0], priceAt(due[0], 0, 7, 0), 7 * due[1]);
        }
    }

    private static void quoteAsOfToday() {
        OrderRows rows = withCosts();
        rows.change(0, 1, 8, 1, 0);
        rows.change(0, 4, 1_001, 2, 0);
        int[] due = {1 + 10 + 600, 1 + 10 + 800, 1 + 20 + 800};
        for (int day = 0; day < 3; day++) {
            Checks.same("on day " + day, rows.price(rows.quote(0, 5)), due[day]);
            rows.tick(1);
        }
        rows.costs(0, 0, 0);
        rows.change(0, 1, 99, 0, 0);
        for (int quote = 0; quote < 3; quote++) {
            Checks.same("kept by quote " + quote, rows.price(quote), due[quote]);
        }
    }

    private static OrderRows withQuotes(int quotes) {
        OrderRows rows = withCosts();
        rows.credit(0, 2_000);
        for (int i = 0; i < quotes; i++) {
            rows.quote(0, 5 + i);
        }
        return rows;
    }

    private static void quoteNumbers() {
        OrderRows rows = withCosts();
        for (int i = 0; i < 60; i++) {
            Checks.same("quote " + i, rows.quote(0, i), i);
        }
        Checks.same("the day of quote 0", rows.quoteAt(0, 1), 0);
        Checks.same("the day of quote 59", rows.quoteAt(59, 1), 59);
    }

    private static void quoteOfNoItem() {
        for (int item : new int[] {-1, 1, 60, Boundary.LOWEST, Boundary.HIGHEST}) {
            Boundary.refused("item " + item, Checks.INDEX, () -> withQuotes(1), rows -> rows.quote(item, 5));
        }
    }

    private static OrderRows withCostsOn(int day) {
        OrderRows rows = withCosts();
        Boundary.goTo(rows, day);
        return rows;
    }

    private static void quoteUntilADayPast() {
        Boundary.refused("until yesterday", Checks.RANGE, () -> withCostsOn(5), rows -> rows.quote(0, 4));
        Boundary.refused("until day 0", Checks.RANGE, () -> withCostsOn(5), rows -> rows.quote(0, 0));
        Boundary.refused("until 9,998 on 9,999", Checks.RANGE, () -> withCostsOn(9_999),
                rows -> rows.quote(0, 9_998));
        Checks.same("until today", withCostsOn(5).quote(0, 5), 0);
        Checks.same("until the last day, there", withCostsOn(9_999).quote(0, 9_999), 0);
    }

    private static void quoteUntilNoDay() {
        for (int day : new int[] {-1, 10_000, Boundary.LOWEST, Boundary.HIGHEST}) {
            Boundary.refused("until " + day, Checks.RANGE, () -> withQuotes(1), rows -> rows.quote(0, day));
        }
        Checks.same("until day 0", withCosts().quote(0, 0), 0);
        Checks.same("until day 9,999", withCosts().quote(0, 9_999), 0);
    }

    private static void quoteSixtyOne() {
        Checks.same("quote 59", withQuotes(59).quote(0, 5), 59);
        Boundary.refused("quote 60", Checks.MEANING, () -> withQuotes(60), rows -> rows.quote(0, 5));
        OrderRows rows = withQuotes(60);
        rows.accept(0);
        Checks.refused("quote 60 behind an accepted one", Checks.MEANING, () -> rows.quote(0, 5));
        Checks.refused("price of quote 60", Checks.INDEX, () -> rows.price(60));
    }

    private static void quoteAtOfNoQuote() {
        for (int quote : NO_QUOTES) {
            Boundary.refused("quoteAt(" + quote + ", 0)", Checks.INDEX, () -> withQuotes(2),
                    rows -> rows.quoteAt(quote, 0));
        }
        Checks.same("quoteAt(1, 1)", withQuotes(2).quoteAt(1, 1), 6);
    }

    private static void quoteAtOfNoWhat() {
        for (int what : new int[] {-1, 3, Boundary.LOWEST, Boundary.HIGHEST}) {
            Boundary.refused("quoteAt(0, " + what + ")", Checks.INDEX, () -> withQuotes(2),
                    rows -> rows.quoteAt(0, what));
        }
        OrderRows rows = withQuotes(2);
        rows.accept(1);
        Checks.same("what 0", rows.quoteAt(1, 0), 0);
        Checks.same("what 2", rows.quoteAt(1, 2), 1);
        Checks.same("what 2 of another", rows.quoteAt(0, 2), 0);
    }

    private static void priceOfNoQuote() {
        for (int quote : NO_QUOTES) {
            Boundary.refused("price(" + quote + ")", Checks.INDEX, () -> withQuotes(2), rows -> rows.price(quote));
        }
        Checks.same("price(1)", withQuotes(2).price(1), 611);
    }

    private static void priceBeyondInt() {
        OrderRows rows = Boundary.withItem(0, 1_000_000);
        rows.change(0, 1, 100_000, 0, 0);
        rows.costs(100_000, 100_000, 100_000);
        Checks.same("the dearest", rows.price(rows.quote(0, 5)), 100_000L + 100_000_000L + 10_000_000_000L);
    }

    private static void creditAtFirst() {
        for (int customer = 0; customer < 10; customer++) {
            OrderRows rows = new OrderRows();
            rows.order(customer, 9);
            rows.item(0, 1, 1, 1);
            rows.quote(0, 5);
            rows.costs(1, 0, 0);
            rows.quote(0, 5);
            Checks.refused("1 cent of customer " + customer, Checks.MEANING, () -> rows.accept(1));
            Checks.same("0 cents of customer " + customer, rows.accept(0), 0);
        }
    }

    private static void creditOfNoCustomer() {
        for (int customer : new int[] {-1, 10, Boundary.LOWEST, Boundary.HIGHEST}) {
            Boundary.refused("customer " + customer, Checks.INDEX, () -> withQuotes(2),
                    rows -> rows.credit(customer, 0));
        }
        OrderRows rows = new OrderRows();
        rows.order(9, 9);
        rows.item(0, 1, 1, 1);
        rows.costs(1, 0, 0);
        rows.quote(0, 5);
        rows.credit(0, 5);
        Checks.refused("customer 0's is not customer 9's", Checks.MEANING, () -> rows.accept(0));
        rows.credit(9, 5);
        Checks.same("customer 9", rows.accept(0), 1);
    }

    private static void creditOutOfRange() {
        for (int cents : new int[] {-1, 2_000_000_001, Boundary.LOWEST, Boundary.HIGHEST}) {
            Boundary.refused("credit " + cents, Checks.RANGE, () -> withQuotes(2), rows -> rows.credit(0, cents));
        }
        OrderRows rows = withQuotes(2);
        rows.credit(0, 0);
        Checks.refused("credit 0", Checks.MEANING, () -> rows.accept(0));
        rows.credit(0, 2_000_000_000);
        Checks.same("credit 2,000,000,000", rows.accept(0), 611);
    }

    private static void acceptSumsByCustomer() {
        OrderRows rows = withQuotes(2);
        rows.order(0, 9);
        rows.order(1, 9);
        rows.item(1, 1, 1, 1);
        rows.item(2, 1, 1, 1);
        rows.credit(1, 1_000);
        rows.quote(1, 5);
        rows.quote(2, 5);
        Checks.same("first", rows.accept(1), 611);
        Checks.same("of another order of the customer", rows.accept(2), 611 + 101);
        Checks.same("of another customer", rows.accept(3), 101);
        Checks.same("all", rows.accept(0), 611 + 101 + 611);
    }

    private static void acceptOfNoQuote() {
        for (int quote : NO_QUOTES) {
            Boundary.refused("accept(" + quote + ")", Checks.INDEX, () -> withQuotes(2), rows -> rows.accept(quote));
        }
        Boundary.refused("accept(0) of none", Checks.INDEX, () -> withQuotes(0), rows -> rows.accept(0));
    }

    private static OrderRows withAccepted() {
        OrderRows rows = withQuotes(2);
        rows.accept(0);
        return rows;
    }

    private static void acceptTwice() {
        Boundary.refused("accept(0) again", Checks.TURN, QuoteBoundariesTest::withAccepted, rows -> rows.accept(0));
        Checks.same("its cents count once", withAccepted().accept(1), 2 * 611);
    }

    private static OrderRows withQuotesOn(int day) {
        OrderRows rows = withQuotes(2);
        Boundary.goTo(rows, day);
        return rows;
    }

    private static void acceptOnADayPast() {
        Checks.same("on its last day", withQuotesOn(5).accept(0), 611);
        Boundary.refused("on the day after", Checks.TURN, () -> withQuotesOn(6), rows -> rows.accept(0));
        Checks.same("another's last day", withQuotesOn(6).accept(1), 611);
        OrderRows last = withCostsOn(9_999);
        last.credit(0, 611);
        last.quote(0, 9_999);
        Checks.same("on the last day of all", last.accept(0), 611);
    }

    private static OrderRows withCredit(int cents) {
        OrderRows rows = withQuotes(2);
        rows.credit(0, cents);
        return rows;
    }

    private static OrderRows withOneAcceptedAndCredit(int cents) {
        OrderRows rows = withAccepted();
        rows.credit(0, cents);
        return rows;
    }

    private static void acceptAboveTheCredit() {
        Boundary.refused("one above", Checks.MEANING, () -> withCredit(610), rows -> rows.accept(0));
        Checks.same("just the credit", withCredit(611).accept(0), 611);
        Boundary.refused("the sum one above", Checks.MEANING, () -> withOneAcceptedAndCredit(1_221),
                rows -> rows.accept(1));
        Checks.same("the sum just the credit", withOneAcceptedAndCredit(1_222).accept(1), 1_222);
        Boundary.refused("credit lowered below what was accepted", Checks.MEANING, () -> withOneAcceptedAndCredit(0),
                rows -> rows.accept(1));
    }

    /** Quote 0 is 2,000,000,000 cents, quote 1 is 200,000,000, quote 2 is 10,000,000,000, quote 3 is 0. */
    private static OrderRows withGreatQuotes() {
        OrderRows rows = Boundary.withItem(0, 1);
        int[] widths = {20_000, 2_000, 100_000};
        rows.costs(0, 0, 100_000);
        for (int width : widths) {
            rows.change(0, 1, width, 0, 0);
            rows.quote(0, 5);
        }
        rows.costs(0, 0, 0);
        rows.quote(0, 5);
        rows.credit(0, 2_000_000_000);
        return rows;
    }

    private static OrderRows withGreatAccepted() {
        OrderRows rows = withGreatQuotes();
        rows.accept(0);
        return rows;
    }

    private static void acceptBeyondInt() {
        Checks.same("the most credit in one", withGreatQuotes().accept(0), 2_000_000_000L);
        Boundary.refused("a price beyond int", Checks.MEANING, QuoteBoundariesTest::withGreatQuotes,
                rows -> rows.accept(2));
        Boundary.refused("a sum that wraps around in int", Checks.MEANING, QuoteBoundariesTest::withGreatAccepted,
                rows -> rows.accept(1));
        Boundary.refused("a sum beyond int", Checks.MEANING, QuoteBoundariesTest::withGreatAccepted,
                rows -> rows.accept(2));
        Checks.same("0 cents more", withGreatAccepted().accept(3), 2_000_000_000L);
    }
}
