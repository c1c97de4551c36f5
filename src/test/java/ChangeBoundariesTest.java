/** Promises 4 to 8 at their boundaries: a method for each sentence of the document. */
final class ChangeBoundariesTest {
    private static final int[] NO_ITEMS = {-1, 1, 60, Boundary.LOWEST, Boundary.HIGHEST};
    private static final int[] NO_FIELDS = {-1, 6, Boundary.LOWEST, Boundary.HIGHEST};
    private static final int[] NO_DAYS = {-1, 10_000, Boundary.LOWEST, Boundary.HIGHEST};
    private static final int[] ANY_RULES = {0, 1, -1, 99, 100, Boundary.LOWEST, Boundary.HIGHEST};

    public static void main(String[] args) {
        Checks.sentence("4 from today on", ChangeBoundariesTest::weightsFromToday);
        Checks.sentence("4 (two changes)", ChangeBoundariesTest::weightsAreTwoChanges);
        Checks.sentence("4 Index: no such item", ChangeBoundariesTest::weightsOfNoItem);
        Checks.sentence("4 range: they are not so", ChangeBoundariesTest::weightsOutOfRange);
        Checks.sentence("4 meaning: it had more than 18 changes", ChangeBoundariesTest::weightsWithoutRoom);
        Checks.sentence("5 Index: no such item", ChangeBoundariesTest::agreeOfNoItem);
        Checks.sentence("5 range: the rule", ChangeBoundariesTest::agreeOutOfRange);
        Checks.sentence("6 Index: no such item", ChangeBoundariesTest::changeOfNoItem);
        Checks.sentence("6 Index: or field", ChangeBoundariesTest::changeOfNoField);
        Checks.sentence("6 turn: something was made", ChangeBoundariesTest::changeOfWhatWasMade);
        Checks.sentence("6 the rule (any int)", ChangeBoundariesTest::changeByAnyRule);
        Checks.sentence("6 is not the one agreed last", ChangeBoundariesTest::changeByTheRuleAgreedLast);
        Checks.sentence("6 (fields 0 .. 2)", ChangeBoundariesTest::changeWithoutRule);
        Checks.sentence("6 range: the value", ChangeBoundariesTest::changeOfWrongValue);
        Checks.sentence("6 range: the day (0 .. 9,999)", ChangeBoundariesTest::changeFromNoDay);
        Checks.sentence("6 for field 5 the value is not before today", ChangeBoundariesTest::changeOfDueDay);
        Checks.sentence("6 meaning: least would be above most", ChangeBoundariesTest::changeOfLeastAboveMost);
        Checks.sentence("6 on that day", ChangeBoundariesTest::changeLooksAtThatDay);
        Checks.sentence("6 (fields 3 and 4)", ChangeBoundariesTest::changeOfOthersDoesNotLook);
        Checks.sentence("6 or it had 20 changes", ChangeBoundariesTest::changeWithoutRoom);
        Checks.sentence("7 Index: no such item or field", ChangeBoundariesTest::fieldOfNoItemOrField);
        Checks.sentence("7 range: no such day", ChangeBoundariesTest::fieldOnNoDay);
        Checks.sentence("8 (0 first)", ChangeBoundariesTest::historyOfTwenty);
        Checks.sentence("8 Index: no such item", ChangeBoundariesTest::historyOfNoItem);
        Checks.sentence("8 Index: no such change", ChangeBoundariesTest::historyOfNoChange);
        Checks.sentence("8 Index: or what", ChangeBoundariesTest::historyOfNoWhat);
        Checks.finish();
    }

    private static void weightsFromToday() {
        OrderRows rows = Boundary.withItem();
        rows.tick(10);
        rows.weights(0, 30, 40);
        int[][] dayLeastMost = {{0, 0, 0}, {9, 0, 0}, {10, 30, 40}, {11, 30, 40}, {9_999, 30, 40}};
        for (int[] due : dayLeastMost) {
            Checks.same("least on " + due[0], rows.field(0, 3, due[0]), due[1]);
            Checks.same("most on " + due[0], rows.field(0, 4, due[0]), due[2]);
        }
        OrderRows last = Boundary.withItem();
        Boundary.goTo(last, 9_999);
        last.weights(0, 30, 40);
        Checks.same("most on the day before the last", last.field(0, 4, 9_998), 0);
        Checks.same("most on the last day", last.field(0, 4, 9_999), 40);
    }

    private static void weightsAreTwoChanges() {
        OrderRows rows = Boundary.withItem();
        rows.tick(10);
        rows.weights(0, 0, 0);
        int[][] due = {{3, 0, 10, 10}, {4, 0, 10, 10}};
        for (int i = 0; i < 2; i++) {
            for (int what = 0; what < 4; what++) {
                Checks.same("history " + i + " " + what, rows.history(0, i, what), due[i][what]);
            }
        }
        Boundary.refused("a third", Checks.INDEX, () -> Boundary.withItem(0, 0), with -> with.history(0, 2, 0));
    }

    private static void weightsOfNoItem() {
        for (int item : NO_ITEMS) {
            Boundary.refused("item " + item, Checks.INDEX, Boundary::withItem, rows -> rows.weights(item, 1, 2));
        }
    }

    private static void weightsOutOfRange() {
        int[][] wrongs = {{-1, 5}, {6, 5}, {1, 0}, {0, 1_000_001}, {1_000_001, 1_000_001}, {0, -1}, {-1, -1},
            {1_000_000, 999_999}, {Boundary.LOWEST, 0}, {Boundary.LOWEST, Boundary.HIGHEST}, {0, Boundary.HIGHEST},
            {Boundary.HIGHEST, Boundary.LOWEST}, {0, Boundary.LOWEST}};
        for (int[] wrong : wrongs) {
            Boundary.refused(wrong[0] + " to " + wrong[1], Checks.RANGE, () -> Boundary.withItem(3, 4),
                    rows -> rows.weights(0, wrong[0], wrong[1]));
        }
        int[][] edges = {{0, 0}, {0, 1_000_000}, {1_000_000, 1_000_000}, {999_999, 1_000_000}, {0, 1}, {1, 1}};
        for (int[] edge : edges) {
            OrderRows rows = Boundary.withItem(3, 4);
            rows.weights(0, edge[0], edge[1]);
            Checks.same("least " + edge[0], rows.field(0, 3, 0), edge[0]);
            Checks.same("most " + edge[1], rows.field(0, 4, 0), edge[1]);
        }
    }

    private static void weightsWithoutRoom() {
        OrderRows rows = Boundary.withChanges(18);
        rows.weights(0, 3, 4);
        Checks.same("change 18", rows.history(0, 18, 1), 3);
        Checks.same("change 19", rows.history(0, 19, 1), 4);
        for (int changes : new int[] {19, 20}) {
            Boundary.refused("after " + changes, Checks.MEANING, () -> Boundary.withChanges(changes),
                    with -> with.weights(0, 3, 4));
        }
        rows.item(0, 1, 1, 1);
        rows.weights(1, 5, 6);
        Checks.same("another item has room", rows.field(1, 4, 0), 6);
    }

    private static OrderRows withRule(int rule) {
        OrderRows rows = Boundary.withItem();
        rows.made(0, 1);
        rows.agree(0, rule);
        return rows;
    }

    private static void agreeOfNoItem() {
        for (int item : NO_ITEMS) {
            Boundary.refused("item " + item, Checks.INDEX, () -> withRule(7), rows -> rows.agree(item, 1));
        }
    }

    private static void agreeOutOfRange() {
        for (int rule : new int[] {0, -1, 100, Boundary.LOWEST, Boundary.HIGHEST}) {
            Boundary.refused("rule " + rule, Checks.RANGE, () -> withRule(7), rows -> rows.agree(0, rule));
            Boundary.refused("change by the refused rule " + rule, Checks.TURN, () -> withRefusedRule(rule),
                    rows -> rows.change(0, 0, 9, 0, rule));
        }
        for (int rule : new int[] {1, 99}) {
            OrderRows rows = withRule(rule);
            rows.change(0, 0, 9, 0, rule);
            Checks.same("changed by rule " + rule, rows.field(0, 0, 0), 9);
        }
    }

    private static OrderRows withRefusedRule(int rule) {
        OrderRows rows = Boundary.withItem();
        rows.made(0, 1);
        Checks.refused("rule " + rule, Checks.RANGE, () -> rows.agree(0, rule));
        return rows;
    }

    private static void changeOfNoItem() {
        for (int item : NO_ITEMS) {
            Boundary.refused("item " + item, Checks.INDEX, Boundary::withItem, rows -> rows.change(item, 0, 1, 0, 0));
        }
    }

    private static void changeOfNoField() {
        for (int field : NO_FIELDS) {
            Boundary.refused("field " + field, Checks.INDEX, Boundary::withItem,
                    rows -> rows.change(0, field, 1, 0, 0));
        }
        for (int field : new int[] {0, 5}) {
            OrderRows rows = Boundary.withItem();
            rows.change(0, field, 1, 0, 0);
            Checks.same("field " + field, rows.field(0, field, 0), 1);
        }
    }

    private static OrderRows withOneKilo() {
        OrderRows rows = Boundary.withItem();
        rows.made(0, 1);
        return rows;
    }

    private static void changeOfWhatWasMade() {
        for (int field = 0; field < 3; field++) {
            int size = field;
            Boundary.refused("field " + field, Checks.TURN, ChangeBoundariesTest::withOneKilo,
                    rows -> rows.change(0, size, 9, 0, 1));
            Boundary.refused("field " + field + " from a day to come", Checks.TURN, ChangeBoundariesTest::withOneKilo,
                    rows -> rows.change(0, size, 9, 9_999, 1));
        }
        OrderRows rows = withOneKilo();
        rows.item(0, 1, 1, 1);
        rows.change(1, 0, 9, 0, 1);
        Checks.same("an item of which nothing was made", rows.field(1, 0, 0), 9);
        rows.tick(1);
        Checks.refused("made on a day before", Checks.TURN, () -> rows.change(0, 0, 9, 1, 1));
    }

    private static void changeByAnyRule() {
        for (int rule : ANY_RULES) {
            Boundary.refused("made, none agreed, rule " + rule, Checks.TURN, ChangeBoundariesTest::withOneKilo,
                    rows -> rows.change(0, 0, 9, 0, rule));
            OrderRows rows = Boundary.withItem();
            rows.change(0, 0, 9, 0, rule);
            Checks.same("nothing made, rule " + rule, rows.field(0, 0, 0), 9);
            rows.agree(0, 50);
            rows.change(0, 0, 10, 0, rule);
            Checks.same("nothing made, another agreed, rule " + rule, rows.field(0, 0, 0), 10);
        }
    }

    private static OrderRows withTwoRules() {
        OrderRows rows = withRule(7);
        rows.agree(0, 8);
        return rows;
    }

    private static void changeByTheRuleAgreedLast() {
        for (int rule : new int[] {7, 9, 0, -8, Boundary.LOWEST, Boundary.HIGHEST}) {
            Boundary.refused("rule " + rule, Checks.TURN, ChangeBoundariesTest::withTwoRules,
                    rows -> rows.change(0, 2, 9, 0, rule));
        }
        OrderRows rows = withTwoRules();
        for (int field = 0; field < 3; field++) {
            rows.change(0, field, 20 + field, 0, 8);
            Checks.same("field " + field + " by the last rule", rows.field(0, field, 0), 20 + field);
        }
        rows.agree(0, 7);
        rows.change(0, 0, 30, 0, 7);
        Checks.same("by a rule agreed once more", rows.field(0, 0, 0), 30);
        rows.item(0, 1, 1, 1);
        rows.made(1, 1);
        Checks.refused("by another item's rule", Checks.TURN, () -> rows.change(1, 0, 9, 0, 7));
    }

    private static void changeWithoutRule() {
        OrderRows rows = withOneKilo();
        int[][] fieldAndValue = {{4, 5}, {3, 2}, {5, 40}};
        for (int[] change : fieldAndValue) {
            rows.change(0, change[0], change[1], 0, 0);
            Checks.same("field " + change[0], rows.field(0, change[0], 0), change[1]);
        }
    }

    private static void changeOfWrongValue() {
        int[][] fieldAndWrongs = {{0, 0, -1, 100_001}, {1, 0, -1, 100_001}, {2, 0, -1, 100_001},
            {3, -1, -2, 1_000_001}, {4, -1, -2, 1_000_001}, {5, -1, -2, 10_000}};
        for (int[] wrongs : fieldAndWrongs) {
            int field = wrongs[0];
            for (int wrong : new int[] {wrongs[1], wrongs[2], wrongs[3], Boundary.LOWEST, Boundary.HIGHEST}) {
                Boundary.refused("field " + field + " of " + wrong, Checks.RANGE,
                        () -> Boundary.withItem(0, 1_000_000), rows -> rows.change(0, field, wrong, 0, 0));
            }
        }
        int[][] fieldAndEdges = {{0, 1, 100_000}, {1, 1, 100_000}, {2, 1, 100_000}, {3, 0, 1_000_000},
            {4, 0, 1_000_000}, {5, 0, 9_999}};
        for (int[] edges : fieldAndEdges) {
            OrderRows rows = Boundary.withItem(0, 1_000_000);
            for (int edge : new int[] {edges[1], edges[2]}) {
                rows.change(0, edges[0], edge, 0, 0);
                Checks.same("field " + edges[0] + " of " + edge, rows.field(0, edges[0], 0), edge);
            }
        }
    }

    private static void changeFromNoDay() {
        for (int field = 0; field < 6; field++) {
            int changed = field;
            for (int day : NO_DAYS) {
                Boundary.refused("field " + field + " from " + day, Checks.RANGE, () -> Boundary.withItem(1, 9),
                        rows -> rows.change(0, changed, 2, day, 0));
            }
            OrderRows rows = Boundary.withItem(1, 9);
            rows.tick(5);
            int before = rows.field(0, field, 9_998);
            rows.change(0, field, 8, 9_999, 0);
            Checks.same("field " + field + " on the last day", rows.field(0, field, 9_999), 8);
            Checks.same("field " + field + " on the day before", rows.field(0, field, 9_998), before);
        }
        OrderRows rows = Boundary.withItem();
        rows.tick(5);
        rows.change(0, 0, 8, 0, 0);
        Checks.same("from day 0, which is past", rows.field(0, 0, 0), 8);
    }

    private static OrderRows onDayTen() {
        OrderRows rows = Boundary.withItem();
        rows.tick(10);
        return rows;
    }

    private static void changeOfDueDay() {
        for (int from : new int[] {0, 9, 10, 11, 9_999}) {
            Boundary.refused("yesterday, from " + from, Checks.RANGE, ChangeBoundariesTest::onDayTen,
                    rows -> rows.change(0, 5, 9, from, 0));
            OrderRows rows = onDayTen();
            rows.change(0, 5, 10, from, 0);
            Checks.same("today, from " + from, rows.field(0, 5, from), 10);
        }
        Boundary.refused("day 0", Checks.RANGE, ChangeBoundariesTest::onDayTen, rows -> rows.change(0, 5, 0, 0, 0));
        OrderRows rows = onDayTen();
        rows.change(0, 0, 9, 0, 0);
        rows.change(0, 3, 0, 0, 0);
        Checks.same("another field has no such limit", rows.field(0, 0, 0), 9);
    }

    private static void changeOfLeastAboveMost() {
        Boundary.refused("least one above", Checks.MEANING, () -> Boundary.withItem(100, 200),
                rows -> rows.change(0, 3, 201, 0, 0));
        Boundary.refused("most one below", Checks.MEANING, () -> Boundary.withItem(100, 200),
                rows -> rows.change(0, 4, 99, 0, 0));
        Boundary.refused("least of an item of 0 kilos", Checks.MEANING, Boundary::withItem,
                rows -> rows.change(0, 3, 1, 0, 0));
        OrderRows least = Boundary.withItem(100, 200);
        least.change(0, 3, 200, 0, 0);
        Checks.same("least as high as most", least.field(0, 3, 0), 200);
        OrderRows most = Boundary.withItem(100, 200);
        most.change(0, 4, 100, 0, 0);
        Checks.same("most as low as least", most.field(0, 4, 0), 100);
    }

    /** Most is 200 up to day 9 and 100 from day 10 on; least is 50 up to day 4 and 80 from day 5 on. */
    private static OrderRows withSteps() {
        OrderRows rows = Boundary.withItem(50, 200);
        rows.change(0, 4, 100, 10, 0);
        rows.change(0, 3, 80, 5, 0);
        return rows;
    }

    private static void changeLooksAtThatDay() {
        Boundary.refused("least 101 from day 10", Checks.MEANING, ChangeBoundariesTest::withSteps,
                rows -> rows.change(0, 3, 101, 10, 0));
        Boundary.refused("most 79 from day 5", Checks.MEANING, ChangeBoundariesTest::withSteps,
                rows -> rows.change(0, 4, 79, 5, 0));
        OrderRows least = withSteps();
        least.change(0, 3, 101, 9, 0);
        Checks.same("least 101 from day 9", least.field(0, 3, 9), 101);
        Checks.same("it is above most on day 10", least.field(0, 3, 10), 101);
        OrderRows most = withSteps();
        most.change(0, 4, 79, 4, 0);
        Checks.same("most 79 from day 4", most.field(0, 4, 4), 79);
        Checks.same("it is below least on day 5", most.field(0, 4, 5), 79);
    }

    private static void changeOfOthersDoesNotLook() {
        OrderRows rows = withSteps();
        rows.change(0, 3, 150, 9, 0);
        for (int field : new int[] {0, 1, 2, 5}) {
            rows.change(0, field, 1, 10, 0);
            Checks.same("field " + field + " where least is above most", rows.field(0, field, 10), 1);
        }
    }

    private static void changeWithoutRoom() {
        OrderRows rows = Boundary.withChanges(19);
        rows.change(0, 5, 60, 0, 0);
        Checks.same("change 19", rows.history(0, 19, 1), 60);
        int[] values = {1, 1, 1, 0, 0, 60};
        for (int field = 0; field < 6; field++) {
            int changed = field;
            Boundary.refused("field " + field + " after 20", Checks.MEANING, () -> Boundary.withChanges(20),
                    with -> with.change(0, changed, values[changed], 0, 0));
        }
        rows.item(0, 1, 1, 1);
        rows.change(1, 0, 44, 0, 0);
        Checks.same("another item has room", rows.field(1, 0, 0), 44);
        Checks.same("and does not reach the first", rows.history(0, 0, 1), 100);
    }

    private static void fieldOfNoItemOrField() {
        for (int item : NO_ITEMS) {
            Boundary.refused("item " + item, Checks.INDEX, Boundary::withItem, rows -> rows.field(item, 0, 0));
        }
        for (int field : NO_FIELDS) {
            Boundary.refused("field " + field, Checks.INDEX, Boundary::withItem, rows -> rows.field(0, field, 0));
        }
        Checks.same("field 0", Boundary.withItem().field(0, 0, 0), 5);
        Checks.same("field 5", Boundary.withItem().field(0, 5, 0), 50);
    }

    private static void fieldOnNoDay() {
        for (int field = 0; field < 6; field++) {
            int looked = field;
            for (int day : NO_DAYS) {
                Boundary.refused("field " + field + " on " + day, Checks.RANGE, Boundary::withItem,
                        rows -> rows.field(0, looked, day));
            }
        }
        Checks.same("on day 0", Boundary.withItem().field(0, 2, 0), 7);
        Checks.same("on day 9,999", Boundary.withItem().field(0, 2, 9_999), 7);
    }

    private static void historyOfTwenty() {
        OrderRows rows = Boundary.withChanges(20);
        for (int i = 0; i < 20; i++) {
            Checks.same("change " + i, rows.history(0, i, 1), 100 + i);
        }
    }

    private static void historyOfNoItem() {
        for (int item : NO_ITEMS) {
            Boundary.refused("item " + item, Checks.INDEX, () -> Boundary.withChanges(1),
                    rows -> rows.history(item, 0, 0));
        }
    }

    private static void historyOfNoChange() {
        Boundary.refused("change 0 of none", Checks.INDEX, Boundary::withItem, rows -> rows.history(0, 0, 0));
        for (int change : new int[] {-1, 3, 19, 20, Boundary.LOWEST, Boundary.HIGHEST}) {
            Boundary.refused("change " + change + " of three", Checks.INDEX, () -> Boundary.withChanges(3),
                    rows -> rows.history(0, change, 0));
        }
        Boundary.refused("change 20 of twenty", Checks.INDEX, () -> Boundary.withChanges(20),
                rows -> rows.history(0, 20, 0));
        OrderRows rows = Boundary.withChanges(20);
        rows.item(0, 1, 1, 1);
        Checks.refused("change 20, where the next item's may lie", Checks.INDEX, () -> rows.history(0, 20, 0));
        Checks.refused("change -1, where the last item's may lie", Checks.INDEX, () -> rows.history(1, -1, 0));
    }

    private static void historyOfNoWhat() {
        for (int what : new int[] {-1, 4, Boundary.LOWEST, Boundary.HIGHEST}) {
            Boundary.refused("what " + what, Checks.INDEX, () -> Boundary.withChanges(1),
                    rows -> rows.history(0, 0, what));
        }
        Checks.same("what 0", Boundary.withChanges(1).history(0, 0, 0), 0);
        Checks.same("what 3", Boundary.withChanges(1).history(0, 0, 3), 0);
    }
}
