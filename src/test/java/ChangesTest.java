/** Promises 4, 6, 7 and 8: weights, change, field, history. */
final class ChangesTest {
    public static void main(String[] args) {
        weightsHoldFromToday();
        weightsAreRefused();
        changesHoldFromTheirDay();
        sizesNeedARuleOnceMade();
        changesAreRefusedByIndexAndRange();
        dueIsNotBeforeToday();
        leastStaysWithinMostOnThatDayAlone();
        changesAreAtMostTwenty();
        historyTellsEachChange();
        refusalsComeInTheirOrder();
        Checks.finish();
    }

    private static OrderRows withItem() {
        OrderRows rows = new OrderRows();
        rows.order(0, 50);
        rows.item(0, 5, 6, 7);
        return rows;
    }

    private static void weightsHoldFromToday() {
        OrderRows rows = withItem();
        rows.tick(10);
        rows.weights(0, 0, 1_000_000);
        Checks.same("most yesterday", rows.field(0, 4, 9), 0);
        Checks.same("most today", rows.field(0, 4, 10), 1_000_000);
        rows.weights(0, 1_000_000, 1_000_000);
        Checks.same("least yesterday", rows.field(0, 3, 9), 0);
        Checks.same("least today", rows.field(0, 3, 10), 1_000_000);
        int[][] due = {{3, 0, 10, 10}, {4, 1_000_000, 10, 10}, {3, 1_000_000, 10, 10}, {4, 1_000_000, 10, 10}};
        for (int i = 0; i < 4; i++) {
            for (int what = 0; what < 4; what++) {
                Checks.same("weights in history " + i + " " + what, rows.history(0, i, what), due[i][what]);
            }
        }
    }

    private static void weightsAreRefused() {
        OrderRows rows = withItem();
        for (int wrong : new int[] {-1, 1, Integer.MIN_VALUE, Integer.MAX_VALUE}) {
            Checks.refused("weights of item " + wrong, Checks.INDEX, () -> rows.weights(wrong, -1, -1));
        }
        int[][] wrongWeights = {{-1, 5}, {6, 5}, {0, 1_000_001}, {1_000_001, 1_000_001}, {0, -1}, {-2, -1},
                {Integer.MIN_VALUE, 0}, {0, Integer.MAX_VALUE}};
        for (int[] wrong : wrongWeights) {
            Checks.refused("weights " + wrong[0] + " to " + wrong[1], Checks.RANGE,
                    () -> rows.weights(0, wrong[0], wrong[1]));
        }
        for (int i = 0; i < 18; i++) {
            rows.change(0, 0, 1 + i, 0, 0);
        }
        rows.weights(0, 3, 4);
        Checks.same("weights as changes 18 and 19", rows.history(0, 19, 1), 4);
        Checks.refused("weights after 20 changes", Checks.MEANING, () -> rows.weights(0, 3, 4));
        Checks.refused("wrong weights after 20 changes", Checks.RANGE, () -> rows.weights(0, 5, 4));
        rows.item(0, 1, 1, 1);
        for (int i = 0; i < 19; i++) {
            rows.change(1, 0, 1 + i, 0, 0);
        }
        Checks.refused("weights after 19 changes", Checks.MEANING, () -> rows.weights(1, 3, 4));
        Checks.same("refused weights change nothing", rows.field(1, 3, 0), 0);
        Checks.refused("refused weights leave no change", Checks.INDEX, () -> rows.history(1, 19, 0));
    }

    private static void changesHoldFromTheirDay() {
        OrderRows rows = withItem();
        rows.change(0, 0, 10, 20, 0);
        rows.change(0, 0, 11, 10, 0);
        rows.change(0, 0, 12, 10, 0);
        rows.change(0, 1, 99, 0, 0);
        rows.change(0, 2, 98, 9_999, 0);
        int[][] dayAndThick = {{0, 5}, {9, 5}, {10, 12}, {19, 12}, {20, 10}, {9_999, 10}};
        for (int[] due : dayAndThick) {
            Checks.same("thick on " + due[0], rows.field(0, 0, due[0]), due[1]);
        }
        rows.tick(30);
        rows.change(0, 0, 13, 5, 0);
        Checks.same("a change told late, from an early day", rows.field(0, 0, 5), 13);
        Checks.same("it ends where a later day begins", rows.field(0, 0, 10), 12);
        Checks.same("width from day 0", rows.field(0, 1, 0), 99);
        Checks.same("length on the day before the last", rows.field(0, 2, 9_998), 7);
        Checks.same("length on the last day", rows.field(0, 2, 9_999), 98);
    }

    private static void sizesNeedARuleOnceMade() {
        OrderRows rows = withItem();
        rows.change(0, 0, 8, 0, -5);
        rows.made(0, 1);
        for (int rule : new int[] {0, 1, -1, 99, Integer.MIN_VALUE, Integer.MAX_VALUE}) {
            for (int field = 0; field < 3; field++) {
                int size = field;
                Checks.refused("rule " + rule + ", none agreed", Checks.TURN, () -> rows.change(0, size, 9, 0, rule));
            }
        }
        rows.change(0, 4, 5, 0, 0);
        rows.change(0, 3, 2, 0, 0);
        rows.change(0, 5, 40, 0, 0);
        rows.agree(0, 7);
        Checks.refused("another rule", Checks.TURN, () -> rows.change(0, 2, 9, 0, 6));
        Checks.refused("rule 0", Checks.TURN, () -> rows.change(0, 2, 9, 0, 0));
        for (int field = 0; field < 3; field++) {
            rows.change(0, field, 20 + field, 0, 7);
            Checks.same("changed by the rule", rows.field(0, field, 0), 20 + field);
        }
    }

    private static void changesAreRefusedByIndexAndRange() {
        OrderRows rows = withItem();
        rows.weights(0, 0, 1_000_000);
        for (int wrong : new int[] {-1, 1, Integer.MIN_VALUE, Integer.MAX_VALUE}) {
            Checks.refused("change of item " + wrong, Checks.INDEX, () -> rows.change(wrong, 0, 1, 0, 0));
        }
        for (int wrong : new int[] {-1, 6, Integer.MIN_VALUE, Integer.MAX_VALUE}) {
            Checks.refused("change of field " + wrong, Checks.INDEX, () -> rows.change(0, wrong, 1, 0, 0));
        }
        int[][] fieldAndWrong = {{0, 0}, {0, 100_001}, {1, 0}, {1, 100_001}, {2, -1}, {2, 100_001},
                {3, -1}, {3, 1_000_001}, {4, -1}, {4, 1_000_001}, {5, -1}, {5, 10_000}};
        for (int[] wrong : fieldAndWrong) {
            Checks.refused("value " + wrong[1] + " of field " + wrong[0], Checks.RANGE,
                    () -> rows.change(0, wrong[0], wrong[1], 0, 0));
        }
        for (int field = 0; field < 6; field++) {
            int changed = field;
            for (int day : new int[] {-1, 10_000, Integer.MIN_VALUE, Integer.MAX_VALUE}) {
                Checks.refused("field " + field + " from " + day, Checks.RANGE, () -> rows.change(0, changed, 1, day, 0));
            }
        }
        int[][] edges = {{0, 1}, {0, 100_000}, {1, 1}, {1, 100_000}, {2, 1}, {2, 100_000},
                {3, 1_000_000}, {3, 0}, {4, 0}, {4, 1_000_000}, {5, 0}, {5, 9_999}};
        for (int[] edge : edges) {
            rows.change(0, edge[0], edge[1], 9_999, 0);
            Checks.same("edge of field " + edge[0], rows.field(0, edge[0], 9_999), edge[1]);
        }
    }

    private static void dueIsNotBeforeToday() {
        OrderRows rows = withItem();
        rows.tick(10);
        Checks.refused("due yesterday", Checks.RANGE, () -> rows.change(0, 5, 9, 0, 0));
        Checks.refused("due yesterday, from tomorrow", Checks.RANGE, () -> rows.change(0, 5, 9, 11, 0));
        rows.change(0, 5, 10, 0, 0);
        Checks.same("due today", rows.field(0, 5, 10), 10);
        rows.change(0, 3, 0, 5, 0);
        rows.change(0, 0, 3, 5, 0);
        Checks.same("a value below today in another field", rows.field(0, 0, 5), 3);
    }

    private static void leastStaysWithinMostOnThatDayAlone() {
        OrderRows rows = withItem();
        rows.weights(0, 100, 200);
        Checks.refused("least above most", Checks.MEANING, () -> rows.change(0, 3, 201, 0, 0));
        Checks.refused("most below least", Checks.MEANING, () -> rows.change(0, 4, 99, 0, 0));
        rows.change(0, 4, 100, 10, 0);
        rows.change(0, 3, 200, 9, 0);
        Checks.same("least on a later day", rows.field(0, 3, 10), 200);
        Checks.same("is above most there", rows.field(0, 4, 10), 100);
        Checks.refused("least by the most of that day", Checks.MEANING, () -> rows.change(0, 3, 101, 10, 0));
        rows.change(0, 3, 100, 10, 0);
        Checks.refused("most by the least of that day", Checks.MEANING, () -> rows.change(0, 4, 199, 9, 0));
        rows.change(0, 4, 200, 9, 0);
    }

    private static void changesAreAtMostTwenty() {
        OrderRows rows = withItem();
        rows.item(0, 1, 1, 1);
        for (int i = 0; i < 20; i++) {
            rows.change(0, i % 3, 100 + i, i, 0);
        }
        Checks.refused("change 20", Checks.MEANING, () -> rows.change(0, 0, 1, 0, 0));
        Checks.refused("change 20 of a due day", Checks.MEANING, () -> rows.change(0, 5, 1, 0, 0));
        Checks.refused("change 20, wrong value", Checks.RANGE, () -> rows.change(0, 0, 0, 0, 0));
        Checks.same("the last change holds", rows.field(0, 1, 19), 119);
        Checks.same("another item is untouched", rows.field(1, 1, 19), 1);
        rows.change(1, 1, 44, 0, 0);
        Checks.same("another item has room", rows.field(1, 1, 19), 44);
        Checks.same("and does not reach the first", rows.history(0, 19, 1), 119);
    }

    private static void historyTellsEachChange() {
        OrderRows rows = withItem();
        rows.change(0, 5, 70, 30, 0);
        rows.tick(4);
        rows.change(0, 0, 9, 2, 0);
        int[][] due = {{5, 70, 30, 0}, {0, 9, 2, 4}};
        for (int i = 0; i < 2; i++) {
            for (int what = 0; what < 4; what++) {
                Checks.same("history " + i + " " + what, rows.history(0, i, what), due[i][what]);
            }
        }
        for (int wrong : new int[] {-1, 2, 20, Integer.MIN_VALUE, Integer.MAX_VALUE}) {
            Checks.refused("change " + wrong, Checks.INDEX, () -> rows.history(0, wrong, 0));
        }
        for (int wrong : new int[] {-1, 4, Integer.MIN_VALUE, Integer.MAX_VALUE}) {
            Checks.refused("what " + wrong, Checks.INDEX, () -> rows.history(0, 0, wrong));
        }
        for (int wrong : new int[] {-1, 1, Integer.MIN_VALUE, Integer.MAX_VALUE}) {
            Checks.refused("history of item " + wrong, Checks.INDEX, () -> rows.history(wrong, 0, 0));
        }
    }

    private static void refusalsComeInTheirOrder() {
        OrderRows rows = withItem();
        rows.made(0, 1);
        Checks.refused("index ahead of turn", Checks.INDEX, () -> rows.change(1, 0, 0, -1, 0));
        Checks.refused("turn ahead of range", Checks.TURN, () -> rows.change(0, 0, 0, -1, 0));
        Checks.refused("range ahead of meaning", Checks.RANGE, () -> rows.change(0, 3, 5, -1, 0));
        Checks.refused("meaning last", Checks.MEANING, () -> rows.change(0, 3, 5, 0, 0));
        Checks.refused("refused changes leave no history", Checks.INDEX, () -> rows.history(0, 0, 0));
    }
}
