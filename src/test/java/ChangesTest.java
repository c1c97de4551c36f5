/** Promises 4, 6, 7 and 8: weights, change, field, history. */
final class ChangesTest {
    public static void main(String[] args) {
        weightsHoldFromToday();
        changesHoldFromTheirDay();
        sizesNeedARuleOnceMade();
        leastStaysWithinMostOnThatDayAlone();
        historyTellsEachChange();
        Checks.finish();
    }

    private static OrderRows withItem() {
        OrderRows rows = new OrderRows();
        rows.order(0, 50);
        rows.item(0, 5, 6, 7);
        return rows;
    }

    private static void weightsHoldFromToday() {
        OrderRows rows = withItem();
        rows.tick(10);
        rows.weights(0, 0, 1_000_000);
        Checks.same("most yesterday", rows.field(0, 4, 9), 0);
        Checks.same("most today", rows.field(0, 4, 10), 1_000_000);
        rows.weights(0, 1_000_000, 1_000_000);
        Checks.same("least yesterday", rows.field(0, 3, 9), 0);
        Checks.same("least today", rows.field(0, 3, 10), 1_000_000);
        int[][] due = {{3, 0, 10, 10}, {4, 1_000_000, 10, 10}, {3, 1_000_000, 10, 10}, {4, 1_000_000, 10, 10}};
        for (int i = 0; i < 4; i++) {
            for (int what = 0; what < 4; what++) {
                Checks.same("weights in history " + i + " " + what, rows.history(0, i, what), due[i][what]);
            }
        }
    }

    private static void changesHoldFromTheirDay() {
        OrderRows rows = withItem();
        rows.change(0, 0, 10, 20, 0);
        rows.change(0, 0, 11, 10, 0);
        rows.change(0, 0, 12, 10, 0);
        rows.change(0, 1, 99, 0, 0);
        rows.change(0, 2, 98, 9_999, 0);
        int[][] dayAndThick = {{0, 5}, {9, 5}, {10, 12}, {19, 12}, {20, 10}, {9_999, 10}};
        for (int[] due : dayAndThick) {
            Checks.same("thick on " + due[0], rows.field(0, 0, due[0]), due[1]);
        }
        rows.tick(30);
        rows.change(0, 0, 13, 5, 0);
        Checks.same("a change told late, from an early day", rows.field(0, 0, 5), 13);
        Checks.same("it ends where a later day begins", rows.field(0, 0, 10), 12);
        Checks.same("width from day 0", rows.field(0, 1, 0), 99);
        Checks.same("length on the day before the last", rows.field(0, 2, 9_998), 7);
        Checks.same("length on the last day", rows.field(0, 2, 9_999), 98);
    }

    private static void sizesNeedARuleOnceMade() {
        OrderRows rows = withItem();
        rows.change(0, 0, 8, 0, -5);
        rows.made(0, 1);
        for (int rule : new int[] {0, 1, -1, 99, Integer.MIN_VALUE, Integer.MAX_VALUE}) {
            for (int field = 0; field < 3; field++) {
                int size = field;
                Checks.refused("rule " + rule + ", none agreed", Checks.TURN, () -> rows.change(0, size, 9, 0, rule));
            }
        }
        rows.change(0, 4, 5, 0, 0);
        rows.change(0, 3, 2, 0, 0);
        rows.change(0, 5, 40, 0, 0);
        rows.agree(0, 7);
        Checks.refused("another rule", Checks.TURN, () -> rows.change(0, 2, 9, 0, 6));
        Checks.refused("rule 0", Checks.TURN, () -> rows.change(0, 2, 9, 0, 0));
        for (int field = 0; field < 3; field++) {
            rows.change(0, field, 20 + field, 0, 7);
            Checks.same("changed by the rule", rows.field(0, field, 0), 20 + field);
        }
    }

    private static void leastStaysWithinMostOnThatDayAlone() {
        OrderRows rows = withItem();
        rows.weights(0, 100, 200);
        Checks.refused("least above most", Checks.MEANING, () -> rows.change(0, 3, 201, 0, 0));
        Checks.refused("most below least", Checks.MEANING, () -> rows.change(0, 4, 99, 0, 0));
        rows.change(0, 4, 100, 10, 0);
        rows.change(0, 3, 200, 9, 0);
        Checks.same("least on a later day", rows.field(0, 3, 10), 200);
        Checks.same("is above most there", rows.field(0, 4, 10), 100);
        Checks.refused("least by the most of that day", Checks.MEANING, () -> rows.change(0, 3, 101, 10, 0));
        rows.change(0, 3, 100, 10, 0);
        Checks.refused("most by the least of that day", Checks.MEANING, () -> rows.change(0, 4, 199, 9, 0));
        rows.change(0, 4, 200, 9, 0);
    }

    private static void historyTellsEachChange() {
        OrderRows rows = withItem();
        rows.change(0, 5, 70, 30, 0);
        rows.tick(4);
        rows.change(0, 0, 9, 2, 0);
        int[][] due = {{5, 70, 30, 0}, {0, 9, 2, 4}};
        for (int i = 0; i < 2; i++) {
            for (int what = 0; what < 4; what++) {
                Checks.same("history " + i + " " + what, rows.history(0, i, what), due[i][what]);
            }
        }
        for (int wrong : new int[] {-1, 2, 20, Integer.MIN_VALUE, Integer.MAX_VALUE}) {
            Checks.refused("change " + wrong, Checks.INDEX, () -> rows.history(0, wrong, 0));
        }
        for (int wrong : new int[] {-1, 4, Integer.MIN_VALUE, Integer.MAX_VALUE}) {
            Checks.refused("what " + wrong, Checks.INDEX, () -> rows.history(0, 0, wrong));
        }
        for (int wrong : new int[] {-1, 1, Integer.MIN_VALUE, Integer.MAX_VALUE}) {
            Checks.refused("history of item " + wrong, Checks.INDEX, () -> rows.history(wrong, 0, 0));
        }
    }
}
