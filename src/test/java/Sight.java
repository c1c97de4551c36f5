import java.util.ArrayList;
import java.util.List;
import java.util.function.Supplier;

/**
 * What can be seen of an object: two objects that answer alike here hold the same.
 * The last questions change the object, so it is of no use behind this. At most 260 calls,
 * which leaves as many for the making of the object (512 in all).
 */
final class Sight {
    private static final int[] DAYS = {0, 5, 10, 9_999};
    private static final int[] ITEMS = {0, 1, 58, 59};

    private final OrderRows rows;
    private final List<String> seen = new ArrayList<>();

    private Sight(OrderRows rows) {
        this.rows = rows;
    }

    static List<String> of(OrderRows rows) {
        Sight sight = new Sight(rows);
        for (int item : ITEMS) {
            if (sight.answers("rest(" + item + ")", () -> rows.rest(item))) {
                sight.lookAtItem(item);
            }
        }
        sight.lookAtQuotes();
        sight.lookAtOrders();
        sight.tryCalls();
        return sight.seen;
    }

    private boolean answers(String call, Supplier<Object> act) {
        try {
            seen.add(call + " answered " + act.get());
            return true;
        } catch (RuntimeException e) {
            seen.add(call + " threw " + e.getClass().getSimpleName());
            return false;
        }
    }

    private void lookAtItem(int item) {
        for (int day : DAYS) {
            for (int field = 0; field < 6; field++) {
                int looked = field;
                answers("field(" + item + ", " + field + ", " + day + ")", () -> rows.field(item, looked, day));
            }
            answers("state(" + item + ", " + day + ")", () -> rows.state(item, day));
        }
        int changes = 0;
        while (changes < 20 && tells(item, changes)) {
            changes++;
        }
        for (int what = 0; what < 4; what++) {
            int looked = what;
            int last = Math.max(0, changes - 1);
            answers("history(" + item + ", last, " + what + ")", () -> rows.history(item, last, looked));
        }
    }

    private boolean tells(int item, int change) {
        return answers("history(" + item + ", " + change + ", 1)", () -> rows.history(item, change, 1));
    }

    private void lookAtQuotes() {
        for (int quote : new int[] {0, 1, 59}) {
            if (answers("price(" + quote + ")", () -> rows.price(quote))) {
                answers("item of quote " + quote, () -> rows.quoteAt(quote, 0));
                answers("day of quote " + quote, () -> rows.quoteAt(quote, 1));
                answers("acceptance of quote " + quote, () -> rows.quoteAt(quote, 2));
            }
        }
    }

    private void lookAtOrders() {
        for (int order : new int[] {0, 1, 29}) {
            answers("ready(" + order + ")", () -> rows.ready(order));
        }
        answers("late(0)", () -> rows.late(0));
        answers("late(1)", () -> rows.late(1));
    }

    private void tryCalls() {
        answers("accept(0)", () -> rows.accept(0));
        answers("accept(1)", () -> rows.accept(1));
        answers("reserve(0)", () -> rows.reserve(0));
        answers("reserve(1)", () -> rows.reserve(1));
        answers("order(0, 9999)", () -> rows.order(0, 9_999));
        answers("item(0, 1, 1, 1)", () -> rows.item(0, 1, 1, 1));
        answers("quote(0, 9999)", () -> rows.quote(0, 9_999));
        answers("price of the next quote", () -> rows.price(rows.quote(0, 9_999)));
        answers("join(0, 1)", () -> rows.join(0, 1));
        answers("made(0, 1)", () -> rows.made(0, 1));
        for (int rule : new int[] {1, 7, 99}) {
            answers("change by rule " + rule, () -> changeByRule(rule));
        }
        answers("tick(1)", () -> rows.tick(1));
    }

    private String changeByRule(int rule) {
        rows.change(0, 0, 1, 0, rule);
        return "nothing";
    }
}
