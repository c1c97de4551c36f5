import java.util.ArrayList;
import java.util.HashMap;
import java.util.HashSet;
import java.util.List;
import java.util.Map;
import java.util.Set;

/** The document once more, as plainly and slowly as it can be said; ModelTest compares it with the class. */
final class Model {
    private record Order(int customer, int due, Set<Integer> group) {
    }

    private record Change(int field, int value, int from, int told) {
    }

    private record Output(int item, int day, int kilos) {
    }

    private record Quote(int item, int until, long cents) {
    }

    private static final class Item {
        int order;
        int[] first = new int[6];
        List<Change> changes = new ArrayList<>();
        Integer rule;
        boolean reserved;
    }

    private final List<Order> orders = new ArrayList<>();
    private final List<Item> items = new ArrayList<>();
    private final List<Output> outputs = new ArrayList<>();
    private final List<Quote> quotes = new ArrayList<>();
    private final Set<Integer> accepted = new HashSet<>();
    private final Map<Integer, Integer> credits = new HashMap<>();
    private final int[] reserved = new int[10_000];
    private int perDay;
    private int today;
    private int[] costs = new int[3];

    private static void index(boolean refused) {
        if (refused) {
            throw new IndexOutOfBoundsException();
        }
    }

    private static void turn(boolean refused) {
        if (refused) {
            throw new IllegalStateException();
        }
    }

    private static void range(boolean refused) {
        if (refused) {
            throw new IllegalArgumentException();
        }
    }

    private static void meaning(boolean refused) {
        if (refused) {
            throw new UnsupportedOperationException();
        }
    }

    private static boolean out(int value, int first, int last) {
        return value < first || value > last;
    }

    private boolean noItem(int item) {
        return out(item, 0, items.size() - 1);
    }

    private boolean noOrder(int order) {
        return out(order, 0, orders.size() - 1);
    }

    private int on(int item, int field, int day) {
        for (int from = day; from >= 0; from--) {
            List<Change> changes = items.get(item).changes;
            for (int i = changes.size() - 1; i >= 0; i--) {
                if (changes.get(i).field == field && changes.get(i).from == from) {
                    return changes.get(i).value;
                }
            }
        }
        return items.get(item).first[field];
    }

    private int sum(int item, int day) {
        return outputs.stream().filter(o -> o.item == item && o.day <= day).mapToInt(Output::kilos).sum();
    }

    private void tell(int item, int field, int value, int from) {
        items.get(item).changes.add(new Change(field, value, from, today));
    }

    int order(int customer, int due) {
        index(out(customer, 0, 9));
        range(out(due, 0, 9_999) || due < today);
        meaning(orders.size() == 30);
        Set<Integer> group = new HashSet<>();
        group.add(orders.size());
        orders.add(new Order(customer, due, group));
        return orders.size() - 1;
    }

    int item(int order, int thick, int width, int length) {
        index(noOrder(order));
        range(out(thick, 1, 100_000) || out(width, 1, 100_000) || out(length, 1, 100_000));
        meaning(items.size() == 60);
        Item item = new Item();
        item.order = order;
        item.first = new int[] {thick, width, length, 0, 0, orders.get(order).due};
        items.add(item);
        return items.size() - 1;
    }

    void weights(int item, int least, int most) {
        index(noItem(item));
        range(out(least, 0, 1_000_000) || out(most, 0, 1_000_000) || least > most);
        meaning(items.get(item).changes.size() > 18);
        tell(item, 3, least, today);
        tell(item, 4, most, today);
    }

    void agree(int item, int rule) {
        index(noItem(item));
        range(out(rule, 1, 99));
        items.get(item).rule = rule;
    }

    void change(int item, int field, int value, int from, int rule) {
        index(noItem(item) || out(field, 0, 5));
        Integer agreed = items.get(item).rule;
        turn(field < 3 && sum(item, 9_999) > 0 && (agreed == null || agreed != rule));
        int[] lowest = {1, 1, 1, 0, 0, today};
        int[] highest = {100_000, 100_000, 100_000, 1_000_000, 1_000_000, 9_999};
        range(out(value, lowest[field], highest[field]) || out(from, 0, 9_999));
        meaning(field == 3 && value > on(item, 4, from));
        meaning(field == 4 && value < on(item, 3, from));
        meaning(items.get(item).changes.size() == 20);
        tell(item, field, value, from);
    }

    int field(int item, int field, int day) {
        index(noItem(item) || out(field, 0, 5));
        range(out(day, 0, 9_999));
        return on(item, field, day);
    }

    int history(int item, int i, int what) {
        index(noItem(item) || out(what, 0, 3));
        index(out(i, 0, items.get(item).changes.size() - 1));
        Change change = items.get(item).changes.get(i);
        return new int[] {change.field, change.value, change.from, change.told}[what];
    }

    int split(int item, int kilos) {
        index(noItem(item));
        turn(sum(item, 9_999) > 0);
        range(out(kilos, 1, on(item, 4, today)));
        meaning(items.size() == 60 || items.get(item).changes.size() > 18);
        int off = on(item, 3, today) < kilos ? on(item, 3, today) : kilos;
        Item part = new Item();
        part.order = items.get(item).order;
        part.first = new int[] {on(item, 0, today), on(item, 1, today), on(item, 2, today), off, kilos,
            on(item, 5, today)};
        items.add(part);
        tell(item, 4, on(item, 4, today) - kilos, today);
        tell(item, 3, on(item, 3, today) - off, today);
        return items.size() - 1;
    }

    int made(int item, int kilos) {
        index(noItem(item));
        range(out(kilos, 1, 1_000_000));
        meaning(outputs.size() == 200);
        outputs.add(new Output(item, today, kilos));
        return sum(item, today);
    }

    int state(int item, int day) {
        index(noItem(item));
        range(out(day, 0, 9_999));
        int kilos = sum(item, day);
        if (kilos > on(item, 4, day)) {
            return 3;
        }
        if (kilos >= on(item, 3, day)) {
            return 2;
        }
        return day > on(item, 5, day) ? 1 : 0;
    }

    int rest(int item) {
        index(noItem(item));
        int below = on(item, 3, today) - sum(item, today);
        return below > 0 ? below : 0;
    }

    void costs(int base, int perThousand, int perWidth) {
        range(out(base, 0, 100_000) || out(perThousand, 0, 100_000) || out(perWidth, 0, 100_000));
        costs = new int[] {base, perThousand, perWidth};
    }

    int quote(int item, int until) {
        index(noItem(item));
        range(out(until, 0, 9_999) || until < today);
        meaning(quotes.size() == 60);
        long cents = costs[0];
        for (int begun = 0; begun < on(item, 4, today); begun += 1_000) {
            cents += costs[1];
        }
        cents += 1L * on(item, 1, today) * costs[2];
        quotes.add(new Quote(item, until, cents));
        return quotes.size() - 1;
    }

    int quoteAt(int quote, int what) {
        index(out(quote, 0, quotes.size() - 1) || out(what, 0, 2));
        Quote q = quotes.get(quote);
        return new int[] {q.item, q.until, accepted.contains(quote) ? 1 : 0}[what];
    }

    long price(int quote) {
        index(out(quote, 0, quotes.size() - 1));
        return quotes.get(quote).cents;
    }

    void credit(int customer, int cents) {
        index(out(customer, 0, 9));
        range(out(cents, 0, 2_000_000_000));
        credits.put(customer, cents);
    }

    private int customerOf(int quote) {
        return orders.get(items.get(quotes.get(quote).item).order).customer;
    }

    long accept(int quote) {
        index(out(quote, 0, quotes.size() - 1));
        turn(accepted.contains(quote) || quotes.get(quote).until < today);
        long sum = quotes.get(quote).cents;
        for (int other : accepted) {
            sum += customerOf(other) == customerOf(quote) ? quotes.get(other).cents : 0;
        }
        meaning(sum > credits.getOrDefault(customerOf(quote), 0));
        accepted.add(quote);
        return sum;
    }

    void capacity(int kilos) {
        range(out(kilos, 0, 100_000_000));
        for (int day = 0; day <= 9_999; day++) {
            meaning(reserved[day] > kilos);
        }
        perDay = kilos;
    }

    int reserve(int item) {
        index(noItem(item));
        turn(items.get(item).reserved);
        int kilos = on(item, 4, today);
        int day = on(item, 5, today);
        while (day >= today && perDay - reserved[day] < kilos) {
            day--;
        }
        meaning(day < today);
        items.get(item).reserved = true;
        reserved[day] += kilos;
        return day;
    }

    int join(int a, int b) {
        index(noOrder(a) || noOrder(b) || a == b);
        Set<Integer> all = new HashSet<>(orders.get(a).group);
        all.addAll(orders.get(b).group);
        for (int order : all) {
            orders.get(order).group.addAll(all);
        }
        return all.size();
    }

    boolean ready(int order) {
        index(noOrder(order));
        for (int item = 0; item < items.size(); item++) {
            if (orders.get(order).group.contains(items.get(item).order) && state(item, today) <= 1) {
                return false;
            }
        }
        return true;
    }

    int late(int i) {
        index(i < 0);
        List<Integer> late = new ArrayList<>();
        for (int item = 0; item < items.size(); item++) {
            if (state(item, today) == 1) {
                late.add(item);
            }
        }
        return i < late.size() ? late.get(i) : -1;
    }

    int tick(int days) {
        range(out(days, 1, 1_000) || today + days > 9_999);
        today += days;
        return today;
    }
}
