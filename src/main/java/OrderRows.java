/** The order book of a steel house; ../shared/DOC.md says what each call answers and when it is refused. */
public final class OrderRows {
    private static final int LAST_DAY = 9_999;
    private static final int LONGEST_TICK = 1_000;

    private static final int CUSTOMERS = 10;
    private static final int MOST_ORDERS = 30;
    private static final int MOST_ITEMS = 60;
    private static final int MOST_CHANGES = 20;
    private static final int MOST_OUTPUTS = 200;
    private static final int MOST_QUOTES = 60;

    private static final int FIELDS = 6;
    private static final int THICK = 0;
    private static final int WIDTH = 1;
    private static final int LENGTH = 2;
    private static final int LEAST = 3;
    private static final int MOST = 4;
    private static final int DUE = 5;

    private static final int OPEN = 0;
    private static final int LATE = 1;
    private static final int MET = 2;
    private static final int OVER = 3;

    private static final int MOST_SIZE = 100_000;
    private static final int MOST_WEIGHT = 1_000_000;
    private static final int MOST_RULE = 99;
    private static final int MOST_OUTPUT = 1_000_000;
    private static final int MOST_OUTPUT_OF_ITEM = 1_000_000_000;
    private static final int MOST_RATE = 100_000;
    private static final int MOST_CREDIT = 2_000_000_000;
    private static final int MOST_DAILY_KILOS = 100_000_000;

    private final Orders orders = new Orders();
    private final Items items = new Items();
    private final Changes changes = new Changes();
    private final Outputs outputs = new Outputs();
    private final Rates rates = new Rates();
    private final Quotes quotes = new Quotes();
    private final Accounts accounts = new Accounts();
    private final Calendar calendar = new Calendar();
    private int today = 0;

    public OrderRows() {
    }

    public int order(int customer, int due)
            throws IndexOutOfBoundsException, IllegalArgumentException, UnsupportedOperationException {
        needIndex(isWithin(customer, 0, CUSTOMERS - 1));
        needRange(isDayToCome(due));
        needMeaning(orders.count < MOST_ORDERS);
        return orders.add(customer, due);
    }

    public int item(int order, int thick, int width, int length)
            throws IndexOutOfBoundsException, IllegalArgumentException, UnsupportedOperationException {
        needIndex(orders.has(order));
        needRange(isSize(thick) && isSize(width) && isSize(length));
        needMeaning(items.count < MOST_ITEMS);
        int number = items.add(order);
        items.begin(number, THICK, thick);
        items.begin(number, WIDTH, width);
        items.begin(number, LENGTH, length);
        items.begin(number, DUE, orders.due[order]);
        return number;
    }

    public void weights(int item, int least, int most)
            throws IndexOutOfBoundsException, IllegalArgumentException, UnsupportedOperationException {
        needIndex(items.has(item));
        needRange(isWeight(least) && isWeight(most) && least <= most);
        needMeaning(changes.hasRoom(item, 2));
        changes.add(item, LEAST, least, today, today);
        changes.add(item, MOST, most, today, today);
    }

    public void agree(int item, int rule) throws IndexOutOfBoundsException, IllegalArgumentException {
        needIndex(items.has(item));
        needRange(isWithin(rule, 1, MOST_RULE));
        items.agreedRule[item] = rule;
    }

    public void change(int item, int field, int value, int from, int rule)
            throws IndexOutOfBoundsException, IllegalStateException, IllegalArgumentException,
            UnsupportedOperationException {
        needIndex(items.has(item) && isField(field));
        needTurn(field > LENGTH || outputs.total[item] == 0 || items.isAgreed(item, rule));
        needRange(isValueOf(field, value) && isDay(from));
        needMeaning(keepsLeastWithinMost(item, field, value, from) && changes.hasRoom(item, 1));
        changes.add(item, field, value, from, today);
    }

    public int field(int item, int field, int day) throws IndexOutOfBoundsException, IllegalArgumentException {
        needIndex(items.has(item) && isField(field));
        needRange(isDay(day));
        return valueOn(item, field, day);
    }

    public int history(int item, int i, int what) throws IndexOutOfBoundsException {
        needIndex(items.has(item) && changes.has(item, i) && isWithin(what, 0, 3));
        return changes.look(item, i, what);
    }

    public int split(int item, int kilos)
            throws IndexOutOfBoundsException, IllegalStateException, IllegalArgumentException,
            UnsupportedOperationException {
        needIndex(items.has(item));
        needTurn(outputs.total[item] == 0);
        int most = valueOn(item, MOST, today);
        needRange(isWithin(kilos, 1, most));
        needMeaning(items.count < MOST_ITEMS && changes.hasRoom(item, 2));
        int least = valueOn(item, LEAST, today);
        int offLeast = Math.min(least, kilos);
        int part = copyOfToday(item);
        items.begin(part, LEAST, offLeast);
        items.begin(part, MOST, kilos);
        // The document names most ahead of least here, so the history keeps that order.
        changes.add(item, MOST, most - kilos, today, today);
        changes.add(item, LEAST, least - offLeast, today, today);
        return part;
    }

    public int made(int item, int kilos)
            throws IndexOutOfBoundsException, IllegalArgumentException, UnsupportedOperationException {
        needIndex(items.has(item));
        needRange(isWithin(kilos, 1, MOST_OUTPUT));
        needMeaning(outputs.total[item] <= MOST_OUTPUT_OF_ITEM - kilos && outputs.count < MOST_OUTPUTS);
        outputs.add(item, today, kilos);
        return outputs.total[item];
    }

    public int state(int item, int day) throws IndexOutOfBoundsException, IllegalArgumentException {
        needIndex(items.has(item));
        needRange(isDay(day));
        return stateOn(item, day);
    }

    public int rest(int item) throws IndexOutOfBoundsException {
        needIndex(items.has(item));
        return Math.max(0, valueOn(item, LEAST, today) - outputs.total[item]);
    }

    public void costs(int base, int perThousand, int perWidth) throws IllegalArgumentException {
        needRange(isRate(base) && isRate(perThousand) && isRate(perWidth));
        rates.set(base, perThousand, perWidth);
    }

    public int quote(int item, int until)
            throws IndexOutOfBoundsException, IllegalArgumentException, UnsupportedOperationException {
        needIndex(items.has(item));
        needRange(isDayToCome(until));
        needMeaning(quotes.count < MOST_QUOTES);
        long cents = rates.centsFor(valueOn(item, MOST, today), valueOn(item, WIDTH, today));
        return quotes.add(item, until, cents);
    }

    public int quoteAt(int quote, int what) throws IndexOutOfBoundsException {
        needIndex(quotes.has(quote) && isWithin(what, 0, 2));
        return quotes.look(quote, what);
    }

    public long price(int quote) throws IndexOutOfBoundsException {
        needIndex(quotes.has(quote));
        return quotes.cents[quote];
    }

    public void credit(int customer, int cents) throws IndexOutOfBoundsException, IllegalArgumentException {
        needIndex(isWithin(customer, 0, CUSTOMERS - 1));
        needRange(isWithin(cents, 0, MOST_CREDIT));
        accounts.limit[customer] = cents;
    }

    public long accept(int quote)
            throws IndexOutOfBoundsException, IllegalStateException, UnsupportedOperationException {
        needIndex(quotes.has(quote));
        needTurn(!quotes.accepted[quote] && quotes.until[quote] >= today);
        int customer = orders.customer[items.orderOf[quotes.item[quote]]];
        long sum = accounts.used[customer] + quotes.cents[quote];
        needMeaning(sum <= accounts.limit[customer]);
        quotes.accepted[quote] = true;
        accounts.used[customer] = sum;
        return sum;
    }

    public void capacity(int kilos) throws IllegalArgumentException, UnsupportedOperationException {
        needRange(isWithin(kilos, 0, MOST_DAILY_KILOS));
        needMeaning(calendar.fitsInto(kilos));
        calendar.kilosADay = kilos;
    }

    public int reserve(int item)
            throws IndexOutOfBoundsException, IllegalStateException, UnsupportedOperationException {
        needIndex(items.has(item));
        needTurn(!calendar.taken[item]);
        int kilos = valueOn(item, MOST, today);
        int day = calendar.latestDayFor(kilos, today, valueOn(item, DUE, today));
        needMeaning(day >= today);
        calendar.take(item, day, kilos);
        return day;
    }

    public int join(int a, int b) throws IndexOutOfBoundsException {
        needIndex(orders.has(a) && orders.has(b) && a != b);
        orders.merge(a, b);
        return orders.countTogether(a);
    }

    public boolean ready(int order) throws IndexOutOfBoundsException {
        needIndex(orders.has(order));
        for (int item = 0; item < items.count; item++) {
            if (orders.areTogether(order, items.orderOf[item]) && stateOn(item, today) < MET) {
                return false;
            }
        }
        return true;
    }

    public int late(int i) throws IndexOutOfBoundsException {
        needIndex(i >= 0);
        int seen = 0;
        for (int item = 0; item < items.count; item++) {
            if (stateOn(item, today) == LATE) {
                if (seen == i) {
                    return item;
                }
                seen++;
            }
        }
        return -1;
    }

    public int tick(int days) throws IllegalArgumentException {
        needRange(isWithin(days, 1, LONGEST_TICK) && days <= LAST_DAY - today);
        today += days;
        return today;
    }

    private static void needIndex(boolean holds) {
        if (!holds) {
            throw new IndexOutOfBoundsException("no such number");
        }
    }

    private static void needTurn(boolean holds) {
        if (!holds) {
            throw new IllegalStateException("not now");
        }
    }

    private static void needRange(boolean holds) {
        if (!holds) {
            throw new IllegalArgumentException("out of range");
        }
    }

    private static void needMeaning(boolean holds) {
        if (!holds) {
            throw new UnsupportedOperationException("can not be, or no room");
        }
    }

    private static boolean isWithin(int value, int first, int last) {
        return value >= first && value <= last;
    }

    private static boolean isDay(int day) {
        return isWithin(day, 0, LAST_DAY);
    }

    private boolean isDayToCome(int day) {
        return isWithin(day, today, LAST_DAY);
    }

    private static boolean isField(int field) {
        return isWithin(field, 0, FIELDS - 1);
    }

    private static boolean isSize(int value) {
        return isWithin(value, 1, MOST_SIZE);
    }

    private static boolean isWeight(int value) {
        return isWithin(value, 0, MOST_WEIGHT);
    }

    private static boolean isRate(int value) {
        return isWithin(value, 0, MOST_RATE);
    }

    private boolean isValueOf(int field, int value) {
        if (field <= LENGTH) {
            return isSize(value);
        }
        return field == DUE ? isDayToCome(value) : isWeight(value);
    }

    private boolean keepsLeastWithinMost(int item, int field, int value, int day) {
        if (field == LEAST) {
            return value <= valueOn(item, MOST, day);
        }
        return field != MOST || valueOn(item, LEAST, day) <= value;
    }

    private int valueOn(int item, int field, int day) {
        return changes.valueOn(item, field, day, items.atFirst(item, field));
    }

    private int stateOn(int item, int day) {
        int kilos = outputs.upTo(item, day);
        if (kilos > valueOn(item, MOST, day)) {
            return OVER;
        }
        if (kilos >= valueOn(item, LEAST, day)) {
            return MET;
        }
        return day <= valueOn(item, DUE, day) ? OPEN : LATE;
    }

    private int copyOfToday(int item) {
        int copy = items.add(items.orderOf[item]);
        for (int field = 0; field < FIELDS; field++) {
            items.begin(copy, field, valueOn(item, field, today));
        }
        return copy;
    }

    /** Orders by number; a group is named by a number that all its orders share. */
    private static final class Orders {
        final int[] customer = new int[MOST_ORDERS];
        final int[] due = new int[MOST_ORDERS];
        final int[] group = new int[MOST_ORDERS];
        int count = 0;

        boolean has(int number) {
            return isWithin(number, 0, count - 1);
        }

        int add(int ofCustomer, int dueDay) {
            int number = count;
            customer[number] = ofCustomer;
            due[number] = dueDay;
            group[number] = number;
            count++;
            return number;
        }

        void merge(int a, int b) {
            int kept = group[a];
            int gone = group[b];
            for (int i = 0; i < count; i++) {
                if (group[i] == gone) {
                    group[i] = kept;
                }
            }
        }

        boolean areTogether(int a, int b) {
            return group[a] == group[b];
        }

        int countTogether(int number) {
            int together = 0;
            for (int i = 0; i < count; i++) {
                if (areTogether(number, i)) {
                    together++;
                }
            }
            return together;
        }
    }

    /** Items by number, with their fields as they were when the item was made. */
    private static final class Items {
        final int[] orderOf = new int[MOST_ITEMS];
        /** The rule agreed last; 0, which is no rule, while there is none. */
        final int[] agreedRule = new int[MOST_ITEMS];
        final int[] first = new int[MOST_ITEMS * FIELDS];
        int count = 0;

        boolean has(int number) {
            return isWithin(number, 0, count - 1);
        }

        int add(int order) {
            int number = count;
            orderOf[number] = order;
            count++;
            return number;
        }

        void begin(int item, int field, int value) {
            first[item * FIELDS + field] = value;
        }

        int atFirst(int item, int field) {
            return first[item * FIELDS + field];
        }

        boolean isAgreed(int item, int rule) {
            return agreedRule[item] != 0 && agreedRule[item] == rule;
        }
    }

    /** The changes of each item in the order in which they were told, MOST_CHANGES places an item. */
    private static final class Changes {
        final int[] field = new int[MOST_ITEMS * MOST_CHANGES];
        final int[] value = new int[MOST_ITEMS * MOST_CHANGES];
        final int[] from = new int[MOST_ITEMS * MOST_CHANGES];
        final int[] told = new int[MOST_ITEMS * MOST_CHANGES];
        final int[] count = new int[MOST_ITEMS];

        boolean hasRoom(int item, int more) {
            return count[item] <= MOST_CHANGES - more;
        }

        boolean has(int item, int i) {
            return isWithin(i, 0, count[item] - 1);
        }

        void add(int item, int ofField, int newValue, int fromDay, int toldDay) {
            int place = item * MOST_CHANGES + count[item];
            field[place] = ofField;
            value[place] = newValue;
            from[place] = fromDay;
            told[place] = toldDay;
            count[item]++;
        }

        int look(int item, int i, int what) {
            int place = item * MOST_CHANGES + i;
            switch (what) {
                case 0:
                    return field[place];
                case 1:
                    return value[place];
                case 2:
                    return from[place];
                default:
                    return told[place];
            }
        }

        int valueOn(int item, int ofField, int day, int atFirst) {
            int found = atFirst;
            int foundFrom = 0;
            int start = item * MOST_CHANGES;
            int end = start + count[item];
            for (int place = start; place < end; place++) {
                // At the same day the later place wins, as it was told later.
                if (field[place] == ofField && isWithin(from[place], foundFrom, day)) {
                    found = value[place];
                    foundFrom = from[place];
                }
            }
            return found;
        }
    }

    /** What was made, a row a call; the rows lie in the order of their days, as time only goes on. */
    private static final class Outputs {
        final int[] item = new int[MOST_OUTPUTS];
        final int[] day = new int[MOST_OUTPUTS];
        final int[] kilos = new int[MOST_OUTPUTS];
        final int[] total = new int[MOST_ITEMS];
        int count = 0;

        void add(int ofItem, int onDay, int newKilos) {
            item[count] = ofItem;
            day[count] = onDay;
            kilos[count] = newKilos;
            total[ofItem] += newKilos;
            count++;
        }

        int upTo(int ofItem, int lastDay) {
            int sum = total[ofItem];
            for (int row = count - 1; row >= 0 && day[row] > lastDay; row--) {
                if (item[row] == ofItem) {
                    sum -= kilos[row];
                }
            }
            return sum;
        }
    }

    /** The cost rows in force. */
    private static final class Rates {
        int base = 0;
        int perThousand = 0;
        int perWidth = 0;

        void set(int newBase, int newPerThousand, int newPerWidth) {
            base = newBase;
            perThousand = newPerThousand;
            perWidth = newPerWidth;
        }

        long centsFor(int most, int width) {
            long begunThousands = (most + 999L) / 1_000L;
            return base + begunThousands * perThousand + (long) width * perWidth;
        }
    }

    /** Quotes by number; the cents stay as they were on the quote's day. */
    private static final class Quotes {
        final int[] item = new int[MOST_QUOTES];
        final int[] until = new int[MOST_QUOTES];
        final long[] cents = new long[MOST_QUOTES];
        final boolean[] accepted = new boolean[MOST_QUOTES];
        int count = 0;

        boolean has(int number) {
            return isWithin(number, 0, count - 1);
        }

        int add(int ofItem, int untilDay, long newCents) {
            int number = count;
            item[number] = ofItem;
            until[number] = untilDay;
            cents[number] = newCents;
            count++;
            return number;
        }

        int look(int number, int what) {
            switch (what) {
                case 0:
                    return item[number];
                case 1:
                    return until[number];
                default:
                    return accepted[number] ? 1 : 0;
            }
        }
    }

    /** Each customer's credit and the cents of the accepted quotes. */
    private static final class Accounts {
        final int[] limit = new int[CUSTOMERS];
        final long[] used = new long[CUSTOMERS];
    }

    /** The capacity of a day and what each item has reserved; only days with a reservation are held. */
    private static final class Calendar {
        final boolean[] taken = new boolean[MOST_ITEMS];
        final int[] day = new int[MOST_ITEMS];
        final int[] kilos = new int[MOST_ITEMS];
        int kilosADay = 0;

        void take(int item, int onDay, int newKilos) {
            taken[item] = true;
            day[item] = onDay;
            kilos[item] = newKilos;
        }

        int takenOn(int onDay) {
            int sum = 0;
            for (int item = 0; item < MOST_ITEMS; item++) {
                if (taken[item] && day[item] == onDay) {
                    sum += kilos[item];
                }
            }
            return sum;
        }

        boolean fitsInto(int newKilosADay) {
            for (int item = 0; item < MOST_ITEMS; item++) {
                if (taken[item] && takenOn(day[item]) > newKilosADay) {
                    return false;
                }
            }
            return true;
        }

        /** Answers -1 where no day has enough left. */
        int latestDayFor(int newKilos, int firstDay, int lastDay) {
            // Without this test the search would go through every day for nothing.
            if (newKilos > kilosADay) {
                return -1;
            }
            for (int onDay = lastDay; onDay >= firstDay; onDay--) {
                if (takenOn(onDay) <= kilosADay - newKilos) {
                    return onDay;
                }
            }
            return -1;
        }
    }
}
