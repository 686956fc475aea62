import java.util.Arrays;

/** A plan of things in lists whose shadows are worked anew, move by move, in one settled order. */
public final class ShadowOrder {
    public static final int NONE = -1, REFUSED = -1, FAILED = -2, KEPT = -3, NO = -4;

    private static final int THINGS = 40, LISTS = 6, FACTS = 4, LIST_FACTS = 2;
    private static final int THING_KINDS = 6, LIST_KINDS = 3, KINDS = 9;
    private static final int LIST_CELLS = 240, CELLS = 258;
    private static final int STEPS = 24, STACK = 8, PAST = 60;
    private static final long LIMIT = 1_000_000_000_000_000L;

    private static final int WORD = 64, WORDS = 5;

    private static final int PUSH = 0, OWN_FACT = 1, LIST_FACT = 2, STAND = 3, OWN = 4;
    private static final int BEFORE = 5, BEHIND = 6, LINKED = 7, OF_LIST = 8;
    private static final int SUM = 9, GREATEST = 10, LEAST = 11, FIRST = 12, LAST = 13;
    private static final int PLUS = 14, LESS = 15, TIMES = 16, BY = 17, LESSER = 18, GREATER = 19;
    private static final int CHOOSE = 20, MUST = 21, TWICE = 22, CROSS = 23, AWAY = 24;

    /** How many numbers each code takes off the stack, and how many it lays on it. */
    private static final int[] TAKES = {0, 0, 0, 0, 0, 1, 1, 1, 0, 0, 1, 1, 1, 1, 2, 2, 2, 2, 2, 2, 3, 1, 1, 2, 1};
    private static final int[] GIVES = {1, 1, 1, 1, 1, 1, 1, 1, 1, 1, 1, 1, 1, 1, 1, 1, 1, 1, 1, 1, 1, 0, 2, 2, 0};

    private static final int BY_RING = 1, BY_MAKER = 2;
    private static final int BY_ZERO = 1, BY_MUST = 2, TOO_FAR = 3;

    private final Book book;
    /** The plan as it stands, and as it stood when the shadows were settled last: they differ in a group alone. */
    private final Plan plan;
    private final Plan base;
    private final long[] numbers;
    private final Row order;
    private final Row worked;
    private final Judge judge;
    private final Past past;
    private boolean closed;
    private boolean grouped;
    private int groupMoves;
    private int workedInAll;
    private int refusals;

    public ShadowOrder() {
        book = new Book();
        plan = new Plan();
        base = new Plan();
        numbers = new long[CELLS];
        order = new Row();
        worked = new Row();
        judge = new Judge(book, base, numbers);
        past = new Past();
    }

    // ---- the book

    public int thing(int a, int b, int c, int d) throws IllegalStateException {
        needOpenBook();
        if (book.things >= THINGS) {
            throw new IllegalStateException("there are 40 things");
        }
        int thing = book.things;
        book.things++;
        plan.setFacts(thing, a, b, c, d);
        base.setFacts(thing, a, b, c, d);
        return thing;
    }

    public int list(int a, int b) throws IllegalStateException {
        needOpenBook();
        if (book.lists >= LISTS) {
            throw new IllegalStateException("there are 6 lists");
        }
        int list = book.lists;
        book.lists++;
        plan.setListFacts(list, a, b);
        base.setListFacts(list, a, b);
        return list;
    }

    public int step(int code, int v) throws IllegalStateException {
        needOpenBook();
        if (book.collected >= STEPS) {
            throw new IllegalStateException("there are 24 steps");
        }
        return book.collect(code, v);
    }

    public int maker(int kind) throws IllegalStateException, IllegalArgumentException {
        needOpenBook();
        need(kind >= 0 && kind < KINDS);
        return book.makeMaker(kind);
    }

    public int open() throws IllegalStateException {
        needOpenBook();
        int answer = judge.weigh(base, plan, numbers, true);
        if (answer < 0) {
            refusals++;
            return answer;
        }
        closed = true;
        accept();
        return answer;
    }

    // ---- moves

    public int place(int thing, int list, int at)
            throws IndexOutOfBoundsException, IllegalStateException, IllegalArgumentException {
        needThing(thing);
        needList(list);
        needClosedBook();
        need(at >= 0 && at <= plan.size[list]);
        if (plan.home[thing] != NONE) {
            return NO;
        }
        if (at < plan.frozen[list]) {
            return KEPT;
        }
        plan.insert(thing, list, at);
        return settle();
    }

    public int take(int thing) throws IndexOutOfBoundsException, IllegalStateException {
        needThing(thing);
        needClosedBook();
        if (plan.home[thing] == NONE) {
            return NO;
        }
        if (plan.isFrozen(thing)) {
            return KEPT;
        }
        plan.remove(thing);
        return settle();
    }

    public int move(int thing, int list, int at)
            throws IndexOutOfBoundsException, IllegalStateException, IllegalArgumentException {
        needThing(thing);
        needList(list);
        needClosedBook();
        boolean sameList = plan.home[thing] == list;
        need(at >= 0 && at <= plan.size[list] - (sameList ? 1 : 0));
        if (plan.home[thing] == NONE) {
            return NO;
        }
        boolean stays = sameList && plan.spot[thing] == at;
        if (!stays && (plan.isFrozen(thing) || at < plan.frozen[list])) {
            return KEPT;
        }
        plan.remove(thing);
        plan.insert(thing, list, at);
        return settle();
    }

    public int swap(int thing, int other)
            throws IndexOutOfBoundsException, IllegalStateException, IllegalArgumentException {
        needThing(thing);
        needThing(other);
        needClosedBook();
        need(thing != other);
        if (plan.home[thing] == NONE || plan.home[other] == NONE) {
            return NO;
        }
        if (plan.isFrozen(thing) || plan.isFrozen(other)) {
            return KEPT;
        }
        plan.exchange(thing, other);
        return settle();
    }

    public int turn(int list, int from, int to)
            throws IndexOutOfBoundsException, IllegalStateException, IllegalArgumentException {
        needList(list);
        needClosedBook();
        need(from >= 0 && to >= from && to < plan.size[list]);
        if (from < to && from < plan.frozen[list]) {
            return KEPT;
        }
        plan.reverse(list, from, to);
        return settle();
    }

    public int tails(int list, int from, int other, int at)
            throws IndexOutOfBoundsException, IllegalStateException, IllegalArgumentException {
        needList(list);
        needList(other);
        needClosedBook();
        need(list != other && from >= 0 && from <= plan.size[list] && at >= 0 && at <= plan.size[other]);
        if (from < plan.frozen[list] || at < plan.frozen[other]) {
            return KEPT;
        }
        plan.crossTails(list, from, other, at);
        return settle();
    }

    public int fact(int thing, int fact, int v)
            throws IndexOutOfBoundsException, IllegalStateException, IllegalArgumentException {
        needThing(thing);
        needClosedBook();
        need(fact >= 0 && fact < FACTS);
        int index = FACTS * thing + fact;
        if (plan.isFrozen(thing) && plan.facts[index] != v) {
            return KEPT;
        }
        plan.facts[index] = v;
        return settle();
    }

    public int listFact(int list, int fact, int v)
            throws IndexOutOfBoundsException, IllegalStateException, IllegalArgumentException {
        needList(list);
        needClosedBook();
        need(fact >= 0 && fact < LIST_FACTS);
        plan.listFacts[LIST_FACTS * list + fact] = v;
        return settle();
    }

    public int link(int thing, int other)
            throws IndexOutOfBoundsException, IllegalStateException, IllegalArgumentException {
        needThing(thing);
        if (other != NONE) {
            needThing(other);
        }
        needClosedBook();
        need(thing != other);
        if (plan.isFrozen(thing) && plan.links[thing] != other) {
            return KEPT;
        }
        plan.links[thing] = other;
        return settle();
    }

    public int freeze(int list, int n)
            throws IndexOutOfBoundsException, IllegalStateException, IllegalArgumentException {
        needList(list);
        needClosedBook();
        need(n >= 0 && n <= plan.size[list]);
        plan.frozen[list] = n;
        return settle();
    }

    public void begin() throws IllegalStateException {
        needClosedBook();
        if (grouped) {
            throw new IllegalStateException("there is a group");
        }
        grouped = true;
    }

    public int end() throws IllegalStateException {
        needGroup();
        grouped = false;
        groupMoves = 0;
        return settle();
    }

    public int drop() throws IllegalStateException {
        needGroup();
        int dropped = groupMoves;
        grouped = false;
        groupMoves = 0;
        plan.copyFrom(base);
        return dropped;
    }

    public int undo() throws IllegalStateException {
        needClosedBook();
        if (grouped) {
            throw new IllegalStateException("there is a group");
        }
        Moment moment = past.takeLatest();
        if (moment == null) {
            return NONE;
        }
        int changed = changesTo(moment);
        base.copyFrom(moment.plan);
        plan.copyFrom(base);
        System.arraycopy(moment.numbers, 0, numbers, 0, CELLS);
        judge.reads.arrange(base);
        order.copyFrom(judge.reads.order);
        worked.clear();
        return changed;
    }

    // ---- what is told

    public long shadow(int thing, int kind) throws IndexOutOfBoundsException, IllegalArgumentException {
        needThing(thing);
        need(isThingKind(kind));
        return numbers[shadowOf(thing, kind)];
    }

    public long listShadow(int list, int kind) throws IndexOutOfBoundsException, IllegalArgumentException {
        needList(list);
        need(isListKind(kind));
        return numbers[shadowOfList(list, kind)];
    }

    public int where(int thing, int what) throws IndexOutOfBoundsException, IllegalArgumentException {
        needThing(thing);
        switch (what) {
            case 0:
                return plan.home[thing];
            case 1:
                return plan.spot[thing];
            case 2:
                return plan.neighbour(thing, -1);
            case 3:
                return plan.neighbour(thing, 1);
            case 4:
                return plan.links[thing];
            case 5:
                return plan.isFrozen(thing) ? 1 : 0;
            default:
                need(what >= 6 && what < 6 + FACTS);
                return plan.facts[FACTS * thing + what - 6];
        }
    }

    public int at(int list, int place) throws IndexOutOfBoundsException {
        needList(list);
        return plan.standsAt(list, place);
    }

    public int worked(int k) {
        return worked.get(k);
    }

    public int order(int k) {
        return order.get(k);
    }

    public int ring(int k) {
        return judge.reads.ring.get(k);
    }

    public int cause(int what) throws IllegalArgumentException {
        switch (what) {
            case 0:
                return judge.refusedBy;
            case 1:
                return judge.failedCell;
            case 2:
                return judge.failedWhy;
            default:
                need(what == 3);
                return judge.failedStep;
        }
    }

    public int count(int what) throws IllegalArgumentException {
        switch (what) {
            case 0:
                return book.things;
            case 1:
                return book.lists;
            case 2:
                return order.n;
            case 3:
                return past.n;
            case 4:
                return workedInAll;
            case 5:
                return refusals;
            default:
                need(what == 6);
                return groupMoves;
        }
    }

    public boolean isSame() {
        return judge.agrees(base, numbers, order);
    }

    // ---- what the calls share

    private void needOpenBook() {
        if (closed) {
            throw new IllegalStateException("the book is closed");
        }
    }

    private void needClosedBook() {
        if (!closed) {
            throw new IllegalStateException("the book is open");
        }
    }

    private void needGroup() {
        if (!closed || !grouped) {
            throw new IllegalStateException("there is no group");
        }
    }

    private void needThing(int thing) {
        if (thing < 0 || thing >= book.things) {
            throw new IndexOutOfBoundsException("no such thing");
        }
    }

    private void needList(int list) {
        if (list < 0 || list >= book.lists) {
            throw new IndexOutOfBoundsException("no such list");
        }
    }

    private static void need(boolean asTold) {
        if (!asTold) {
            throw new IllegalArgumentException("a number is not as told");
        }
    }

    /** In a group the judging waits for end(), which comes here when the group is no more. */
    private int settle() {
        if (grouped) {
            groupMoves++;
            return 0;
        }
        int answer = judge.weigh(base, plan, numbers, false);
        if (answer < 0) {
            refusals++;
            plan.copyFrom(base);
            return answer;
        }
        past.keep(base, numbers);
        base.copyFrom(plan);
        accept();
        return answer;
    }

    private void accept() {
        System.arraycopy(judge.fresh, 0, numbers, 0, CELLS);
        order.copyFrom(judge.reads.order);
        worked.copyFrom(judge.worked);
        workedInAll += worked.n;
    }

    private int changesTo(Moment moment) {
        int changed = 0;
        for (int cell = 0; cell < CELLS; cell++) {
            // a shadow that is no cell has the number 0, so a cell that came or went may show no other number
            boolean comesOrGoes = book.isCell(base, cell) != book.isCell(moment.plan, cell);
            if (comesOrGoes || numbers[cell] != moment.numbers[cell]) {
                changed++;
            }
        }
        return changed;
    }

    private static boolean isThingKind(int kind) {
        return kind >= 0 && kind < THING_KINDS;
    }

    private static boolean isListKind(int kind) {
        return kind >= THING_KINDS && kind < KINDS;
    }

    private static boolean isOfThing(int cell) {
        return cell < LIST_CELLS;
    }

    private static int shadowOf(int thing, int kind) {
        return THING_KINDS * thing + kind;
    }

    private static int shadowOfList(int list, int kind) {
        return LIST_CELLS + LIST_KINDS * list + kind - THING_KINDS;
    }

    private static int ownerOf(int cell) {
        return cell < LIST_CELLS ? cell / THING_KINDS : (cell - LIST_CELLS) / LIST_KINDS;
    }

    private static int kindOf(int cell) {
        return cell < LIST_CELLS ? cell % THING_KINDS : THING_KINDS + (cell - LIST_CELLS) % LIST_KINDS;
    }

    private static boolean isOverAll(int code) {
        return code == SUM || code == GREATEST || code == LEAST;
    }

    private static boolean isOverOne(int code) {
        return code >= OWN && code <= LAST && !isOverAll(code);
    }

    /** A row of cells, with room for each cell once. */
    private static final class Row {
        final int[] cells = new int[CELLS];
        int n;

        void clear() {
            n = 0;
        }

        void add(int cell) {
            if (n < CELLS) {
                cells[n] = cell;
                n++;
            }
        }

        int get(int k) {
            return k < 0 || k >= n ? NONE : cells[k];
        }

        void copyFrom(Row other) {
            System.arraycopy(other.cells, 0, cells, 0, other.n);
            n = other.n;
        }
    }

    /** How many things and lists there are, and the makers of the kinds. */
    private static final class Book {
        final int[] codes = new int[KINDS * STEPS];
        final int[] values = new int[KINDS * STEPS];
        final int[] lengths = new int[KINDS];
        final int[] newCodes = new int[STEPS];
        final int[] newValues = new int[STEPS];
        int collected;
        int things;
        int lists;

        int collect(int code, int v) {
            if (collected < STEPS) {
                newCodes[collected] = code;
                newValues[collected] = v;
                collected++;
            }
            return collected;
        }

        int makeMaker(int kind) {
            int fault = faultFor(kind);
            if (fault == 0) {
                System.arraycopy(newCodes, 0, codes, STEPS * kind, collected);
                System.arraycopy(newValues, 0, values, STEPS * kind, collected);
                lengths[kind] = collected;
            }
            collected = 0;
            return fault;
        }

        private int faultFor(int kind) {
            int depth = 0;
            for (int s = 0; s < collected; s++) {
                int code = newCodes[s];
                if (!isStep(isThingKind(kind), code, newValues[s]) || depth < TAKES[code]) {
                    return -1 - s;
                }
                depth += GIVES[code] - TAKES[code];
                if (depth > STACK) {
                    return -1 - s;
                }
            }
            return depth == 1 ? 0 : -1 - collected;
        }

        private static boolean isStep(boolean ofThing, int code, int v) {
            switch (code) {
                case PUSH:
                    return true;
                case OWN_FACT:
                    return v >= 0 && v < (ofThing ? FACTS : LIST_FACTS);
                case LIST_FACT:
                    return ofThing && v >= 0 && v < LIST_FACTS;
                case STAND:
                    return v == 1 || ofThing && v == 0;
                case OWN:
                    return ofThing ? isThingKind(v) : isListKind(v);
                case BEFORE:
                case BEHIND:
                case LINKED:
                    return ofThing && isThingKind(v);
                case OF_LIST:
                    return ofThing && isListKind(v);
                case SUM:
                case GREATEST:
                case LEAST:
                case FIRST:
                case LAST:
                    return !ofThing && isThingKind(v);
                default:
                    return code >= PLUS && code <= AWAY;
            }
        }

        int stepsOf(int cell) {
            return lengths[kindOf(cell)];
        }

        int codeOf(int cell, int step) {
            return codes[STEPS * kindOf(cell) + step];
        }

        int valueOf(int cell, int step) {
            return values[STEPS * kindOf(cell) + step];
        }

        /** Of a book that is closed, or would be. */
        boolean isCell(Plan plan, int cell) {
            if (lengths[kindOf(cell)] == 0) {
                return false;
            }
            return isOfThing(cell) ? plan.home[ownerOf(cell)] != NONE : ownerOf(cell) < lists;
        }
    }

    /** Who stands where, facts, links, and how many things are frozen at the front of each list. */
    private static final class Plan {
        final int[] facts = new int[FACTS * THINGS];
        final int[] listFacts = new int[LIST_FACTS * LISTS];
        final int[] links = new int[THINGS];
        final int[] home = new int[THINGS];
        final int[] spot = new int[THINGS];
        final int[] rows = new int[THINGS * LISTS];
        final int[] size = new int[LISTS];
        final int[] frozen = new int[LISTS];

        Plan() {
            Arrays.fill(links, NONE);
            Arrays.fill(home, NONE);
            Arrays.fill(spot, NONE);
        }

        void copyFrom(Plan other) {
            System.arraycopy(other.facts, 0, facts, 0, facts.length);
            System.arraycopy(other.listFacts, 0, listFacts, 0, listFacts.length);
            System.arraycopy(other.links, 0, links, 0, THINGS);
            System.arraycopy(other.home, 0, home, 0, THINGS);
            System.arraycopy(other.spot, 0, spot, 0, THINGS);
            System.arraycopy(other.rows, 0, rows, 0, rows.length);
            System.arraycopy(other.size, 0, size, 0, LISTS);
            System.arraycopy(other.frozen, 0, frozen, 0, LISTS);
        }

        void setFacts(int thing, int a, int b, int c, int d) {
            int start = FACTS * thing;
            facts[start] = a;
            facts[start + 1] = b;
            facts[start + 2] = c;
            facts[start + 3] = d;
        }

        void setListFacts(int list, int a, int b) {
            int start = LIST_FACTS * list;
            listFacts[start] = a;
            listFacts[start + 1] = b;
        }

        boolean isFrozen(int thing) {
            int list = home[thing];
            return list != NONE && spot[thing] < frozen[list];
        }

        boolean isFrozenCell(int cell) {
            return isOfThing(cell) && isFrozen(ownerOf(cell));
        }

        int listOf(int cell) {
            return isOfThing(cell) ? home[ownerOf(cell)] : ownerOf(cell);
        }

        int standsAt(int list, int place) {
            return place < 0 || place >= size[list] ? NONE : rows[THINGS * list + place];
        }

        int neighbour(int thing, int away) {
            int list = home[thing];
            return list == NONE ? NONE : standsAt(list, spot[thing] + away);
        }

        /** The one shadow that a step of codes 4 to 8, 12, 13 looks at; NONE if it finds no thing. */
        int shadowSeen(int cell, int code, int v) {
            int owner = ownerOf(cell);
            int list = listOf(cell);
            if (code == OWN) {
                return isOfThing(cell) ? shadowOf(owner, v) : shadowOfList(owner, v);
            }
            if (list == NONE) {
                return NONE;
            }
            int thing = NONE;
            switch (code) {
                case OF_LIST:
                    return shadowOfList(list, v);
                case BEFORE:
                    thing = standsAt(list, spot[owner] - 1);
                    break;
                case BEHIND:
                    thing = standsAt(list, spot[owner] + 1);
                    break;
                case LINKED:
                    thing = links[owner] == NONE || home[links[owner]] == NONE ? NONE : links[owner];
                    break;
                case FIRST:
                    thing = standsAt(list, 0);
                    break;
                case LAST:
                    thing = standsAt(list, size[list] - 1);
                    break;
                default:
                    break;
            }
            return thing == NONE ? NONE : shadowOf(thing, v);
        }

        void insert(int thing, int list, int place) {
            if (size[list] >= THINGS) {
                return;
            }
            int start = THINGS * list;
            for (int p = size[list]; p > place; p--) {
                rows[start + p] = rows[start + p - 1];
            }
            rows[start + place] = thing;
            size[list]++;
            seat(list, place);
        }

        void remove(int thing) {
            int list = home[thing];
            if (list == NONE) {
                return;
            }
            int place = spot[thing];
            int start = THINGS * list;
            size[list]--;
            for (int p = place; p < size[list]; p++) {
                rows[start + p] = rows[start + p + 1];
            }
            home[thing] = NONE;
            spot[thing] = NONE;
            seat(list, place);
        }

        void exchange(int thing, int other) {
            int list = home[thing];
            int place = spot[thing];
            putAt(thing, home[other], spot[other]);
            putAt(other, list, place);
        }

        void reverse(int list, int from, int to) {
            int start = THINGS * list;
            for (int low = from, high = to; low < high; low++, high--) {
                int thing = rows[start + low];
                putAt(rows[start + high], list, low);
                putAt(thing, list, high);
            }
        }

        void crossTails(int list, int from, int other, int place) {
            int mine = THINGS * list + from;
            int theirs = THINGS * other + place;
            int mineLong = size[list] - from;
            int theirsLong = size[other] - place;
            for (int k = 0; k < mineLong || k < theirsLong; k++) {
                int thing = k < mineLong ? rows[mine + k] : NONE;
                // what lies beyond a shorter tail is never read, so only things are written
                if (k < theirsLong) {
                    rows[mine + k] = rows[theirs + k];
                }
                if (k < mineLong) {
                    rows[theirs + k] = thing;
                }
            }
            size[list] = from + theirsLong;
            size[other] = place + mineLong;
            seat(list, from);
            seat(other, place);
        }

        private void putAt(int thing, int list, int place) {
            rows[THINGS * list + place] = thing;
            home[thing] = list;
            spot[thing] = place;
        }

        /** Tells the things of a list, from a place on, where they stand now. */
        private void seat(int list, int from) {
            for (int p = from; p < size[list]; p++) {
                int thing = rows[THINGS * list + p];
                home[thing] = list;
                spot[thing] = p;
            }
        }
    }

    /** The plan and the numbers before a move. */
    private static final class Moment {
        final Plan plan = new Plan();
        final long[] numbers = new long[CELLS];
    }

    /** The latest moments; each is made when it is first needed and then used again. */
    private static final class Past {
        final Moment[] moments = new Moment[PAST];
        int eldest;
        int n;

        void keep(Plan plan, long[] numbers) {
            if (n == PAST) {
                eldest = (eldest + 1) % PAST;
                n--;
            }
            int next = (eldest + n) % PAST;
            if (moments[next] == null) {
                moments[next] = new Moment();
            }
            moments[next].plan.copyFrom(plan);
            System.arraycopy(numbers, 0, moments[next].numbers, 0, CELLS);
            n++;
        }

        Moment takeLatest() {
            if (n == 0) {
                return null;
            }
            n--;
            return moments[(eldest + n) % PAST];
        }
    }

    /** Which cells each cell reads, as rows of bits; from these come THE ORDER and the RING. */
    private static final class Reads {
        final Book book;
        final long[] bits = new long[CELLS * WORDS];
        final long[] come = new long[WORDS];
        final long[] reached = new long[WORDS];
        final long[] edge = new long[WORDS];
        final int[] ready = new int[CELLS];
        final int[] firstWaiter = new int[CELLS];
        final int[] nextWaiter = new int[CELLS];
        final int[] far = new int[CELLS];
        final Row order = new Row();
        final Row ring = new Row();
        final Row found = new Row();
        Plan plan;
        int leastReady;

        Reads(Book book, Plan plan) {
            this.book = book;
            this.plan = plan;
        }

        /** Finds THE ORDER of a plan: whether all cells came. */
        boolean arrange(Plan of) {
            plan = of;
            order.clear();
            Arrays.fill(bits, 0);
            Arrays.fill(come, 0);
            Arrays.fill(ready, 0);
            Arrays.fill(firstWaiter, NONE);
            leastReady = CELLS;
            int cells = 0;
            for (int cell = 0; cell < CELLS; cell++) {
                if (book.isCell(plan, cell)) {
                    cells++;
                    gather(cell);
                    await(cell);
                }
            }
            for (int n = 0; n < cells; n++) {
                int cell = takeReady();
                if (cell == NONE) {
                    return false;
                }
                comes(cell);
            }
            return true;
        }

        private void gather(int cell) {
            if (plan.isFrozenCell(cell)) {
                return;
            }
            int steps = book.stepsOf(cell);
            for (int s = 0; s < steps; s++) {
                int code = book.codeOf(cell, s);
                int v = book.valueOf(cell, s);
                if (isOverAll(code)) {
                    int list = plan.listOf(cell);
                    for (int p = 0; p < plan.size[list]; p++) {
                        addRead(cell, shadowOf(plan.standsAt(list, p), v));
                    }
                } else if (isOverOne(code)) {
                    addRead(cell, plan.shadowSeen(cell, code, v));
                }
            }
        }

        private void addRead(int cell, int shadow) {
            if (shadow != NONE && book.isCell(plan, shadow)) {
                bits[WORDS * cell + shadow / WORD] |= bitOf(shadow);
            }
        }

        /** A cell waits for one cell at a time, so that it is asked again only when that one has come. */
        private void await(int cell) {
            int missing = firstMissing(cell);
            if (missing == NONE) {
                ready[cell] = 1;
                leastReady = Math.min(leastReady, cell);
            } else {
                nextWaiter[cell] = firstWaiter[missing];
                firstWaiter[missing] = cell;
            }
        }

        private int firstMissing(int cell) {
            for (int w = 0; w < WORDS; w++) {
                long missing = bits[WORDS * cell + w] & ~come[w];
                if (missing != 0) {
                    return WORD * w + Long.bitCount((missing & -missing) - 1);
                }
            }
            return NONE;
        }

        private int takeReady() {
            for (int cell = leastReady; cell < CELLS; cell++) {
                if (ready[cell] != 0) {
                    ready[cell] = 0;
                    leastReady = cell + 1;
                    return cell;
                }
            }
            return NONE;
        }

        private void comes(int cell) {
            order.add(cell);
            come[cell / WORD] |= bitOf(cell);
            int waiter = firstWaiter[cell];
            for (int n = 0; n < CELLS && waiter != NONE; n++) {
                int next = nextWaiter[waiter];
                await(waiter);
                waiter = next;
            }
        }

        /** Behind an arrange() that left cells over. */
        void findRing() {
            ring.clear();
            int start = firstInRing();
            if (start == NONE) {
                return;
            }
            measure(start);
            int cell = start;
            for (int n = 0; n < CELLS; n++) {
                ring.add(cell);
                cell = nearestRead(cell);
                if (cell == start || cell == NONE) {
                    return;
                }
            }
        }

        private boolean isLeft(int cell) {
            return book.isCell(plan, cell) && !has(come, cell);
        }

        private int firstInRing() {
            for (int cell = 0; cell < CELLS; cell++) {
                if (isLeft(cell) && leadsBack(cell)) {
                    return cell;
                }
            }
            return NONE;
        }

        private boolean leadsBack(int start) {
            Arrays.fill(reached, 0);
            found.clear();
            spread(start);
            for (int k = 0; k < CELLS && k < found.n && !has(reached, start); k++) {
                spread(found.get(k));
            }
            return has(reached, start);
        }

        private void spread(int cell) {
            for (int w = 0; w < WORDS; w++) {
                // cells that have come are in no ring, nor on a way back
                long fresh = bits[WORDS * cell + w] & ~come[w] & ~reached[w];
                reached[w] |= fresh;
                for (int n = 0; n < WORD && fresh != 0; n++) {
                    found.add(WORD * w + Long.bitCount((fresh & -fresh) - 1));
                    fresh &= fresh - 1;
                }
            }
        }

        /** How many reads it takes from each cell that is left to a goal, round by round from the goal. */
        private void measure(int goal) {
            Arrays.fill(far, NONE);
            far[goal] = 0;
            Arrays.fill(edge, 0);
            edge[goal / WORD] |= bitOf(goal);
            boolean grows = true;
            for (int reads = 1; reads < CELLS && grows; reads++) {
                grows = false;
                Arrays.fill(reached, 0);
                for (int cell = 0; cell < CELLS; cell++) {
                    if (far[cell] == NONE && isLeft(cell) && readsEdge(cell)) {
                        far[cell] = reads;
                        reached[cell / WORD] |= bitOf(cell);
                        grows = true;
                    }
                }
                System.arraycopy(reached, 0, edge, 0, WORDS);
            }
        }

        private boolean readsEdge(int cell) {
            for (int w = 0; w < WORDS; w++) {
                if ((bits[WORDS * cell + w] & edge[w]) != 0) {
                    return true;
                }
            }
            return false;
        }

        private int nearestRead(int cell) {
            int best = NONE;
            int steps = book.stepsOf(cell);
            for (int s = 0; s < steps; s++) {
                int code = book.codeOf(cell, s);
                int v = book.valueOf(cell, s);
                if (isOverAll(code)) {
                    int list = plan.listOf(cell);
                    for (int p = 0; p < plan.size[list]; p++) {
                        best = nearer(best, shadowOf(plan.standsAt(list, p), v));
                    }
                } else if (isOverOne(code)) {
                    best = nearer(best, plan.shadowSeen(cell, code, v));
                }
            }
            return best;
        }

        private int nearer(int best, int shadow) {
            if (shadow == NONE || far[shadow] == NONE) {
                return best;
            }
            return best == NONE || far[shadow] < far[best] ? shadow : best;
        }

        private static boolean has(long[] set, int cell) {
            return (set[cell / WORD] & bitOf(cell)) != 0;
        }

        private static long bitOf(int cell) {
            return 1L << (cell % WORD);
        }
    }

    /** Works one cell by its maker. */
    private static final class Worker {
        final Book book;
        final long[] stack = new long[STACK];
        int top;
        int why;
        int step;
        long result;
        Plan plan;
        long[] numbers;

        Worker(Book book, Plan plan, long[] numbers) {
            this.book = book;
            this.plan = plan;
            this.numbers = numbers;
        }

        /** Whether the maker did not fail: then result is the number, else why and step tell of it. */
        boolean work(int cell, Plan of, long[] shadows) {
            plan = of;
            numbers = shadows;
            top = 0;
            why = 0;
            int steps = book.stepsOf(cell);
            for (int s = 0; s < steps; s++) {
                step = s;
                int code = book.codeOf(cell, s);
                int v = book.valueOf(cell, s);
                if (isOverAll(code)) {
                    lookAtAll(plan.listOf(cell), code, v);
                } else if (isOverOne(code)) {
                    lookAtOne(cell, code, v);
                } else if (code <= STAND) {
                    push(given(cell, code, v));
                } else {
                    reckon(code);
                }
                if (why != 0) {
                    return false;
                }
            }
            result = pop();
            return true;
        }

        private void push(long number) {
            if (number < -LIMIT || number > LIMIT) {
                why = TOO_FAR;
            } else if (top < STACK) {
                stack[top] = number;
                top++;
            }
        }

        private long pop() {
            if (top == 0) {
                return 0;
            }
            top--;
            return stack[top];
        }

        private long given(int cell, int code, int v) {
            int owner = ownerOf(cell);
            int list = plan.listOf(cell);
            switch (code) {
                case OWN_FACT:
                    return isOfThing(cell) ? plan.facts[FACTS * owner + v] : plan.listFacts[LIST_FACTS * owner + v];
                case LIST_FACT:
                    return plan.listFacts[LIST_FACTS * list + v];
                case STAND:
                    return v == 0 ? plan.spot[owner] : plan.size[list];
                default:
                    return v;
            }
        }

        private void lookAtOne(int cell, int code, int v) {
            int shadow = plan.shadowSeen(cell, code, v);
            if (shadow == NONE) {
                return;
            }
            if (TAKES[code] > 0) {
                pop();
            }
            push(numbers[shadow]);
        }

        private void lookAtAll(int list, int code, int v) {
            int n = plan.size[list];
            if (code == SUM) {
                long sum = 0;
                for (int p = 0; p < n; p++) {
                    sum += numbers[shadowOf(plan.standsAt(list, p), v)];
                }
                push(sum);
            } else if (n > 0) {
                pop();
                long best = numbers[shadowOf(plan.standsAt(list, 0), v)];
                for (int p = 1; p < n; p++) {
                    long number = numbers[shadowOf(plan.standsAt(list, p), v)];
                    best = code == GREATEST ? Math.max(best, number) : Math.min(best, number);
                }
                push(best);
            }
        }

        private void reckon(int code) {
            long last = pop();
            switch (code) {
                case CHOOSE:
                    choose(last);
                    break;
                case MUST:
                    why = last == 0 ? 0 : BY_MUST;
                    break;
                case TWICE:
                    push(last);
                    push(last);
                    break;
                case AWAY:
                    break;
                default:
                    join(code, pop(), last);
                    break;
            }
        }

        private void choose(long otherwise) {
            long then = pop();
            push(pop() > 0 ? then : otherwise);
        }

        private void join(int code, long a, long b) {
            switch (code) {
                case PLUS:
                    push(a + b);
                    break;
                case LESS:
                    push(a - b);
                    break;
                case TIMES:
                    times(a, b);
                    break;
                case BY:
                    by(a, b);
                    break;
                case LESSER:
                    push(Math.min(a, b));
                    break;
                case GREATER:
                    push(Math.max(a, b));
                    break;
                case CROSS:
                    push(b);
                    push(a);
                    break;
                default:
                    break;
            }
        }

        private void times(long a, long b) {
            // asked by division, as the product of two numbers may wrap round
            if (a != 0 && Math.abs(b) > LIMIT / Math.abs(a)) {
                why = TOO_FAR;
            } else {
                push(a * b);
            }
        }

        private void by(long a, long b) {
            if (b == 0) {
                why = BY_ZERO;
            } else {
                push(a / b);
            }
        }
    }

    /** Judges a plan against the one before it, and remembers the verdict. */
    private static final class Judge {
        final Book book;
        final Reads reads;
        final Worker worker;
        final Row worked = new Row();
        final long[] fresh = new long[CELLS];
        int refusedBy;
        int failedCell = NONE;
        int failedWhy = NONE;
        int failedStep = NONE;
        private Plan before;
        private Plan after;
        private long[] numbers;

        /** The plan and the numbers to begin with, so that no reference in here is ever null. */
        Judge(Book book, Plan plan, long[] numbers) {
            this.book = book;
            before = plan;
            after = plan;
            this.numbers = numbers;
            reads = new Reads(book, plan);
            worker = new Worker(book, plan, numbers);
        }

        /** REFUSED, FAILED, or how many were worked: then fresh has the new numbers. At open() no cell was there. */
        int weigh(Plan was, Plan is, long[] old, boolean opening) {
            before = was;
            after = is;
            numbers = old;
            forget();
            if (!reads.arrange(after)) {
                reads.findRing();
                refusedBy = BY_RING;
                return REFUSED;
            }
            startFresh();
            Row order = reads.order;
            for (int k = 0; k < order.n; k++) {
                int cell = order.get(k);
                if (after.isFrozenCell(cell) || !opening && !isTouched(cell)) {
                    continue;
                }
                if (!worker.work(cell, after, fresh)) {
                    fails(cell);
                    return FAILED;
                }
                fresh[cell] = worker.result;
                worked.add(cell);
            }
            return worked.n;
        }

        private void forget() {
            worked.clear();
            reads.ring.clear();
            refusedBy = 0;
            failedCell = NONE;
            failedWhy = NONE;
            failedStep = NONE;
        }

        private void fails(int cell) {
            refusedBy = BY_MAKER;
            failedCell = cell;
            failedWhy = worker.why;
            failedStep = worker.step;
        }

        /** Cells that went fall back to 0: so one that comes frozen some day has 0. */
        private void startFresh() {
            for (int cell = 0; cell < CELLS; cell++) {
                fresh[cell] = book.isCell(after, cell) ? numbers[cell] : 0;
            }
        }

        private boolean isTouched(int cell) {
            if (!book.isCell(before, cell) || before.isFrozenCell(cell)) {
                return true;
            }
            int steps = book.stepsOf(cell);
            for (int s = 0; s < steps; s++) {
                int code = book.codeOf(cell, s);
                int v = book.valueOf(cell, s);
                boolean differs = isOverAll(code) ? allDiffer(cell, v)
                        : isOverOne(code) ? oneDiffers(cell, code, v) : givenDiffers(cell, code, v);
                if (differs) {
                    return true;
                }
            }
            return false;
        }

        private boolean allDiffer(int cell, int v) {
            int list = ownerOf(cell);
            if (before.size[list] != after.size[list]) {
                return true;
            }
            for (int p = 0; p < after.size[list]; p++) {
                int thing = after.standsAt(list, p);
                if (before.standsAt(list, p) != thing || hasChanged(shadowOf(thing, v))) {
                    return true;
                }
            }
            return false;
        }

        private boolean oneDiffers(int cell, int code, int v) {
            int was = before.shadowSeen(cell, code, v);
            int is = after.shadowSeen(cell, code, v);
            return was != is || is != NONE && hasChanged(is);
        }

        private boolean hasChanged(int shadow) {
            return numbers[shadow] != fresh[shadow];
        }

        private boolean givenDiffers(int cell, int code, int v) {
            int owner = ownerOf(cell);
            int was = before.listOf(cell);
            int is = after.listOf(cell);
            switch (code) {
                case OWN_FACT:
                    return isOfThing(cell) ? factDiffers(owner, v) : listFactDiffers(owner, v);
                case LIST_FACT:
                    return was != is || listFactDiffers(is, v);
                case STAND:
                    return was != is || (v == 0 ? before.spot[owner] != after.spot[owner]
                            : before.size[is] != after.size[is]);
                default:
                    return false;
            }
        }

        private boolean factDiffers(int thing, int v) {
            int index = FACTS * thing + v;
            return before.facts[index] != after.facts[index];
        }

        private boolean listFactDiffers(int list, int v) {
            int index = LIST_FACTS * list + v;
            return before.listFacts[index] != after.listFacts[index];
        }

        /** Whether working all cells anew, in their order, gives the numbers that they have. */
        boolean agrees(Plan plan, long[] told, Row order) {
            System.arraycopy(told, 0, fresh, 0, CELLS);
            for (int k = 0; k < order.n; k++) {
                int cell = order.get(k);
                if (plan.isFrozenCell(cell)) {
                    continue;
                }
                if (!worker.work(cell, plan, fresh)) {
                    return false;
                }
                fresh[cell] = worker.result;
                if (fresh[cell] != told[cell]) {
                    return false;
                }
            }
            return true;
        }
    }
}
