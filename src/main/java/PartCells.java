import java.util.Arrays;

/** Machines grouped to cells so that few parts wander; ../shared/DOC.md says what each call promises. */
public final class PartCells {
    public static final int BAD = -1, STATE = -2, FULL = -3, NONE = -9;

    private static final int MOST_MACHINES = 7;
    private static final int MOST_PARTS = 8;
    private static final int FIRST_MACHINES = 4;
    private static final int FIRST_PARTS = 4;
    private static final int CELLS = 4;
    private static final int SHELVES = 4;
    private static final int MOST_YEARS = 6;
    private static final int MOST_PIECES = 9;
    private static final int MOST_BORNE = 99;
    private static final int MOST_PRICE = 50;
    private static final int FIRST_PRICE = 10;
    private static final int MOST_PURSE = 200;
    private static final int MOST_WEIGHT = 9;
    private static final int MOST_CHANGE = 50;
    private static final int FIRST_CHANGE = 5;

    /** Far above every loss, way and cost that can come up. */
    private static final int ABOVE_ALL = 1 << 30;

    private static final int VOID = 1;
    private static final int HEAVY = 2;

    /** A KIND asks all that stand over it, so each holds the sum of their numbers and its own. */
    private static final int[] TRACE_OF_KIND = {1, 11, 111};

    private final Parts parts = new Parts();
    private final Grouping atHand = new Grouping();
    private final Grouping trial = new Grouping();
    private final Tree tree = new Tree();
    private final Row row = new Row();
    private final Years years = new Years();
    private final int[] borne = new int[MOST_MACHINES];
    private final int[] prices = new int[MOST_MACHINES];
    private final int[] shelves = new int[SHELVES];
    private final int[] shelfWander = new int[SHELVES];
    private final int[] savedBy = new int[MOST_PURSE + 1];
    private int machines;
    private int bestNumber;
    private int bestLoss;
    private long traced;

    public PartCells() {
        begin(FIRST_MACHINES, FIRST_PARTS);
    }

    // ---- machines, parts

    public int works(int m, int p) {
        if (!isWithin(m, 1, MOST_MACHINES) || !isWithin(p, 1, MOST_PARTS)) {
            return BAD;
        }
        int was = machines;
        begin(m, p);
        return was;
    }

    public int route(int part, int which, int set) {
        if (!isPart(part) || !isWithin(which, 0, 1) || !isWithin(set, 0, (1 << machines) - 1)) {
            return BAD;
        }
        int was = parts.routeSet(part, which);
        parts.putRouteSet(part, which, set);
        return was;
    }

    public int goes(int part, int which) {
        if (!isPart(part) || !isWithin(which, 0, 1)) {
            return BAD;
        }
        int was = parts.chosenBy(part);
        parts.choose(part, which);
        return was;
    }

    public int pieces(int part, int n) {
        if (!isPart(part) || !isWithin(n, 1, MOST_PIECES)) {
            return BAD;
        }
        int was = parts.piecesOf(part);
        parts.putPieces(part, n);
        return was;
    }

    public int cell(int machine, int cell) {
        if (!isMachine(machine) || !isCell(cell)) {
            return BAD;
        }
        int was = atHand.cellOf(machine);
        atHand.put(machine, cell);
        return was;
    }

    public int group(int number) {
        if (!isWithin(number, 0, groupings() - 1)) {
            return BAD;
        }
        int was = atHand.numbered();
        atHand.become(number, machines);
        return was;
    }

    public int about(int part, int what) {
        if (!isPart(part)) {
            return BAD;
        }
        int set = parts.setOf(part);
        switch (what) {
            case 0: return atHand.homeOf(set);
            case 1: return atHand.wandersOf(set);
            case 2: return atHand.idleOf(set);
            case 3: return parts.piecesOf(part);
            case 4: return parts.chosenBy(part);
            case 5: return set;
            default: return BAD;
        }
    }

    public int loss(int kind) {
        if (!isKind(kind)) {
            return BAD;
        }
        traced += TRACE_OF_KIND[kind];
        return lossOf(atHand, kind);
    }

    public int best(int kind, int most, int what) {
        if (!isKind(kind) || !isWithin(most, 1, MOST_MACHINES) || !isWithin(what, 0, 1)) {
            return BAD;
        }
        if (CELLS * most < machines) {
            return STATE;
        }
        seekGrouping(kind, most);
        return what == 0 ? bestNumber : bestLoss;
    }

    public int plain() {
        return Grouping.isPlain(atHand.numbered(), machines) ? 1 : 0;
    }

    // ---- likeness, routes

    public int like(int one, int other, int part) {
        if (!isMachine(one) || !isMachine(other) || one == other || !isWithin(part, 0, 1)) {
            return BAD;
        }
        return part == 0 ? parts.withBoth(one, other) : parts.withEither(one, other);
    }

    public int join(int i, int what) {
        if (!isWithin(i, 0, machines - 2) || !isWithin(what, 0, 3)) {
            return BAD;
        }
        tree.grow(parts, machines, i + 1);
        return tree.tell(what);
    }

    public int bears(int machine, int v) {
        if (!isMachine(machine) || !isWithin(v, 0, MOST_BORNE)) {
            return BAD;
        }
        int was = borne[machine];
        borne[machine] = v;
        return was;
    }

    public int load(int machine) {
        if (!isMachine(machine)) {
            return BAD;
        }
        return parts.loadBy(parts.chosen(), machine);
    }

    public int routes(int what) {
        if (!isWithin(what, 0, 1)) {
            return BAD;
        }
        int choice = bestChoice();
        if (choice < 0) {
            return STATE;
        }
        return what == 0 ? choice : parts.wanderBy(choice, atHand);
    }

    // ---- copies, the floor, years

    public int price(int machine, int v) {
        if (!isMachine(machine) || !isWithin(v, 1, MOST_PRICE)) {
            return BAD;
        }
        int was = prices[machine];
        prices[machine] = v;
        return was;
    }

    public int copy(int machine, int cell) {
        if (!isMachine(machine) || !isCell(cell) || atHand.cellOf(machine) == cell) {
            return BAD;
        }
        return parts.keptHome(machine, cell, atHand);
    }

    public int saved(int purse) {
        if (!isWithin(purse, 0, MOST_PURSE)) {
            return BAD;
        }
        Arrays.fill(savedBy, 0);
        for (int machine = 0; machine < machines; machine++) {
            offerCopies(machine, purse);
        }
        return savedBy[purse];
    }

    public int way(int a, int b, int c, int d) {
        if (!isCell(a) || !isCell(b) || !isCell(c) || !isCell(d)) {
            return BAD;
        }
        int order = Row.orderOf(a, b, c, d);
        if (!Row.hasEachOnce(order)) {
            return BAD;
        }
        row.observe(parts, atHand, machines);
        return row.wayOf(order);
    }

    public int floor(int what) {
        if (!isWithin(what, 0, CELLS)) {
            return BAD;
        }
        row.observe(parts, atHand, machines);
        int order = row.bestOrder();
        return what == CELLS ? row.wayOf(order) : Row.cellAt(order, what);
    }

    public int keep(int shelf) {
        if (!isWithin(shelf, 0, SHELVES - 1)) {
            return BAD;
        }
        shelves[shelf] = atHand.numbered();
        return shelves[shelf];
    }

    public int year(int weight) {
        if (!isWithin(weight, 0, MOST_WEIGHT)) {
            return BAD;
        }
        if (years.howMany() >= MOST_YEARS) {
            return FULL;
        }
        years.append(weight);
        return years.howMany();
    }

    public int change(int v) {
        if (!isWithin(v, 0, MOST_CHANGE)) {
            return BAD;
        }
        int was = years.costOfMove();
        years.putCostOfMove(v);
        return was;
    }

    public int plan() {
        if (years.howMany() == 0) {
            return STATE;
        }
        for (int shelf = 0; shelf < SHELVES; shelf++) {
            trial.become(shelves[shelf], machines);
            shelfWander[shelf] = parts.wanderBy(parts.chosen(), trial);
        }
        return years.cheapest(shelves, shelfWander);
    }

    public int count(int what) {
        switch (what) {
            case 0: return machines;
            case 1: return parts.howMany();
            case 2: return atHand.numbered();
            case 3: return years.howMany();
            case 4: return shelves[0];
            default: return BAD;
        }
    }

    public long trace() {
        return traced;
    }

    // ---- inside

    /** Years, their change and the trace outlive this: works() leaves them. */
    private void begin(int machineCount, int partCount) {
        machines = machineCount;
        parts.begin(partCount);
        atHand.become(0, machineCount);
        Arrays.fill(borne, MOST_BORNE);
        Arrays.fill(prices, FIRST_PRICE);
        Arrays.fill(shelves, 0);
    }

    private static boolean isWithin(int value, int least, int most) {
        return value >= least && value <= most;
    }

    private boolean isMachine(int machine) {
        return isWithin(machine, 0, machines - 1);
    }

    private boolean isPart(int part) {
        return isWithin(part, 0, parts.howMany() - 1);
    }

    private static boolean isCell(int cell) {
        return isWithin(cell, 0, CELLS - 1);
    }

    private static boolean isKind(int kind) {
        return isWithin(kind, 0, HEAVY);
    }

    /** How many NUMBERS there are: 4^M. */
    private int groupings() {
        return 1 << 2 * machines;
    }

    private int lossOf(Grouping grouping, int kind) {
        int sum = parts.wanderBy(parts.chosen(), grouping);
        if (kind >= VOID) {
            sum += parts.idleOf(grouping);
        }
        if (kind >= HEAVY) {
            sum += grouping.squares();
        }
        return sum;
    }

    /** Numbers rise, so the first of several with the least loss stays; steps of 4 keep machine 0 in cell 0. */
    private void seekGrouping(int kind, int most) {
        bestNumber = 0;
        bestLoss = ABOVE_ALL;
        int end = groupings();
        for (int number = 0; number < end; number += CELLS) {
            if (!Grouping.isPlain(number, machines)) {
                continue;
            }
            trial.become(number, machines);
            if (trial.largest() > most) {
                continue;
            }
            int found = lossOf(trial, kind);
            if (found < bestLoss) {
                bestLoss = found;
                bestNumber = number;
            }
        }
    }

    /** The best of all right choices of routes, or NONE. */
    private int bestChoice() {
        int choice = NONE;
        int least = ABOVE_ALL;
        int end = 1 << parts.howMany();
        for (int tried = 0; tried < end; tried++) {
            int found = parts.wanderBy(tried, atHand);
            if (found < least && isRight(tried)) {
                least = found;
                choice = tried;
            }
        }
        return choice;
    }

    private boolean isRight(int choice) {
        for (int machine = 0; machine < machines; machine++) {
            if (parts.loadBy(choice, machine) > borne[machine]) {
                return false;
            }
        }
        return true;
    }

    private void offerCopies(int machine, int purse) {
        for (int cell = 0; cell < CELLS; cell++) {
            if (cell != atHand.cellOf(machine)) {
                offerCopy(prices[machine], parts.keptHome(machine, cell, atHand), purse);
            }
        }
    }

    /** From the full purse downwards, so that no copy is bought twice. */
    private void offerCopy(int cost, int gain, int purse) {
        for (int money = purse; money >= cost; money--) {
            savedBy[money] = Math.max(savedBy[money], savedBy[money - cost] + gain);
        }
    }

    /** Parts with their routes and pieces; a CHOICE has bit k set if part k goes by route 1. */
    private static final class Parts {
        private final int[] sets = new int[2 * MOST_PARTS];
        private final int[] amounts = new int[MOST_PARTS];
        private int size;
        private int choice;

        void begin(int partCount) {
            size = partCount;
            choice = 0;
            Arrays.fill(sets, 0);
            Arrays.fill(amounts, 1);
        }

        int howMany() {
            return size;
        }

        int chosen() {
            return choice;
        }

        int chosenBy(int part) {
            return choice >> part & 1;
        }

        void choose(int part, int which) {
            choice = choice & ~(1 << part) | which << part;
        }

        int routeSet(int part, int which) {
            return sets[2 * part + which];
        }

        void putRouteSet(int part, int which, int set) {
            sets[2 * part + which] = set;
        }

        int setOf(int part) {
            return setBy(choice, part);
        }

        int piecesOf(int part) {
            return amounts[part];
        }

        void putPieces(int part, int amount) {
            amounts[part] = amount;
        }

        int wanderBy(int someChoice, Grouping grouping) {
            int sum = 0;
            for (int part = 0; part < size; part++) {
                sum += amounts[part] * grouping.wandersOf(setBy(someChoice, part));
            }
            return sum;
        }

        int idleOf(Grouping grouping) {
            int sum = 0;
            for (int part = 0; part < size; part++) {
                sum += grouping.idleOf(setOf(part));
            }
            return sum;
        }

        int loadBy(int someChoice, int machine) {
            int sum = 0;
            for (int part = 0; part < size; part++) {
                if (hasMachine(setBy(someChoice, part), machine)) {
                    sum += amounts[part];
                }
            }
            return sum;
        }

        int withBoth(int one, int other) {
            int found = 0;
            for (int part = 0; part < size; part++) {
                int set = setBy(choice, part);
                if (hasMachine(set, one) && hasMachine(set, other)) {
                    found++;
                }
            }
            return found;
        }

        /** Never 0: without such parts a likeness is 0 of 1. */
        int withEither(int one, int other) {
            int found = 0;
            for (int part = 0; part < size; part++) {
                int set = setBy(choice, part);
                if (hasMachine(set, one) || hasMachine(set, other)) {
                    found++;
                }
            }
            return Math.max(found, 1);
        }

        /** Pieces of parts at home in a cell whose route has a machine. */
        int keptHome(int machine, int cell, Grouping grouping) {
            int sum = 0;
            for (int part = 0; part < size; part++) {
                int set = setOf(part);
                if (hasMachine(set, machine) && grouping.homeOf(set) == cell) {
                    sum += amounts[part];
                }
            }
            return sum;
        }

        private int setBy(int someChoice, int part) {
            return sets[2 * part + (someChoice >> part & 1)];
        }

        static boolean hasMachine(int set, int machine) {
            return (set >> machine & 1) == 1;
        }
    }

    /** A grouping: two bits of its number for each machine, and the set of machines of each cell. */
    private static final class Grouping {
        private final int[] members = new int[CELLS];
        private int machineCount;
        private int number;

        void become(int newNumber, int newMachineCount) {
            number = newNumber;
            machineCount = newMachineCount;
            Arrays.fill(members, 0);
            for (int machine = 0; machine < machineCount; machine++) {
                members[cellOf(machine)] |= 1 << machine;
            }
        }

        void put(int machine, int cell) {
            int others = number & ~(3 << 2 * machine);
            become(others | cell << 2 * machine, machineCount);
        }

        int numbered() {
            return number;
        }

        int cellOf(int machine) {
            return number >> 2 * machine & 3;
        }

        /** Plain: no machine opens a cell ahead of which one is still empty. */
        static boolean isPlain(int someNumber, int machineCount) {
            int opened = 0;
            for (int machine = 0; machine < machineCount; machine++) {
                int cell = someNumber >> 2 * machine & 3;
                if (cell > opened) {
                    return false;
                }
                if (cell == opened) {
                    opened++;
                }
            }
            return true;
        }

        int homeOf(int set) {
            int home = 0;
            int most = 0;
            for (int cell = 0; cell < CELLS; cell++) {
                int here = Integer.bitCount(members[cell] & set);
                if (here > most) {
                    most = here;
                    home = cell;
                }
            }
            return home;
        }

        int wandersOf(int set) {
            return Integer.bitCount(set & ~members[homeOf(set)]);
        }

        int idleOf(int set) {
            return Integer.bitCount(members[homeOf(set)] & ~set);
        }

        int squares() {
            int sum = 0;
            for (int cell = 0; cell < CELLS; cell++) {
                int size = Integer.bitCount(members[cell]);
                sum += size * size;
            }
            return sum;
        }

        int largest() {
            int most = 0;
            for (int cell = 0; cell < CELLS; cell++) {
                most = Math.max(most, Integer.bitCount(members[cell]));
            }
            return most;
        }

        /** Machines whose cell is another one in two groupings. */
        static int moved(int oneNumber, int otherNumber) {
            int found = 0;
            for (int machine = 0; machine < MOST_MACHINES; machine++) {
                if (((oneNumber ^ otherNumber) >> 2 * machine & 3) != 0) {
                    found++;
                }
            }
            return found;
        }
    }

    /** The tree of likeness; it keeps the heaps and tells of the join made last. */
    private static final class Tree {
        private final int[] heapOf = new int[MOST_MACHINES];
        private int machineCount;
        private int first;
        private int second;
        private int upper;
        private int lower;

        void grow(Parts parts, int newMachineCount, int joins) {
            machineCount = newMachineCount;
            for (int machine = 0; machine < machineCount; machine++) {
                heapOf[machine] = machine;
            }
            for (int made = 0; made < joins; made++) {
                seekPair(parts);
                unite();
            }
        }

        int tell(int what) {
            switch (what) {
                case 0: return first;
                case 1: return second;
                case 2: return upper;
                default: return lower;
            }
        }

        /** Names rise and only a greater likeness replaces a pair, so the first of several stays. */
        private void seekPair(Parts parts) {
            upper = -1;
            lower = 1;
            for (int one = 0; one < machineCount; one++) {
                for (int other = one + 1; other < machineCount; other++) {
                    if (heapOf[one] == one && heapOf[other] == other) {
                        compareHeaps(parts, one, other);
                    }
                }
            }
        }

        private void compareHeaps(Parts parts, int oneHeap, int otherHeap) {
            for (int one = 0; one < machineCount; one++) {
                for (int other = 0; other < machineCount; other++) {
                    if (heapOf[one] == oneHeap && heapOf[other] == otherHeap) {
                        compareMachines(parts, one, other);
                    }
                }
            }
        }

        private void compareMachines(Parts parts, int one, int other) {
            int both = parts.withBoth(one, other);
            int either = parts.withEither(one, other);
            if (both * lower > upper * either) {
                first = heapOf[one];
                second = heapOf[other];
                upper = both;
                lower = either;
            }
        }

        private void unite() {
            for (int machine = 0; machine < machineCount; machine++) {
                if (heapOf[machine] == second) {
                    heapOf[machine] = first;
                }
            }
        }
    }

    /** The floor; an ORDER holds two bits for each place, place 0 uppermost, so that orders rise as the document ranks them. */
    private static final class Row {
        private static final int ORDERS = 256;

        private final int[] trips = new int[CELLS * CELLS];
        private final int[] placeOf = new int[CELLS];

        static int orderOf(int a, int b, int c, int d) {
            return a << 6 | b << 4 | c << 2 | d;
        }

        static int cellAt(int order, int place) {
            return order >> 2 * (CELLS - 1 - place) & 3;
        }

        static boolean hasEachOnce(int order) {
            int seen = 0;
            for (int place = 0; place < CELLS; place++) {
                seen |= 1 << cellAt(order, place);
            }
            return seen == (1 << CELLS) - 1;
        }

        /** Counts the pieces between each two cells; those from a cell to itself go no way at all. */
        void observe(Parts parts, Grouping grouping, int machineCount) {
            Arrays.fill(trips, 0);
            for (int part = 0; part < parts.howMany(); part++) {
                int set = parts.setOf(part);
                int home = grouping.homeOf(set);
                for (int machine = 0; machine < machineCount; machine++) {
                    if (Parts.hasMachine(set, machine)) {
                        trips[CELLS * home + grouping.cellOf(machine)] += parts.piecesOf(part);
                    }
                }
            }
        }

        int wayOf(int order) {
            for (int place = 0; place < CELLS; place++) {
                placeOf[cellAt(order, place)] = place;
            }
            int sum = 0;
            for (int from = 0; from < CELLS; from++) {
                for (int to = 0; to < CELLS; to++) {
                    sum += trips[CELLS * from + to] * Math.abs(placeOf[from] - placeOf[to]);
                }
            }
            return sum;
        }

        int bestOrder() {
            int best = 0;
            int least = ABOVE_ALL;
            for (int order = 0; order < ORDERS; order++) {
                if (hasEachOnce(order)) {
                    int found = wayOf(order);
                    if (found < least) {
                        least = found;
                        best = order;
                    }
                }
            }
            return best;
        }
    }

    /** Years with their weights; costs are carried from year to year, one for each shelf. */
    private static final class Years {
        private final int[] weights = new int[MOST_YEARS];
        private final int[] costs = new int[SHELVES];
        private final int[] nextCosts = new int[SHELVES];
        private int size;
        private int moveCost = FIRST_CHANGE;

        int howMany() {
            return size;
        }

        /** Nothing happens beyond the last place; year() answers FULL ahead of that. */
        void append(int weight) {
            if (size < MOST_YEARS) {
                weights[size] = weight;
                size++;
            }
        }

        int costOfMove() {
            return moveCost;
        }

        void putCostOfMove(int cost) {
            moveCost = cost;
        }

        int cheapest(int[] numbers, int[] wander) {
            for (int shelf = 0; shelf < SHELVES; shelf++) {
                costs[shelf] = weights[0] * wander[shelf];
            }
            for (int year = 1; year < size; year++) {
                for (int shelf = 0; shelf < SHELVES; shelf++) {
                    nextCosts[shelf] = leastTo(shelf, numbers) + weights[year] * wander[shelf];
                }
                System.arraycopy(nextCosts, 0, costs, 0, SHELVES);
            }
            int least = costs[0];
            for (int shelf = 1; shelf < SHELVES; shelf++) {
                least = Math.min(least, costs[shelf]);
            }
            return least;
        }

        private int leastTo(int shelf, int[] numbers) {
            int least = ABOVE_ALL;
            for (int from = 0; from < SHELVES; from++) {
                int moves = Grouping.moved(numbers[from], numbers[shelf]);
                least = Math.min(least, costs[from] + moveCost * moves);
            }
            return least;
        }
    }
}
