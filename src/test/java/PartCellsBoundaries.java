/**
 * Each sentence of the document that names a boundary case has a test of its own here: says() names the promise and the
 * sentence. What is refused, and that nothing changes by it, is in PartCellsRefusals.
 */
public final class PartCellsBoundaries {
    private static final int BAD = -1, STATE = -2, FULL = -3;
    private static int wrong = 0;
    private static int promise = 0;
    private static String sentence = "";

    private static void says(int ofPromise, String words) {
        promise = ofPromise;
        sentence = words;
    }

    private static void due(String call, long got, long want) {
        if (got != want) {
            wrong++;
            System.out.println("promise " + promise + ", \"" + sentence + "\": " + call + " answered " + got + ", due is " + want);
        }
    }

    public static void main(String[] args) {
        startAndWorks();
        partsAndMachines();
        aboutAndLoss();
        bestAndPlain();
        likenessAndTree();
        loadsAndRoutes();
        copiesAndPurse();
        floorPlaces();
        shelvesAndYears();
        countsAndTrace();
        System.out.println(wrong == 0 ? "all boundaries are as due" : wrong + " answers are not as due");
        if (wrong != 0) {
            System.exit(1);
        }
    }

    private static PartCells sized(int m, int p) {
        PartCells x = new PartCells();
        x.works(m, p);
        return x;
    }

    /** Part k goes by the k-th set, with one piece. */
    private static PartCells going(int m, int... sets) {
        PartCells x = sized(m, sets.length);
        for (int part = 0; part < sets.length; part++) {
            x.route(part, 0, sets[part]);
        }
        return x;
    }

    // ---- promises 1 and 2

    private static void startAndWorks() {
        newObject();
        everySize();
        machinesThereWere();
        worksPutsBack();
        worksLeavesYears();
        worksLeavesFullYears();
        worksLeavesChange();
        worksLeavesTrace();
    }

    private static void newObject() {
        says(1, "Four MACHINES, four PARTS without ROUTES, no YEARS.");
        asAtFirst(new PartCells(), 4, 4);
        PartCells x = new PartCells();
        due("count(3)", x.count(3), 0);
        due("plan()", x.plan(), STATE);
        due("change(0): 5 at first", x.change(0), 5);
        due("trace(): 0 at first", x.trace(), 0);
        due("year(0) is the first", x.year(0), 1);
    }

    /** All but YEARS, CHANGE and THE TRACE. */
    private static void asAtFirst(PartCells x, int m, int p) {
        String size = " of " + m + ", " + p;
        due("count(0)" + size, x.count(0), m);
        due("count(1)" + size, x.count(1), p);
        due("count(2)" + size, x.count(2), 0);
        due("count(4)" + size, x.count(4), 0);
        due("plain()" + size, x.plain(), 1);
        for (int part = 0; part < p; part++) {
            due("about SET" + size, x.about(part, 5), 0);
            due("about PIECES" + size, x.about(part, 3), 1);
            due("goes 0" + size, x.goes(part, 0), 0);
            due("route 0" + size, x.route(part, 0, 0), 0);
            due("route 1" + size, x.route(part, 1, 0), 0);
        }
        for (int machine = 0; machine < m; machine++) {
            due("cell" + size, x.cell(machine, 0), 0);
            due("bears" + size, x.bears(machine, 99), 99);
            due("price" + size, x.price(machine, 10), 10);
            due("load" + size, x.load(machine), 0);
        }
        due("about(P, 5)" + size, x.about(p, 5), BAD);
        due("load(M)" + size, x.load(m), BAD);
    }

    private static void everySize() {
        says(2, "M 1 .. 7, P 1 .. 8");
        for (int m = 1; m <= 7; m++) {
            for (int p = 1; p <= 8; p++) {
                PartCells x = new PartCells();
                due("works(" + m + ", " + p + ")", x.works(m, p), 4);
                asAtFirst(x, m, p);
            }
        }
    }

    private static void machinesThereWere() {
        says(2, "how many MACHINES there were");
        PartCells x = new PartCells();
        due("works(7, 1)", x.works(7, 1), 4);
        due("works(7, 8)", x.works(7, 8), 7);
        due("works(1, 8)", x.works(1, 8), 7);
        due("works(0, 1)", x.works(0, 1), BAD);
        due("works(2, 2)", x.works(2, 2), 1);
        due("works(8, 2)", x.works(8, 2), BAD);
        due("works(4, 4)", x.works(4, 4), 2);
    }

    private static PartCells full() {
        PartCells x = sized(7, 8);
        x.year(9);
        x.change(50);
        x.loss(2);
        for (int part = 0; part < 8; part++) {
            x.route(part, 0, 127);
            x.route(part, 1, 127);
            x.goes(part, 1);
            x.pieces(part, 9);
        }
        x.group(16383);
        for (int machine = 0; machine < 7; machine++) {
            x.bears(machine, 0);
            x.price(machine, 50);
        }
        for (int shelf = 0; shelf < 4; shelf++) {
            x.keep(shelf);
        }
        return x;
    }

    private static void worksPutsBack() {
        says(2, "all as at first");
        for (int m = 1; m <= 7; m++) {
            for (int p = 1; p <= 8; p++) {
                PartCells x = full();
                x.works(m, p);
                asAtFirst(x, m, p);
                x.works(7, 8);
                asAtFirst(x, 7, 8);
            }
        }
        for (int shelf = 0; shelf < 4; shelf++) {
            // shelf holds machine 1 alone once more, were it not put back
            PartCells x = sized(2, 1);
            x.group(4);
            x.keep(shelf);
            x.works(2, 1);
            shelfIsAllInOneCell(x, shelf);
        }
    }

    /** The others part machines 0 and 1, so that plan() tells of this one. */
    private static void shelfIsAllInOneCell(PartCells x, int shelf) {
        x.year(1);
        x.route(0, 0, 3);
        x.group(4);
        for (int other = 0; other < 4; other++) {
            if (other != shelf) {
                x.keep(other);
            }
        }
        due("plan() by shelf " + shelf, x.plan(), 0);
    }

    private static void worksLeavesYears() {
        says(2, "but YEARS");
        PartCells x = new PartCells();
        x.year(9);
        x.year(4);
        x.works(2, 1);
        due("count(3)", x.count(3), 2);
        x.route(0, 0, 3);
        x.group(4);
        for (int shelf = 0; shelf < 4; shelf++) {
            x.keep(shelf);
        }
        due("plan(): the weights, too", x.plan(), 13);
        due("year(0)", x.year(0), 3);
    }

    private static void worksLeavesFullYears() {
        says(2, "but YEARS");
        PartCells x = new PartCells();
        for (int year = 0; year < 6; year++) {
            x.year(1);
        }
        x.works(7, 8);
        due("year(1)", x.year(1), FULL);
        due("count(3)", x.count(3), 6);
        due("plan()", x.plan(), 0);
    }

    private static void worksLeavesChange() {
        says(2, "but CHANGE");
        PartCells x = new PartCells();
        x.change(50);
        x.works(4, 4);
        due("change(0)", x.change(0), 50);
        x.works(7, 8);
        due("change(5)", x.change(5), 0);
    }

    private static void worksLeavesTrace() {
        says(2, "but THE TRACE");
        PartCells x = new PartCells();
        x.loss(2);
        x.works(4, 4);
        due("trace()", x.trace(), 111);
        x.loss(0);
        x.works(1, 1);
        due("trace()", x.trace(), 112);
    }

    // ---- promises 3 to 7

    private static void partsAndMachines() {
        routeEndsOfSets();
        routesApart();
        goesAgain();
        piecesEnds();
        cellEnds();
        groupEnds();
        groupSpreads();
    }

    private static void routeEndsOfSets() {
        says(3, "BAD: bits beyond the MACHINES.");
        for (int m = 1; m <= 7; m++) {
            PartCells x = sized(m, 1);
            int all = (1 << m) - 1;
            due("route(0, 0, " + all + ")", x.route(0, 0, all), 0);
            due("route(0, 0, " + (all + 1) + ")", x.route(0, 0, all + 1), BAD);
            due("route(0, 0, " + (all + 2) + ")", x.route(0, 0, all + 2), BAD);
            due("route(0, 0, -1)", x.route(0, 0, -1), BAD);
            due("route(0, 0, 0)", x.route(0, 0, 0), all);
            due("route(0, 0, last machine)", x.route(0, 0, 1 << m - 1), 0);
            due("about(0, 5)", x.about(0, 5), 1 << m - 1);
        }
    }

    private static void routesApart() {
        says(3, "A ROUTE of a PART becomes a SET: what it was.");
        PartCells x = sized(7, 8);
        for (int part = 0; part < 8; part++) {
            due("route(" + part + ", 0, ..)", x.route(part, 0, 10 + part), 0);
            due("route(" + part + ", 1, ..)", x.route(part, 1, 127 - part), 0);
        }
        for (int part = 0; part < 8; part++) {
            due("about(" + part + ", 5): it goes by 0", x.about(part, 5), 10 + part);
            due("route(" + part + ", 1, 0)", x.route(part, 1, 0), 127 - part);
            due("route(" + part + ", 0, 0)", x.route(part, 0, 0), 10 + part);
        }
    }

    private static void goesAgain() {
        says(4, "A PART goes by a ROUTE: the one it went by.");
        for (int p = 1; p <= 8; p++) {
            PartCells x = sized(2, p);
            int last = p - 1;
            x.route(last, 1, 2);
            due("goes(last, 0): 0 at first", x.goes(last, 0), 0);
            due("goes(last, 1)", x.goes(last, 1), 0);
            due("goes(last, 1) again", x.goes(last, 1), 1);
            due("about(last, 5)", x.about(last, 5), 2);
            due("goes(P, 0)", x.goes(p, 0), BAD);
            due("goes(last, 2)", x.goes(last, 2), BAD);
            due("goes(last, -1)", x.goes(last, -1), BAD);
            due("goes(last, 0)", x.goes(last, 0), 1);
            due("about(last, 5)", x.about(last, 5), 0);
        }
    }

    private static void piecesEnds() {
        says(5, "PIECES of a PART: 1 .. 9 (1 at first)");
        PartCells x = sized(1, 8);
        for (int part = 0; part < 8; part++) {
            due("pieces(" + part + ", 1)", x.pieces(part, 1), 1);
            due("pieces(" + part + ", 0)", x.pieces(part, 0), BAD);
            due("pieces(" + part + ", 9)", x.pieces(part, 9), 1);
            due("pieces(" + part + ", 10)", x.pieces(part, 10), BAD);
            due("pieces(" + part + ", 2)", x.pieces(part, 2), 9);
        }
        due("pieces(8, 1)", x.pieces(8, 1), BAD);
        due("pieces(-1, 1)", x.pieces(-1, 1), BAD);
    }

    private static void cellEnds() {
        says(6, "A GROUPING tells for each MACHINE a CELL 0 .. 3 (all 0 at first)");
        for (int m = 1; m <= 7; m++) {
            PartCells x = sized(m, 1);
            int last = m - 1;
            due("cell(last, 3)", x.cell(last, 3), 0);
            due("count(2): CELL times 4^k", x.count(2), 3 * power(4, last));
            due("cell(last, 4)", x.cell(last, 4), BAD);
            due("cell(last, -1)", x.cell(last, -1), BAD);
            due("cell(M, 0)", x.cell(m, 0), BAD);
            due("cell(-1, 0)", x.cell(-1, 0), BAD);
            due("cell(last, 3) again", x.cell(last, 3), 3);
            due("cell(last, 0)", x.cell(last, 0), 3);
            due("count(2)", x.count(2), 0);
        }
    }

    private static int power(int base, int times) {
        int product = 1;
        for (int i = 0; i < times; i++) {
            product *= base;
        }
        return product;
    }

    private static void groupEnds() {
        says(7, "BAD: below 0, 4^M or more.");
        for (int m = 1; m <= 7; m++) {
            PartCells x = sized(m, 1);
            int end = power(4, m);
            due("group(4^M - 1)", x.group(end - 1), 0);
            due("group(4^M)", x.group(end), BAD);
            due("group(4^M + 1)", x.group(end + 1), BAD);
            due("group(-1)", x.group(-1), BAD);
            due("group(-4^M)", x.group(-end), BAD);
            due("count(2)", x.count(2), end - 1);
            due("group(0)", x.group(0), end - 1);
            due("group(0) again", x.group(0), 0);
        }
    }

    private static void groupSpreads() {
        says(7, "Its NUMBER: the sum of CELL of MACHINE k times 4^k.");
        PartCells x = sized(7, 1);
        int[] cells = {3, 0, 2, 1, 0, 2, 3};
        int number = 0;
        for (int k = 0; k < 7; k++) {
            number += cells[k] * power(4, k);
        }
        due("group(0)", x.group(0), 0);
        due("group(number)", x.group(number), 0);
        for (int k = 0; k < 7; k++) {
            due("cell of " + k, x.cell(k, cells[k]), cells[k]);
        }
        due("count(2)", x.count(2), number);
    }

    // ---- promises 8 and 9

    private static void aboutAndLoss() {
        homeOfSeveral();
        homeByMost();
        homeWithoutMachines();
        wandersEnds();
        idleEnds();
        idleWithoutMachines();
        aboutTheRouteGoneBy();
        wanderByPieces();
        voidWithoutPieces();
        heavyEnds();
        lossKinds();
    }

    private static void homeOfSeveral() {
        says(8, "HOME of a PART: .. of several the least");
        for (int low = 0; low < 4; low++) {
            for (int high = low + 1; high < 4; high++) {
                PartCells x = going(2, 3);
                x.cell(0, high);
                x.cell(1, low);
                due("HOME of cells " + high + ", " + low, x.about(0, 0), low);
                x.cell(0, low);
                x.cell(1, high);
                due("HOME of cells " + low + ", " + high, x.about(0, 0), low);
            }
        }
        PartCells x = going(4, 15);
        x.group(3 + 2 * 4 + 16);
        due("HOME of four cells", x.about(0, 0), 0);
    }

    private static void homeByMost() {
        says(8, "HOME of a PART: the CELL in which most MACHINES of its ROUTE are");
        for (int cell = 0; cell < 4; cell++) {
            PartCells x = going(7, 0b1100110, 0b0000111);
            // 1, 2 and 5 in one cell, the other four in another
            int other = (cell + 1) % 4;
            x.cell(1, cell);
            x.cell(2, cell);
            x.cell(5, cell);
            x.cell(6, other);
            x.cell(0, other);
            x.cell(3, other);
            x.cell(4, other);
            due("HOME: three against one", x.about(0, 0), cell);
            due("HOME: MACHINES that the ROUTE has not do not count", x.about(1, 0), cell);
        }
    }

    private static void homeWithoutMachines() {
        says(8, "HOME (0 without MACHINES)");
        PartCells x = sized(3, 1);
        x.group(63);
        due("HOME", x.about(0, 0), 0);
        due("WANDERS", x.about(0, 1), 0);
        x.route(0, 1, 7);
        due("HOME, though its other ROUTE has MACHINES", x.about(0, 0), 0);
    }

    private static void wandersEnds() {
        says(8, "WANDERS of a PART: MACHINES of its ROUTE that are in other CELLS than its HOME.");
        PartCells x = going(7, 127);
        x.group(16383);
        due("none wanders", x.about(0, 1), 0);
        x.group(3 + 3 * 4 + 2 * 16 + 2 * 64 + 256 + 1024);
        due("HOME", x.about(0, 0), 1);
        due("five of seven wander", x.about(0, 1), 5);
        x.route(0, 0, 64);
        due("one alone is at home", x.about(0, 1), 0);
    }

    private static void idleEnds() {
        says(8, "IDLE of a PART: MACHINES of its HOME that its ROUTE has not.");
        PartCells x = going(7, 127, 64);
        due("none is idle", x.about(0, 2), 0);
        due("all but one are idle", x.about(1, 2), 6);
        x.group(3 * 4096);
        due("MACHINES of other CELLS are not idle", x.about(1, 2), 0);
        due("MACHINES that wander are not idle", x.about(0, 2), 0);
    }

    private static void idleWithoutMachines() {
        says(8, "HOME (0 without MACHINES), IDLE: MACHINES of its HOME that its ROUTE has not");
        PartCells x = sized(7, 1);
        due("IDLE, all in cell 0", x.about(0, 2), 7);
        x.cell(6, 3);
        due("IDLE, all but one in cell 0", x.about(0, 2), 6);
        x.group(5461);
        due("IDLE, none in cell 0", x.about(0, 2), 0);
    }

    private static void aboutTheRouteGoneBy() {
        says(8, "4 the ROUTE it goes by, 5 its SET");
        PartCells x = going(4, 1);
        x.route(0, 1, 14);
        x.group(1);
        due("about(0, 4)", x.about(0, 4), 0);
        due("about(0, 5)", x.about(0, 5), 1);
        due("HOME", x.about(0, 0), 1);
        due("IDLE", x.about(0, 2), 0);
        x.goes(0, 1);
        due("about(0, 4)", x.about(0, 4), 1);
        due("about(0, 5)", x.about(0, 5), 14);
        due("HOME", x.about(0, 0), 0);
        due("about(0, 6)", x.about(0, 6), BAD);
        due("about(0, -1)", x.about(0, -1), BAD);
    }

    /** Seven machines in cells of two, two, two and one, eight parts over all of them. */
    private static PartCells mostWandering() {
        PartCells x = going(7, 127, 127, 127, 127, 127, 127, 127, 127);
        for (int part = 0; part < 8; part++) {
            x.pieces(part, 9);
        }
        x.group(4 + 2 * 16 + 3 * 64 + 256 * 0 + 1024 + 2 * 4096);
        return x;
    }

    private static void wanderByPieces() {
        says(9, "WANDER the sum of WANDERS times PIECES of all PARTS");
        due("loss(0): the most there can be", mostWandering().loss(0), 8 * 9 * 5);
        PartCells x = going(2, 3, 1, 0);
        x.pieces(0, 9);
        x.pieces(1, 9);
        due("loss(0): none wanders", x.loss(0), 0);
        x.group(4);
        due("loss(0): one wanders", x.loss(0), 9);
    }

    private static void voidWithoutPieces() {
        says(9, "VOID up, and the sum of IDLE of all PARTS");
        PartCells x = going(7, 1, 0);
        x.pieces(0, 9);
        x.pieces(1, 9);
        due("loss(1): IDLE is not times PIECES", x.loss(1), 6 + 7);
        x.route(0, 0, 127);
        x.group(4096);
        due("loss(1): WANDER is in it", x.loss(1), 9 + 0 + 6);
    }

    private static void heavyEnds() {
        says(9, "HEAVY up, and the square of the number of MACHINES of each CELL");
        PartCells x = going(7, 127);
        due("loss(2): all in one CELL", x.loss(2), 49);
        x.group(16383);
        due("loss(2): all in the last CELL", x.loss(2), 49);
        x.group(4 + 2 * 16 + 3 * 64 + 1024 + 2 * 4096);
        due("loss(2): two, two, two and one, five wander", x.loss(2), 5 + 4 + 4 + 4 + 1);
        x = going(1, 1);
        due("loss(2): one MACHINE", x.loss(2), 1);
        x = going(1, 0);
        due("loss(2): one MACHINE, idle", x.loss(2), 2);
    }

    private static void lossKinds() {
        says(9, "KINDS: 0 WANDER, 1 VOID, 2 HEAVY. BAD.");
        PartCells x = going(3, 3, 4);
        x.group(4);
        // part 0 at home in 0 wanders to 1 and leaves machine 2 idle; part 1 in 0 leaves 0 idle; cells of two and one
        due("loss(-1)", x.loss(-1), BAD);
        due("loss(0)", x.loss(0), 1);
        due("loss(1)", x.loss(1), 1 + 2);
        due("loss(2)", x.loss(2), 1 + 2 + 5);
        due("loss(3)", x.loss(3), BAD);
    }

    // ---- promises 10 and 11

    private static void bestAndPlain() {
        bestAtMost();
        bestNone();
        bestLeastNumber();
        bestPlainAlone();
        bestByKind();
        bestBeyondMachines();
        plainWithMachineZero();
        plainInOrder();
        plainEmptyLast();
        plainNumbers();
    }

    private static void bestAtMost() {
        says(10, "with at most L MACHINES in a CELL (L 1 .. 7)");
        for (int m = 1; m <= 7; m++) {
            PartCells x = going(m, (1 << m) - 1);
            for (int most = 1; most <= 7; most++) {
                // the route goes over all machines: those beyond the largest cell wander
                int loss = 4 * most < m ? STATE : Math.max(0, m - most);
                due("best(0, " + most + ", 1) of " + m, x.best(0, most, 1), loss);
            }
            due("best(0, 0, 1)", x.best(0, 0, 1), BAD);
            due("best(0, 8, 1)", x.best(0, 8, 1), BAD);
        }
    }

    private static void bestNone() {
        says(10, "there is none, if 4 L is below M");
        for (int m = 1; m <= 7; m++) {
            PartCells x = sized(m, 8);
            for (int kind = 0; kind < 3; kind++) {
                due("best(" + kind + ", 1, 0) of " + m + " is STATE", x.best(kind, 1, 0) == STATE ? 1 : 0, m > 4 ? 1 : 0);
                due("best(" + kind + ", 1, 1) of " + m + " is STATE", x.best(kind, 1, 1) == STATE ? 1 : 0, m > 4 ? 1 : 0);
                due("best(" + kind + ", 2, 1) of " + m + " is STATE", x.best(kind, 2, 1) == STATE ? 1 : 0, 0);
            }
        }
        PartCells x = new PartCells();
        due("best(0, 1, 0): 4 L is M", x.best(0, 1, 0), 4 + 2 * 16 + 3 * 64);
        x.works(5, 1);
        due("best(3, 1, 0): BAD is ahead", x.best(3, 1, 0), BAD);
        due("best(0, 1, 2): BAD is ahead", x.best(0, 1, 2), BAD);
    }

    private static void bestLeastNumber() {
        says(10, "of several the least NUMBER");
        PartCells x = new PartCells();
        // without routes nothing wanders, so the number alone decides
        due("best(0, 7, 0)", x.best(0, 7, 0), 0);
        due("best(0, 4, 0)", x.best(0, 4, 0), 0);
        due("best(0, 3, 0)", x.best(0, 3, 0), 4);
        due("best(0, 2, 0)", x.best(0, 2, 0), 4 + 16);
        // {0, 1}, {2}: 16, {0, 2}, {1}: 4, {0}, {1, 2}: 20 all lose two
        x = going(3, 3, 5, 6);
        due("best(0, 2, 0)", x.best(0, 2, 0), 4);
        due("best(0, 2, 1)", x.best(0, 2, 1), 2);
    }

    private static void bestPlainAlone() {
        says(10, "that PLAIN one with the least LOSS");
        PartCells x = sized(1, 1);
        x.group(1);
        due("loss(1) of one that is not PLAIN", x.loss(1), 0);
        due("best(1, 1, 0)", x.best(1, 1, 0), 0);
        due("best(1, 1, 1)", x.best(1, 1, 1), 1);
        // machine 0 alone is at hand in cell 1, machines 1, 2 in 2: a part without machines has no idle ones there
        x = going(3, 0, 0, 0);
        x.group(1 + 2 * 4 + 2 * 16);
        due("loss(1) of one that is not PLAIN", x.loss(1), 0);
        due("best(1, 7, 0)", x.best(1, 7, 0), 4 + 16);
        due("best(1, 7, 1)", x.best(1, 7, 1), 3);
        due("count(2): the GROUPING at hand stays", x.count(2), 41);
    }

    private static void bestByKind() {
        says(10, "BEST GROUPING by a KIND");
        PartCells x = going(2, 3, 1, 1);
        // together: 0, idle 2, squares 4; apart: 1, idle 0, squares 2
        due("best(0, 2, 0)", x.best(0, 2, 0), 0);
        due("best(0, 2, 1)", x.best(0, 2, 1), 0);
        due("best(1, 2, 0)", x.best(1, 2, 0), 4);
        due("best(1, 2, 1)", x.best(1, 2, 1), 1);
        x.pieces(0, 3);
        due("best(1, 2, 0)", x.best(1, 2, 0), 0);
        due("best(1, 2, 1)", x.best(1, 2, 1), 2);
        due("best(2, 2, 0)", x.best(2, 2, 0), 4);
        due("best(2, 2, 1)", x.best(2, 2, 1), 5);
        due("best(-1, 2, 0)", x.best(-1, 2, 0), BAD);
        due("best(0, 2, -1)", x.best(0, 2, -1), BAD);
        due("best(0, 2, 2)", x.best(0, 2, 2), BAD);
    }

    private static void bestBeyondMachines() {
        says(10, "L 1 .. 7");
        PartCells x = going(2, 3);
        for (int most = 2; most <= 7; most++) {
            due("best(0, " + most + ", 0): more than there are", x.best(0, most, 0), 0);
        }
        due("best(0, 1, 0)", x.best(0, 1, 0), 4);
    }

    private static void plainWithMachineZero() {
        says(11, "PLAIN, if MACHINE 0 is in CELL 0");
        PartCells x = sized(1, 1);
        for (int cell = 0; cell < 4; cell++) {
            x.cell(0, cell);
            due("plain() with it in " + cell, x.plain(), cell == 0 ? 1 : 0);
        }
        x = sized(2, 1);
        x.group(1);
        due("plain() with 0 in 1, 1 in 0", x.plain(), 0);
    }

    private static void plainInOrder() {
        says(11, "each CELL's first MACHINE stands behind the first one of the CELL ahead of it");
        PartCells x = sized(5, 1);
        x.group(2 * 4 + 16);
        due("plain() of 0 2 1 0 0", x.plain(), 0);
        x.group(4 + 2 * 16);
        due("plain() of 0 1 2 0 0", x.plain(), 1);
        x.group(4 + 2 * 16 + 64 + 3 * 256);
        due("plain() of 0 1 2 1 3: later ones are free", x.plain(), 1);
        x.group(4 + 3 * 16 + 2 * 64);
        due("plain() of 0 1 3 2 0", x.plain(), 0);
    }

    private static void plainEmptyLast() {
        says(11, "(CELLS that have none come last)");
        PartCells x = sized(7, 1);
        due("plain() with all in 0", x.plain(), 1);
        x.group(2 * 4096);
        due("plain() with 0 and 2", x.plain(), 0);
        x.group(3 * 4096);
        due("plain() with 0 and 3", x.plain(), 0);
        x.group(4 + 3 * 4096);
        due("plain() with 0, 1 and 3", x.plain(), 0);
        x.group(4096);
        due("plain() with 0 and 1", x.plain(), 1);
        x.group(16383);
        due("plain() with all in 3", x.plain(), 0);
    }

    /** Ways to part M machines to at most four heaps; each has one PLAIN grouping. */
    private static void plainNumbers() {
        says(11, "Whether the GROUPING is PLAIN.");
        int[] due = {1, 2, 5, 15, 51, 187, 715};
        for (int m = 1; m <= 7; m++) {
            int found = 0;
            PartCells x = null;
            for (int number = 0; number < power(4, m); number++) {
                if (number % 250 == 0) {
                    x = sized(m, 1);
                }
                x.group(number);
                found += x.plain();
            }
            due("how many are PLAIN of " + m, found, due[m - 1]);
        }
    }

    // ---- promises 12 and 13

    private static void likenessAndTree() {
        likeWithoutParts();
        likeEnds();
        likeSame();
        joinEnds();
        joinGreatest();
        joinOfSeveral();
        joinToldByFirst();
        joinNames();
        joinWithoutParts();
    }

    private static void likeWithoutParts() {
        says(12, "(1; 1 without such)");
        PartCells x = going(3, 4, 0);
        due("like(0, 1, 0)", x.like(0, 1, 0), 0);
        due("like(0, 1, 1)", x.like(0, 1, 1), 1);
        due("like(0, 2, 0)", x.like(0, 2, 0), 0);
        due("like(0, 2, 1)", x.like(0, 2, 1), 1);
        x.route(1, 1, 3);
        due("like(0, 1, 1): it does not go by that ROUTE", x.like(0, 1, 1), 1);
        due("like(0, 1, 0): it does not go by that ROUTE", x.like(0, 1, 0), 0);
        x.goes(1, 1);
        due("like(0, 1, 0)", x.like(0, 1, 0), 1);
    }

    private static void likeEnds() {
        says(12, "how many have both (part = 0), how many one of them at least (1)");
        PartCells x = going(7, 65, 65, 65, 65, 65, 65, 65, 65);
        due("like(0, 6, 0): all eight", x.like(0, 6, 0), 8);
        due("like(6, 0, 1): all eight", x.like(6, 0, 1), 8);
        due("like(1, 6, 0)", x.like(1, 6, 0), 0);
        due("like(1, 6, 1)", x.like(1, 6, 1), 8);
        x.pieces(0, 9);
        due("like(0, 6, 0): PARTS, not PIECES", x.like(0, 6, 0), 8);
        due("like(0, 6, -1)", x.like(0, 6, -1), BAD);
        due("like(0, 6, 2)", x.like(0, 6, 2), BAD);
        due("like(0, 7, 0)", x.like(0, 7, 0), BAD);
        due("like(7, 0, 0)", x.like(7, 0, 0), BAD);
    }

    private static void likeSame() {
        says(12, "BAD: one and the same, too.");
        for (int m = 1; m <= 7; m++) {
            PartCells x = going(m, 1);
            for (int machine = 0; machine < m; machine++) {
                due("like of " + machine + " and itself", x.like(machine, machine, 0), BAD);
                due("like of " + machine + " and itself", x.like(machine, machine, 1), BAD);
            }
        }
    }

    private static void dueJoin(PartCells x, int i, int first, int second, int upper, int lower) {
        due("join(" + i + ", 0)", x.join(i, 0), first);
        due("join(" + i + ", 1)", x.join(i, 1), second);
        due("join(" + i + ", 2)", x.join(i, 2), upper);
        due("join(" + i + ", 3)", x.join(i, 3), lower);
    }

    private static void joinEnds() {
        says(13, "JOIN i (0 .. M - 2)");
        for (int m = 1; m <= 7; m++) {
            PartCells x = going(m, (1 << m) - 1);
            for (int i = 0; i <= m - 2; i++) {
                dueJoin(x, i, 0, i + 1, 1, 1);
            }
            for (int what = 0; what < 4; what++) {
                due("join(M - 1, " + what + ") of " + m, x.join(m - 1, what), BAD);
                due("join(-1, " + what + ") of " + m, x.join(-1, what), BAD);
            }
        }
        PartCells x = new PartCells();
        due("join(0, 4)", x.join(0, 4), BAD);
        due("join(0, -1)", x.join(0, -1), BAD);
    }

    private static void joinGreatest() {
        says(13, "LIKENESS (that of two MACHINES, one of either, that is greatest)");
        // 0-1 and 1-2 are 1 of 2, 0-2 is 0 of 2: heap {0, 1} is as like to 2 as its machine 1
        PartCells x = going(4, 6, 3);
        dueJoin(x, 0, 0, 1, 1, 2);
        dueJoin(x, 1, 0, 2, 1, 2);
        dueJoin(x, 2, 0, 3, 0, 1);
        // 2-3 is 2 of 3, 0-1 is 1 of 2: the greater share, not the greater count alone
        x = going(4, 1, 3, 12, 12, 8);
        dueJoin(x, 0, 2, 3, 2, 3);
        dueJoin(x, 1, 0, 1, 1, 2);
        // 0-1 is 3 of 6, 2-3 is 1 of 1
        x = going(4, 3, 3, 3, 1, 1, 1, 12);
        dueJoin(x, 0, 2, 3, 1, 1);
        dueJoin(x, 1, 0, 1, 3, 6);
    }

    private static void joinOfSeveral() {
        says(13, "of several the pair with the least MACHINE of the first heap, then of the second");
        // 0-3 is 1 of 1, 1-2 is 2 of 2
        PartCells x = going(4, 6, 15);
        dueJoin(x, 0, 0, 3, 1, 1);
        dueJoin(x, 1, 1, 2, 2, 2);
        dueJoin(x, 2, 0, 1, 1, 2);
        // 0-1 is 2 of 4, 0-2 is 1 of 2
        x = going(3, 2, 7, 3, 2);
        dueJoin(x, 0, 0, 1, 2, 4);
        dueJoin(x, 1, 0, 2, 1, 2);
    }

    private static void joinToldByFirst() {
        says(13, "of the first two MACHINES with it (by the one of the first heap, then that of the second)");
        // heaps {0, 2} and {1, 3}: 0-3 is 3 of 6, 2-1 is 2 of 4
        PartCells x = going(4, 5, 15, 5, 15, 9, 1);
        dueJoin(x, 0, 0, 2, 4, 6);
        dueJoin(x, 1, 1, 3, 2, 3);
        dueJoin(x, 2, 0, 1, 3, 6);
        // heaps {0} and {1, 2}: 0-1 is 3 of 6, 0-2 is 4 of 8
        x = going(3, 4, 7, 6, 7, 5, 1, 7, 4);
        dueJoin(x, 0, 1, 2, 4, 7);
        dueJoin(x, 1, 0, 1, 3, 6);
    }

    private static void joinNames() {
        says(13, "(a heap is named by its least MACHINE; the first has the lesser name)");
        // heap {0, 4} by its machine 4, and machine 3, are as like to 2: the heap's name is 0
        PartCells x = going(5, 8, 17, 28);
        dueJoin(x, 0, 0, 4, 1, 2);
        dueJoin(x, 1, 0, 2, 1, 2);
        dueJoin(x, 2, 0, 3, 1, 2);
        dueJoin(x, 3, 0, 1, 0, 1);
        // heap {5, 6}, then {1, 5, 6}, then with 0: its name is 1, then 0
        x = going(7, 96, 96, 34, 3);
        dueJoin(x, 0, 5, 6, 2, 3);
        dueJoin(x, 1, 0, 1, 1, 2);
        dueJoin(x, 2, 0, 5, 1, 4);
    }

    private static void joinWithoutParts() {
        says(13, "LIKENESS: a share (0 of 1 without such PARTS)");
        PartCells x = sized(7, 1);
        for (int i = 0; i < 6; i++) {
            dueJoin(x, i, 0, i + 1, 0, 1);
        }
        // 0-1 and 0-2 are 0 of 2, 1-2 is 0 of 1: all are the same share
        x = going(3, 1, 1);
        dueJoin(x, 0, 0, 1, 0, 2);
        dueJoin(x, 1, 0, 2, 0, 2);
    }

    // ---- promises 14 to 16

    private static void loadsAndRoutes() {
        bearsEnds();
        loadEnds();
        routesRight();
        routesNone();
        routesWithoutLoad();
        routesOfSeveral();
        routesPassOver();
        routesGreatest();
        routesLeave();
    }

    private static void bearsEnds() {
        says(14, "A MACHINE BEARS so many PIECES (0 .. 99; 99 at first).");
        PartCells x = sized(7, 1);
        for (int machine = 0; machine < 7; machine++) {
            due("bears(" + machine + ", 99)", x.bears(machine, 99), 99);
            due("bears(" + machine + ", 100)", x.bears(machine, 100), BAD);
            due("bears(" + machine + ", 0)", x.bears(machine, 0), 99);
            due("bears(" + machine + ", -1)", x.bears(machine, -1), BAD);
            due("bears(" + machine + ", 1)", x.bears(machine, 1), 0);
        }
        due("bears(7, 0)", x.bears(7, 0), BAD);
        due("bears(-1, 0)", x.bears(-1, 0), BAD);
    }

    private static void loadEnds() {
        says(15, "PIECES that go by a MACHINE.");
        PartCells x = mostWandering();
        for (int machine = 0; machine < 7; machine++) {
            due("load(" + machine + ")", x.load(machine), 72);
        }
        due("load(7)", x.load(7), BAD);
        due("load(-1)", x.load(-1), BAD);
        x.goes(0, 1);
        due("load(6) without part 0", x.load(6), 63);
        x.bears(6, 0);
        due("load(6): what it BEARS is no bound", x.load(6), 63);
        x.works(7, 8);
        due("load(0) without ROUTES", x.load(0), 0);
    }

    private static void routesRight() {
        says(16, "RIGHT, if no MACHINE has more PIECES of PARTS that go by it than it BEARS");
        PartCells x = going(1, 1, 1);
        x.pieces(0, 4);
        x.pieces(1, 5);
        int[] due = {3, 3, 3, 3, 2, 1, 1, 1, 1, 0};
        for (int bears = 9; bears >= 0; bears--) {
            x.bears(0, bears);
            due("routes(0), it BEARS " + bears, x.routes(0), due[bears]);
        }
        // the last machine alone is too weak
        x = going(7, 127);
        x.bears(6, 0);
        due("routes(0)", x.routes(0), 1);
        // the greatest load there can be is borne at first
        x = mostWandering();
        for (int part = 0; part < 8; part++) {
            x.route(part, 1, 127);
        }
        due("routes(0)", x.routes(0), 0);
        due("routes(1)", x.routes(1), 360);
    }

    private static void routesNone() {
        says(16, "STATE: none is RIGHT.");
        PartCells x = going(1, 1);
        x.route(0, 1, 1);
        x.pieces(0, 9);
        x.bears(0, 9);
        due("routes(0), it BEARS 9", x.routes(0), 0);
        x.bears(0, 8);
        due("routes(0), it BEARS 8", x.routes(0), STATE);
        due("routes(1), it BEARS 8", x.routes(1), STATE);
        due("routes(2): BAD is ahead", x.routes(2), BAD);
        due("routes(-1): BAD is ahead", x.routes(-1), BAD);
    }

    private static void routesWithoutLoad() {
        says(16, "BEARS (0 ..): a MACHINE that bears none is RIGHT without PIECES");
        PartCells x = sized(7, 8);
        for (int machine = 0; machine < 7; machine++) {
            x.bears(machine, 0);
        }
        due("routes(0)", x.routes(0), 0);
        due("routes(1)", x.routes(1), 0);
        x.route(7, 0, 64);
        due("routes(0)", x.routes(0), 128);
        x.route(7, 1, 1);
        due("routes(0)", x.routes(0), STATE);
    }

    private static void routesOfSeveral() {
        says(16, "of several the least number");
        PartCells x = going(2, 1, 3, 2);
        for (int part = 0; part < 3; part++) {
            x.route(part, 1, 1);
        }
        due("routes(0): nothing wanders", x.routes(0), 0);
        x.group(4);
        due("routes(0): part 1 alone wanders by ROUTE 0", x.routes(0), 2);
        x.goes(0, 1);
        x.goes(2, 1);
        due("routes(0): whatever they go by now", x.routes(0), 2);
    }

    private static void routesPassOver() {
        says(16, "of all RIGHT choices that with the least LOSS WANDER");
        PartCells x = going(3, 1);
        x.route(0, 1, 6);
        x.group(4 + 2 * 16);
        x.pieces(0, 2);
        due("routes(0)", x.routes(0), 0);
        due("routes(1)", x.routes(1), 0);
        x.bears(0, 1);
        due("routes(0): not RIGHT, though nothing wanders", x.routes(0), 1);
        due("routes(1)", x.routes(1), 2);
    }

    private static void routesGreatest() {
        says(16, "(bit of a PART: ROUTE 1)");
        for (int p = 1; p <= 8; p++) {
            PartCells x = sized(2, p);
            x.group(4);
            for (int part = 0; part < p; part++) {
                x.route(part, 0, 3);
            }
            due("routes(0): all by ROUTE 1", x.routes(0), (1 << p) - 1);
            due("routes(1)", x.routes(1), 0);
            x.route(p - 1, 1, 3);
            due("routes(0): all but the last", x.routes(0), (1 << p - 1) - 1);
            due("routes(1)", x.routes(1), 1);
        }
    }

    private static void routesLeave() {
        says(16, "BEST ROUTES (what = 0), their LOSS WANDER (1)");
        PartCells x = going(2, 3);
        x.group(4);
        due("routes(0)", x.routes(0), 1);
        due("about(0, 4): the PART goes as before", x.about(0, 4), 0);
        due("routes(1)", x.routes(1), 0);
        due("loss(0)", x.loss(0), 1);
        due("trace(): loss() alone", x.trace(), 1);
    }

    // ---- promises 17 to 19

    private static void copiesAndPurse() {
        priceEnds();
        copyOwnCell();
        copyOfHome();
        copyEnds();
        savedByEnds();
        savedWithinPurse();
        savedOnce();
        savedForEachCell();
        savedByEachMachine();
        savedGreatest();
    }

    private static void priceEnds() {
        says(17, "A COPY of a MACHINE costs 1 .. 50 (10 at first).");
        PartCells x = sized(7, 1);
        for (int machine = 0; machine < 7; machine++) {
            due("price(" + machine + ", 1)", x.price(machine, 1), 10);
            due("price(" + machine + ", 0)", x.price(machine, 0), BAD);
            due("price(" + machine + ", 50)", x.price(machine, 50), 1);
            due("price(" + machine + ", 51)", x.price(machine, 51), BAD);
            due("price(" + machine + ", 2)", x.price(machine, 2), 50);
        }
        due("price(7, 1)", x.price(7, 1), BAD);
        due("price(-1, 1)", x.price(-1, 1), BAD);
    }

    private static void copyOwnCell() {
        says(18, "BAD: its own CELL, too.");
        PartCells x = going(7, 127);
        for (int machine = 0; machine < 7; machine++) {
            for (int own = 0; own < 4; own++) {
                x.cell(machine, own);
                for (int cell = 0; cell < 4; cell++) {
                    due("copy(" + machine + ", " + cell + ") in " + own + " is BAD",
                        x.copy(machine, cell) == BAD ? 1 : 0, cell == own ? 1 : 0);
                }
            }
            x.cell(machine, 0);
        }
        due("copy(7, 1)", x.copy(7, 1), BAD);
        due("copy(-1, 1)", x.copy(-1, 1), BAD);
        due("copy(0, 4)", x.copy(0, 4), BAD);
        due("copy(0, -1)", x.copy(0, -1), BAD);
    }

    private static void copyOfHome() {
        says(18, "it keeps home all PARTS of that HOME whose ROUTE has it");
        PartCells x = going(2, 3, 2, 1, 0);
        x.pieces(0, 7);
        x.group(4);
        due("copy(1, 0): part 0 alone, part 1 is at home in 1", x.copy(1, 0), 7);
        due("copy(0, 1): none of that HOME has it", x.copy(0, 1), 0);
        due("copy(1, 2): none has that HOME", x.copy(1, 2), 0);
        x.goes(0, 1);
        due("copy(1, 0): part 0 without MACHINES", x.copy(1, 0), 0);
    }

    private static void copyEnds() {
        says(18, "How many PIECES a COPY of a MACHINE for a CELL takes off.");
        PartCells x = mostWandering();
        due("copy(6, 0): all PIECES", x.copy(6, 0), 72);
        due("copy(6, 1)", x.copy(6, 1), 0);
        x.group(16383);
        due("copy(6, 0): none wanders", x.copy(6, 0), 0);
    }

    /** One part over all machines at home in cell 0; machines 2 .. 6 wander with 9 pieces each, and cost 50. */
    private static PartCells fiveCopies() {
        PartCells x = going(7, 127);
        x.pieces(0, 9);
        x.group(16 + 2 * 64 + 3 * 256 + 1024 + 2 * 4096);
        for (int machine = 0; machine < 7; machine++) {
            x.price(machine, 50);
        }
        return x;
    }

    private static void savedByEnds() {
        says(19, "a purse (0 .. 200)");
        PartCells x = fiveCopies();
        x.price(2, 1);
        due("saved(-1)", x.saved(-1), BAD);
        due("saved(0)", x.saved(0), 0);
        due("saved(1)", x.saved(1), 9);
        due("saved(200)", x.saved(200), 36);
        due("saved(201)", x.saved(201), BAD);
        x.price(3, 49);
        due("saved(200): all five, to the last coin", x.saved(200), 45);
        due("saved(199)", x.saved(199), 36);
    }

    private static void savedWithinPurse() {
        says(19, "that cost no more than it together");
        PartCells x = fiveCopies();
        int[] purses = {49, 50, 51, 99, 100, 149, 150, 199, 200};
        int[] due = {0, 9, 9, 9, 18, 18, 27, 27, 36};
        for (int i = 0; i < purses.length; i++) {
            due("saved(" + purses[i] + ")", x.saved(purses[i]), due[i]);
        }
        x.price(2, 49);
        due("saved(199) with one at 49", x.saved(199), 36);
        due("saved(198) with one at 49", x.saved(198), 27);
    }

    private static void savedOnce() {
        says(19, "(each MACHINE for each CELL once at most)");
        PartCells x = going(2, 3);
        x.group(4);
        x.pieces(0, 9);
        x.price(1, 1);
        due("saved(1)", x.saved(1), 9);
        due("saved(2)", x.saved(2), 9);
        due("saved(200)", x.saved(200), 9);
        x.group(0);
        due("saved(200): nothing wanders", x.saved(200), 0);
    }

    private static void savedForEachCell() {
        says(19, "(each MACHINE for each CELL once at most)");
        // machine 2 wanders from cell 0 and from cell 1: a copy for either
        PartCells x = going(3, 5, 6);
        x.group(4 + 2 * 16);
        x.pieces(0, 3);
        x.pieces(1, 4);
        due("saved(9)", x.saved(9), 0);
        due("saved(10)", x.saved(10), 4);
        due("saved(19)", x.saved(19), 4);
        due("saved(20)", x.saved(20), 7);
        due("saved(200): all that wanders", x.saved(200), x.loss(0));
    }

    private static void savedByEachMachine() {
        says(19, "COPIES (each MACHINE ..) take off WANDER");
        for (int alone = 0; alone < 7; alone++) {
            for (int cell = 1; cell < 4; cell++) {
                PartCells x = going(7, 127);
                x.pieces(0, 6);
                x.cell(alone, cell);
                x.price(alone, 50);
                due("copy(" + alone + ", 0)", x.copy(alone, 0), 6);
                due("saved(49) with " + alone + " in " + cell, x.saved(49), 0);
                due("saved(50) with " + alone + " in " + cell, x.saved(50), 6);
            }
        }
    }

    private static void savedGreatest() {
        says(19, "the greatest sum of PIECES");
        PartCells x = going(4, 3, 5, 9);
        x.group(4 + 2 * 16 + 3 * 64);
        x.pieces(0, 7);
        x.pieces(1, 5);
        x.pieces(2, 5);
        x.price(1, 6);
        x.price(2, 5);
        x.price(3, 5);
        int[] due = {0, 0, 0, 0, 0, 5, 7, 7, 7, 7, 10, 12, 12, 12, 12, 12, 17};
        for (int purse = 0; purse < due.length; purse++) {
            due("saved(" + purse + ")", x.saved(purse), due[purse]);
        }
    }

    // ---- promises 20 and 21

    private static void floorPlaces() {
        wayEachOnce();
        wayHowFar();
        wayOfEachMachine();
        wayWithoutWandering();
        floorOfSeveral();
        floorLeast();
        floorEnds();
    }

    private static void wayEachOnce() {
        says(20, "BAD: not each once.");
        PartCells x = new PartCells();
        int taken = 0;
        for (int order = 0; order < 256; order++) {
            taken += x.way(order >> 6, order >> 4 & 3, order >> 2 & 3, order & 3) == 0 ? 1 : 0;
        }
        due("how many orders are taken", taken, 24);
        due("way(0, 1, 2, 4)", x.way(0, 1, 2, 4), BAD);
        due("way(-1, 1, 2, 3)", x.way(-1, 1, 2, 3), BAD);
        due("way(4, 1, 2, 3)", x.way(4, 1, 2, 3), BAD);
        due("way(0, 5, 2, 3)", x.way(0, 5, 2, 3), BAD);
        due("way(0, 1, -2, 3)", x.way(0, 1, -2, 3), BAD);
    }

    private static void wayHowFar() {
        says(20, "PIECES times how far HOME is from the CELL of each MACHINE that WANDERS");
        PartCells x = going(2, 3);
        x.pieces(0, 5);
        x.group(3 * 4);
        due("way(0, 3, 1, 2)", x.way(0, 3, 1, 2), 5);
        due("way(0, 1, 3, 2)", x.way(0, 1, 3, 2), 10);
        due("way(0, 1, 2, 3)", x.way(0, 1, 2, 3), 15);
        due("way(3, 2, 1, 0)", x.way(3, 2, 1, 0), 15);
        due("way(1, 3, 2, 0)", x.way(1, 3, 2, 0), 10);
        due("way(1, 2, 3, 0)", x.way(1, 2, 3, 0), 5);
        // all seven machines: home 0, one more there, two in 1, two in 2, one in 3
        due("way(0, 1, 2, 3): the most there is", mostWandering().way(0, 1, 2, 3), 72 * (2 * 1 + 2 * 2 + 3));
        due("way(3, 2, 1, 0)", mostWandering().way(3, 2, 1, 0), 72 * 9);
        due("way(0, 3, 2, 1)", mostWandering().way(0, 3, 2, 1), 72 * (2 * 3 + 2 * 2 + 1));
    }

    private static void wayOfEachMachine() {
        says(20, "the CELL of each MACHINE that WANDERS");
        for (int alone = 0; alone < 7; alone++) {
            for (int cell = 1; cell < 4; cell++) {
                PartCells x = going(7, 127);
                x.pieces(0, 2);
                x.cell(alone, cell);
                due("way(0, 1, 2, 3) with " + alone + " in " + cell, x.way(0, 1, 2, 3), 2 * cell);
                due("floor(4) with " + alone + " in " + cell, x.floor(4), 2);
            }
        }
    }

    private static void wayWithoutWandering() {
        says(20, "each MACHINE that WANDERS");
        PartCells x = going(3, 7, 1, 0);
        x.group(63);
        due("way(3, 2, 1, 0): none", x.way(3, 2, 1, 0), 0);
        due("way(0, 1, 2, 3): none, though a PART without MACHINES is at home in 0", x.way(0, 1, 2, 3), 0);
    }

    private static void floorOfSeveral() {
        says(21, "of several the first, by CELLS at PLACES 0, 1 .. .");
        dueFloor(new PartCells(), 0, 1, 2, 3, 0);
        // one pair of cells that want to be neighbours
        dueFloor(apart(0, 1), 0, 1, 2, 3, 5);
        dueFloor(apart(0, 2), 0, 2, 1, 3, 5);
        dueFloor(apart(0, 3), 0, 3, 1, 2, 5);
        dueFloor(apart(1, 2), 0, 1, 2, 3, 5);
        dueFloor(apart(1, 3), 0, 1, 3, 2, 5);
        dueFloor(apart(2, 3), 0, 1, 2, 3, 5);
    }

    private static PartCells apart(int home, int far) {
        PartCells x = going(2, 3);
        x.pieces(0, 5);
        x.group(home + 4 * far);
        return x;
    }

    private static void dueFloor(PartCells x, int a, int b, int c, int d, int way) {
        int[] due = {a, b, c, d, way};
        for (int what = 0; what < 5; what++) {
            due("floor(" + what + ")", x.floor(what), due[what]);
        }
        due("way of that order", x.way(a, b, c, d), way);
    }

    private static void floorLeast() {
        says(21, "BEST FLOOR: of all orders that with the least WAY");
        // homes 1 to 0 and 1 to 2 and 1 to 3 by machines 0, 1 in cell 1: cell 1 stands inside, the heavy ones beside it
        PartCells x = going(5, 7, 11, 19);
        x.group(1 + 4 + 0 * 16 + 2 * 64 + 3 * 256);
        x.pieces(0, 1);
        x.pieces(1, 9);
        x.pieces(2, 8);
        dueFloor(x, 0, 2, 1, 3, 2 + 9 + 8);
        x.pieces(0, 9);
        x.pieces(1, 1);
        dueFloor(x, 0, 1, 3, 2, 9 + 2 + 8);
    }

    private static void floorEnds() {
        says(21, "the CELL at PLACE 0 .. 3 (what), its WAY (4). BAD.");
        PartCells x = apart(1, 3);
        due("floor(-1)", x.floor(-1), BAD);
        due("floor(0)", x.floor(0), 0);
        due("floor(3)", x.floor(3), 2);
        due("floor(4)", x.floor(4), 5);
        due("floor(5)", x.floor(5), BAD);
    }

    // ---- promises 22 to 25

    private static void shelvesAndYears() {
        keepEnds();
        keepOnEach();
        shelvesAtFirst();
        yearEnds();
        yearFull();
        changeEnds();
        planWithoutYears();
        planOfOneYear();
        planOfSixYears();
        planWithoutWeight();
        planBehindTheFirst();
        planOfShelvesAlone();
    }

    private static void keepEnds() {
        says(22, "shelves 0 .. 3; The GROUPING at hand comes to a shelf: its NUMBER. BAD.");
        PartCells x = sized(7, 1);
        x.group(16383);
        for (int shelf = 0; shelf < 4; shelf++) {
            due("keep(" + shelf + ")", x.keep(shelf), 16383);
        }
        x.group(0);
        due("keep(-1)", x.keep(-1), BAD);
        due("keep(4)", x.keep(4), BAD);
        due("count(4)", x.count(4), 16383);
        due("keep(3)", x.keep(3), 0);
        due("count(4): another shelf", x.count(4), 16383);
        due("keep(0)", x.keep(0), 0);
        due("count(4)", x.count(4), 0);
    }

    private static void keepOnEach() {
        says(22, "GROUPINGS are kept on shelves 0 .. 3");
        for (int shelf = 0; shelf < 4; shelf++) {
            PartCells x = going(2, 3);
            x.year(1);
            x.group(4);
            for (int each = 0; each < 4; each++) {
                x.keep(each);
            }
            due("plan(): all part them", x.plan(), 1);
            x.group(5);
            due("plan(): what is at hand is on no shelf", x.plan(), 1);
            x.keep(shelf);
            due("plan(): shelf " + shelf + " does not", x.plan(), 0);
            x.group(4);
            due("plan(): it stays on the shelf", x.plan(), 0);
        }
    }

    private static void shelvesAtFirst() {
        says(22, "shelves 0 .. 3 (NUMBER 0 at first)");
        for (int shelf = 0; shelf < 4; shelf++) {
            shelfIsAllInOneCell(new PartCells(), shelf);
        }
        due("count(4)", new PartCells().count(4), 0);
    }

    private static void yearEnds() {
        says(23, "a weight of WANDER (0 .. 9)");
        PartCells x = new PartCells();
        due("year(-1)", x.year(-1), BAD);
        due("year(10)", x.year(10), BAD);
        due("count(3)", x.count(3), 0);
        due("year(0)", x.year(0), 1);
        due("year(9)", x.year(9), 2);
        due("count(3)", x.count(3), 2);
    }

    private static void yearFull() {
        says(23, "YEARS (6 at most); BAD; FULL.");
        PartCells x = parted();
        for (int year = 1; year <= 6; year++) {
            due("year(" + year + ")", x.year(year), year);
            due("count(3)", x.count(3), year);
        }
        due("plan()", x.plan(), 1 + 2 + 3 + 4 + 5 + 6);
        due("year(9)", x.year(9), FULL);
        due("year(10): BAD is ahead", x.year(10), BAD);
        due("year(-1): BAD is ahead", x.year(-1), BAD);
        due("count(3)", x.count(3), 6);
        due("plan(): no weight is another", x.plan(), 21);
    }

    /** Two machines that each shelf parts, and a part that goes over both. */
    private static PartCells parted() {
        PartCells x = going(2, 3);
        for (int shelf = 0; shelf < 4; shelf++) {
            x.group(shelf == 3 ? 8 : 1 + shelf);
            x.keep(shelf);
        }
        return x;
    }

    private static void changeEnds() {
        says(24, "CHANGE (0 .. 50; 5 at first)");
        PartCells x = new PartCells();
        due("change(0)", x.change(0), 5);
        due("change(-1)", x.change(-1), BAD);
        due("change(50)", x.change(50), 0);
        due("change(51)", x.change(51), BAD);
        due("change(50) again", x.change(50), 50);
        due("change(5)", x.change(5), 50);
    }

    private static void planWithoutYears() {
        says(25, "STATE: there are no YEARS.");
        PartCells x = parted();
        due("plan()", x.plan(), STATE);
        due("year(10)", x.year(10), BAD);
        due("plan() behind a refused YEAR", x.plan(), STATE);
        x.works(3, 3);
        due("plan()", x.plan(), STATE);
        x.year(0);
        due("plan()", x.plan(), 0);
    }

    private static void planOfOneYear() {
        says(25, "it costs weights times LOSS WANDER of what is on it");
        PartCells x = parted();
        x.pieces(0, 7);
        x.year(9);
        due("plan()", x.plan(), 9 * 7);
        x.pieces(0, 1);
        due("plan()", x.plan(), 9);
        x.route(0, 0, 2);
        due("plan(): nothing wanders", x.plan(), 0);
    }

    private static void planOfSixYears() {
        says(25, "weights times LOSS WANDER .., added");
        PartCells x = mostWandering();
        for (int shelf = 0; shelf < 4; shelf++) {
            x.keep(shelf);
        }
        for (int year = 0; year < 6; year++) {
            x.year(9);
        }
        due("plan(): the most there can be", x.plan(), 6 * 9 * 360);
        x.goes(0, 1);
        due("plan() without part 0", x.plan(), 6 * 9 * 315);
    }

    private static void planWithoutWeight() {
        says(25, "a weight of WANDER (0 .. 9)");
        PartCells x = parted();
        x.change(50);
        for (int year = 0; year < 6; year++) {
            x.year(0);
        }
        due("plan(): no weight, and no CHANGE for who stays", x.plan(), 0);
    }

    private static void planBehindTheFirst() {
        says(25, "for each YEAR behind the first CHANGE times the MACHINES whose CELL is another one than the YEAR ahead");
        for (int good = 0; good < 4; good++) {
            PartCells x = parted();
            x.change(50);
            x.group(15);
            x.keep(good);
            x.group(4);
            x.year(9);
            due("plan(): the first YEAR costs no CHANGE", x.plan(), 0);
            x.year(9);
            due("plan(): nor does one with the same shelf", x.plan(), 0);
            x.change(0);
            due("plan() with CHANGE 0", x.plan(), 0);
        }
    }

    private static void planOfShelvesAlone() {
        says(25, "BEST PLAN: the least cost.");
        // shelves lose 6, 4, 5 and all 15
        PartCells x = going(4, 3, 5, 9);
        x.pieces(0, 6);
        x.pieces(1, 4);
        x.pieces(2, 5);
        int[] lone = {4, 16, 64};
        for (int shelf = 0; shelf < 3; shelf++) {
            x.group(lone[shelf]);
            due("keep(" + shelf + ")", x.keep(shelf), lone[shelf]);
        }
        x.group(4 + 2 * 16 + 3 * 64);
        x.keep(3);
        x.group(0);
        x.year(2);
        x.year(0);
        x.year(3);
        x.change(0);
        due("plan() with CHANGE 0", x.plan(), 5 * 4);
        x.change(50);
        due("plan() with CHANGE 50", x.plan(), 5 * 4);
        x.pieces(1, 9);
        due("plan(): by PIECES as they are now", x.plan(), 5 * 5);
    }

    // ---- promises 26 and 27

    private static void countsAndTrace() {
        countEnds();
        traceBodies();
        traceOfLossAlone();
        traceRefused();
        lastCall();
    }

    private static void countEnds() {
        says(26, "0 M, 1 P, 2 NUMBER of the GROUPING, 3 YEARS, 4 NUMBER on shelf 0. BAD.");
        PartCells x = sized(7, 8);
        x.group(16383);
        x.keep(0);
        x.group(16382);
        x.keep(1);
        x.year(5);
        due("count(-1)", x.count(-1), BAD);
        due("count(0)", x.count(0), 7);
        due("count(1)", x.count(1), 8);
        due("count(2)", x.count(2), 16382);
        due("count(3)", x.count(3), 1);
        due("count(4)", x.count(4), 16383);
        due("count(5)", x.count(5), BAD);
        x.works(1, 1);
        due("count(0)", x.count(0), 1);
        due("count(1)", x.count(1), 1);
        due("count(2)", x.count(2), 0);
        due("count(3)", x.count(3), 1);
        due("count(4)", x.count(4), 0);
    }

    private static void traceBodies() {
        says(27, "numbers in brackets are added to THE TRACE, 0 at first, as often as loss() asks that body");
        int[] due = {1, 11, 111};
        for (int kind = 0; kind < 3; kind++) {
            PartCells x = new PartCells();
            due("trace()", x.trace(), 0);
            x.loss(kind);
            due("trace() behind loss(" + kind + ")", x.trace(), due[kind]);
            x.loss(kind);
            due("trace() behind two of them", x.trace(), 2 * due[kind]);
        }
    }

    private static void traceOfLossAlone() {
        says(27, "as often as loss() asks that body");
        PartCells x = mostWandering();
        x.best(2, 7, 0);
        x.best(2, 7, 1);
        x.routes(0);
        x.routes(1);
        x.saved(200);
        x.floor(4);
        x.year(1);
        x.plan();
        x.about(0, 1);
        x.keep(0);
        due("trace()", x.trace(), 0);
    }

    private static void traceRefused() {
        says(27, "Refused, and nothing changes");
        PartCells x = new PartCells();
        x.loss(-1);
        x.loss(3);
        x.loss(Integer.MIN_VALUE);
        x.loss(Integer.MAX_VALUE);
        due("trace()", x.trace(), 0);
    }

    private static void lastCall() {
        says(27, "An object is used for at most 512 calls after it has been made");
        PartCells x = new PartCells();
        for (int call = 1; call < 512; call++) {
            x.loss(2);
        }
        due("trace(), the 512th call", x.trace(), 511 * 111);
        // what later calls answer is free, but none may throw
        x.loss(2);
        x.trace();
    }
}
