/** Each promise by hand: ordinary inputs, the edges that the document names, wrong inputs that change nothing. */
public final class PartCellsPromises {
    private static final int BAD = -1, STATE = -2, FULL = -3;
    private static int wrong = 0;
    private static int promise = 0;

    private static void due(String call, long got, long want) {
        if (got != want) {
            wrong++;
            System.out.println("promise " + promise + ": " + call + " answered " + got + ", due is " + want);
        }
    }

    public static void main(String[] args) {
        newObject();
        works();
        worksKeeps();
        route();
        goes();
        pieces();
        cell();
        group();
        about();
        loss();
        best();
        bestEdges();
        plain();
        like();
        join();
        joinNames();
        bears();
        load();
        routes();
        price();
        copy();
        saved();
        way();
        floor();
        keep();
        year();
        change();
        plan();
        count();
        trace();
        farNumbers();
        System.out.println(wrong == 0 ? "all answers are as due" : wrong + " answers are not as due");
        if (wrong != 0) {
            System.exit(1);
        }
    }

    private static void newObject() {
        promise = 1;
        PartCells x = new PartCells();
        due("count(0)", x.count(0), 4);
        due("count(1)", x.count(1), 4);
        due("count(2)", x.count(2), 0);
        due("count(3)", x.count(3), 0);
        due("count(4)", x.count(4), 0);
        due("trace()", x.trace(), 0);
        due("plain()", x.plain(), 1);
        due("plan()", x.plan(), STATE);
        for (int part = 0; part < 4; part++) {
            due("about HOME", x.about(part, 0), 0);
            due("about WANDERS", x.about(part, 1), 0);
            due("about IDLE", x.about(part, 2), 4);
            due("about PIECES", x.about(part, 3), 1);
            due("about which", x.about(part, 4), 0);
            due("about SET", x.about(part, 5), 0);
            due("route 0", x.route(part, 0, 0), 0);
            due("route 1", x.route(part, 1, 0), 0);
        }
        for (int machine = 0; machine < 4; machine++) {
            due("bears", x.bears(machine, 99), 99);
            due("price", x.price(machine, 10), 10);
            due("cell", x.cell(machine, 0), 0);
        }
        due("change(5)", x.change(5), 5);
    }

    private static void works() {
        promise = 2;
        PartCells x = new PartCells();
        due("works(7, 8)", x.works(7, 8), 4);
        due("count(0)", x.count(0), 7);
        due("count(1)", x.count(1), 8);
        due("works(1, 1)", x.works(1, 1), 7);
        due("about(1, 0)", x.about(1, 0), BAD);
        due("works(3, 8)", x.works(3, 8), 1);
        x.group(9);
        x.route(0, 0, 7);
        due("works(0, 1)", x.works(0, 1), BAD);
        due("works(8, 1)", x.works(8, 1), BAD);
        due("works(1, 0)", x.works(1, 0), BAD);
        due("works(1, 9)", x.works(1, 9), BAD);
        due("works(-1, -1)", x.works(-1, -1), BAD);
        due("count(0) after BAD", x.count(0), 3);
        due("count(1) after BAD", x.count(1), 8);
        due("count(2) after BAD", x.count(2), 9);
        due("about(0, 5) after BAD", x.about(0, 5), 7);
    }

    private static void worksKeeps() {
        promise = 2;
        PartCells x = new PartCells();
        x.route(0, 0, 15);
        x.route(0, 1, 3);
        x.goes(0, 1);
        x.pieces(0, 9);
        x.group(228);
        for (int shelf = 0; shelf < 4; shelf++) {
            x.keep(shelf);
        }
        x.bears(1, 7);
        x.price(1, 7);
        x.year(4);
        x.year(5);
        x.change(9);
        x.loss(2);
        due("works(4, 4)", x.works(4, 4), 4);
        due("about(0, 5)", x.about(0, 5), 0);
        due("about(0, 4)", x.about(0, 4), 0);
        due("about(0, 3)", x.about(0, 3), 1);
        due("route(0, 1, 0)", x.route(0, 1, 0), 0);
        due("count(2)", x.count(2), 0);
        due("count(4)", x.count(4), 0);
        due("bears(1, 99)", x.bears(1, 99), 99);
        due("price(1, 10)", x.price(1, 10), 10);
        due("count(3): YEARS stay", x.count(3), 2);
        due("change(9): CHANGE stays", x.change(9), 9);
        due("trace(): it stays", x.trace(), 111);
        x.route(0, 0, 5);
        due("plan(): no shelf has 228 any more", x.plan(), 0);
    }

    private static void route() {
        promise = 3;
        PartCells x = new PartCells();
        due("route(1, 0, 15)", x.route(1, 0, 15), 0);
        due("route(1, 1, 6)", x.route(1, 1, 6), 0);
        due("route(1, 0, 1)", x.route(1, 0, 1), 15);
        due("route(1, 1, 2)", x.route(1, 1, 2), 6);
        due("about(1, 5)", x.about(1, 5), 1);
        due("about(0, 5)", x.about(0, 5), 0);
        due("about(2, 5)", x.about(2, 5), 0);
        due("route(1, 0, 16)", x.route(1, 0, 16), BAD);
        due("route(1, 0, -1)", x.route(1, 0, -1), BAD);
        due("route(1, 0, 17)", x.route(1, 0, 17), BAD);
        due("route(1, 2, 0)", x.route(1, 2, 0), BAD);
        due("route(1, -1, 0)", x.route(1, -1, 0), BAD);
        due("route(4, 0, 0)", x.route(4, 0, 0), BAD);
        due("route(-1, 0, 0)", x.route(-1, 0, 0), BAD);
        due("route(1, 0, 0)", x.route(1, 0, 0), 1);
        due("route(1, 1, 0)", x.route(1, 1, 0), 2);
        x.works(7, 8);
        due("route(7, 1, 127)", x.route(7, 1, 127), 0);
        due("route(7, 1, 128)", x.route(7, 1, 128), BAD);
        due("route(7, 1, 0)", x.route(7, 1, 0), 127);
        x.works(1, 1);
        due("route(0, 0, 1)", x.route(0, 0, 1), 0);
        due("route(0, 0, 2)", x.route(0, 0, 2), BAD);
    }

    private static void goes() {
        promise = 4;
        PartCells x = new PartCells();
        x.route(3, 0, 3);
        x.route(3, 1, 12);
        due("goes(3, 0)", x.goes(3, 0), 0);
        due("goes(3, 1)", x.goes(3, 1), 0);
        due("about(3, 4)", x.about(3, 4), 1);
        due("about(3, 5)", x.about(3, 5), 12);
        due("about(2, 4)", x.about(2, 4), 0);
        due("goes(3, 2)", x.goes(3, 2), BAD);
        due("goes(3, -1)", x.goes(3, -1), BAD);
        due("goes(4, 0)", x.goes(4, 0), BAD);
        due("goes(-1, 0)", x.goes(-1, 0), BAD);
        due("goes(3, 1)", x.goes(3, 1), 1);
        due("goes(3, 0)", x.goes(3, 0), 1);
        due("about(3, 5)", x.about(3, 5), 3);
    }

    private static void pieces() {
        promise = 5;
        PartCells x = new PartCells();
        due("pieces(0, 9)", x.pieces(0, 9), 1);
        due("pieces(0, 10)", x.pieces(0, 10), BAD);
        due("pieces(0, 0)", x.pieces(0, 0), BAD);
        due("pieces(0, -3)", x.pieces(0, -3), BAD);
        due("pieces(4, 1)", x.pieces(4, 1), BAD);
        due("pieces(-1, 1)", x.pieces(-1, 1), BAD);
        due("about(0, 3)", x.about(0, 3), 9);
        due("about(1, 3)", x.about(1, 3), 1);
        due("pieces(0, 1)", x.pieces(0, 1), 9);
    }

    private static void cell() {
        promise = 6;
        PartCells x = new PartCells();
        due("cell(3, 3)", x.cell(3, 3), 0);
        due("count(2)", x.count(2), 192);
        due("cell(3, 1)", x.cell(3, 1), 3);
        due("cell(0, 2)", x.cell(0, 2), 0);
        due("count(2)", x.count(2), 66);
        due("cell(4, 0)", x.cell(4, 0), BAD);
        due("cell(-1, 0)", x.cell(-1, 0), BAD);
        due("cell(0, 4)", x.cell(0, 4), BAD);
        due("cell(0, -1)", x.cell(0, -1), BAD);
        due("count(2)", x.count(2), 66);
        due("cell(0, 0)", x.cell(0, 0), 2);
        due("cell(3, 0)", x.cell(3, 0), 1);
    }

    private static void group() {
        promise = 7;
        PartCells x = new PartCells();
        due("group(228)", x.group(228), 0);
        for (int machine = 0; machine < 4; machine++) {
            due("cell of " + machine, x.cell(machine, machine), machine);
        }
        due("group(255)", x.group(255), 228);
        due("group(256)", x.group(256), BAD);
        due("group(-1)", x.group(-1), BAD);
        due("count(2)", x.count(2), 255);
        x.works(7, 1);
        due("group(16383)", x.group(16383), 0);
        due("group(16384)", x.group(16384), BAD);
        due("cell(6, 0)", x.cell(6, 0), 3);
        x.works(1, 1);
        due("group(3)", x.group(3), 0);
        due("group(4)", x.group(4), BAD);
        due("group(0)", x.group(0), 3);
    }

    private static void about() {
        promise = 8;
        PartCells x = new PartCells();
        x.works(6, 3);
        // cells: machines 0, 1 in 1; 2, 3, 5 in 2; 4 in 3
        x.group(1 + 4 + 2 * 16 + 2 * 64 + 3 * 256 + 2 * 1024);
        x.route(0, 0, 0b011111);
        x.pieces(0, 6);
        due("HOME of several the least", x.about(0, 0), 1);
        due("WANDERS", x.about(0, 1), 3);
        due("IDLE", x.about(0, 2), 0);
        due("PIECES", x.about(0, 3), 6);
        due("which", x.about(0, 4), 0);
        due("SET", x.about(0, 5), 31);
        x.route(1, 1, 0b101011);
        x.goes(1, 1);
        due("HOME", x.about(1, 0), 1);
        due("IDLE", x.about(1, 2), 0);
        x.route(1, 1, 0b101001);
        due("HOME by most", x.about(1, 0), 2);
        due("WANDERS", x.about(1, 1), 1);
        due("IDLE", x.about(1, 2), 1);
        due("HOME without machines", x.about(2, 0), 0);
        due("WANDERS without machines", x.about(2, 1), 0);
        due("IDLE without machines, cell 0 empty", x.about(2, 2), 0);
        x.cell(0, 0);
        due("IDLE without machines", x.about(2, 2), 1);
        due("about(0, 6)", x.about(0, 6), BAD);
        due("about(0, -1)", x.about(0, -1), BAD);
        due("about(3, 0)", x.about(3, 0), BAD);
        due("about(-1, 0)", x.about(-1, 0), BAD);
    }

    private static void loss() {
        promise = 9;
        PartCells x = new PartCells();
        x.works(4, 2);
        x.route(0, 0, 7);
        x.pieces(0, 5);
        x.route(1, 0, 8);
        x.pieces(1, 9);
        x.group(1 * 16 + 1 * 64);
        // cells {0, 1}, {2, 3}: part 0 at home in 0, one wanders; part 1 at home in 1, machine 2 is idle
        due("loss(0)", x.loss(0), 5);
        due("loss(1)", x.loss(1), 6);
        due("loss(2)", x.loss(2), 14);
        due("loss(3)", x.loss(3), BAD);
        due("loss(-1)", x.loss(-1), BAD);
        due("trace()", x.trace(), 123);
    }

    private static void best() {
        promise = 10;
        PartCells x = new PartCells();
        x.works(3, 2);
        x.route(0, 0, 0b101);
        x.pieces(0, 2);
        x.route(1, 0, 0b110);
        // plain: 000 0, {01}{2} 16, {02}{1} 4, {0}{12} 20, {0}{1}{2} 36; WANDER 0, 3, 1, 2, 3; VOID adds 1 + 1, 1 + 0, 0 + 1, 0 + 0, 0
        due("best(0, 7, 0)", x.best(0, 7, 0), 0);
        due("best(0, 7, 1)", x.best(0, 7, 1), 0);
        due("best(0, 2, 0)", x.best(0, 2, 0), 4);
        due("best(0, 2, 1)", x.best(0, 2, 1), 1);
        due("best(0, 1, 0)", x.best(0, 1, 0), 36);
        due("best(0, 1, 1)", x.best(0, 1, 1), 3);
        due("best(1, 3, 0): of several the least", x.best(1, 3, 0), 0);
        due("best(1, 3, 1)", x.best(1, 3, 1), 2);
        due("best(2, 3, 0)", x.best(2, 3, 0), 36);
        due("best(2, 3, 1)", x.best(2, 3, 1), 6);
        due("the grouping stays", x.count(2), 0);
        due("the trace stays", x.trace(), 0);
    }

    private static void bestEdges() {
        promise = 10;
        PartCells x = new PartCells();
        due("best(0, 1, 0)", x.best(0, 1, 0), 228);
        due("best(2, 1, 1)", x.best(2, 1, 1), 4 + 4);
        x.works(5, 1);
        due("best(0, 1, 0)", x.best(0, 1, 0), STATE);
        due("best(0, 1, 2): BAD is first", x.best(0, 1, 2), BAD);
        due("best(3, 1, 0): BAD is first", x.best(3, 1, 0), BAD);
        // without routes all losses are 0: machine 4 with 0, then 3 in cell 1, then 2 in 2, so that 1 may open cell 1
        due("best(0, 2, 0)", x.best(0, 2, 0), 1 * 4 + 2 * 16 + 1 * 64 + 0 * 256);
        due("best(-1, 2, 0)", x.best(-1, 2, 0), BAD);
        due("best(0, 0, 0)", x.best(0, 0, 0), BAD);
        due("best(0, 8, 0)", x.best(0, 8, 0), BAD);
        due("best(0, 7, -1)", x.best(0, 7, -1), BAD);
        x.works(7, 1);
        due("best(1, 1, 0)", x.best(1, 1, 0), STATE);
        due("best(0, 7, 0)", x.best(0, 7, 0), 0);
        x.works(1, 1);
        due("best(0, 1, 0)", x.best(0, 1, 0), 0);
    }

    private static void plain() {
        promise = 11;
        PartCells x = new PartCells();
        int[] plain = {0, 4, 16, 20, 36, 64, 68, 80, 84, 100, 132, 144, 148, 164, 228};
        int at = 0;
        for (int number = 0; number < 256; number++) {
            boolean isPlain = at < plain.length && plain[at] == number;
            if (isPlain) {
                at++;
            }
            if (number == 128) {
                // an object is asked 512 times at most
                x = new PartCells();
            }
            x.group(number);
            due("plain() of " + number, x.plain(), isPlain ? 1 : 0);
        }
        due("the grouping stays", x.count(2), 255);
    }

    private static void like() {
        promise = 12;
        PartCells x = new PartCells();
        x.route(0, 0, 0b0011);
        x.route(1, 0, 0b0111);
        x.route(2, 0, 0b0001);
        x.route(3, 0, 0b0100);
        x.route(3, 1, 0b0110);
        due("like(0, 1, 0)", x.like(0, 1, 0), 2);
        due("like(0, 1, 1)", x.like(0, 1, 1), 3);
        due("like(1, 0, 0)", x.like(1, 0, 0), 2);
        due("like(1, 0, 1)", x.like(1, 0, 1), 3);
        due("like(1, 2, 0)", x.like(1, 2, 0), 1);
        due("like(1, 2, 1)", x.like(1, 2, 1), 3);
        x.goes(3, 1);
        due("like(1, 2, 0)", x.like(1, 2, 0), 2);
        due("like(1, 2, 1)", x.like(1, 2, 1), 3);
        due("like(0, 3, 0)", x.like(0, 3, 0), 0);
        due("like(0, 3, 1)", x.like(0, 3, 1), 3);
        x.works(2, 1);
        due("like(0, 1, 0) without parts", x.like(0, 1, 0), 0);
        due("like(0, 1, 1) without parts", x.like(0, 1, 1), 1);
        due("like(0, 0, 0)", x.like(0, 0, 0), BAD);
        due("like(0, 2, 0)", x.like(0, 2, 0), BAD);
        due("like(2, 0, 0)", x.like(2, 0, 0), BAD);
        due("like(-1, 0, 0)", x.like(-1, 0, 0), BAD);
        due("like(0, -1, 0)", x.like(0, -1, 0), BAD);
        due("like(0, 1, 2)", x.like(0, 1, 2), BAD);
        due("like(0, 1, -1)", x.like(0, 1, -1), BAD);
    }

    private static void dueJoin(PartCells x, int i, int first, int second, int upper, int lower) {
        due("join(" + i + ", 0)", x.join(i, 0), first);
        due("join(" + i + ", 1)", x.join(i, 1), second);
        due("join(" + i + ", 2)", x.join(i, 2), upper);
        due("join(" + i + ", 3)", x.join(i, 3), lower);
    }

    private static void join() {
        promise = 13;
        PartCells x = new PartCells();
        x.works(4, 6);
        x.route(0, 0, 0b1010);
        x.route(1, 0, 0b1010);
        x.route(2, 0, 0b0101);
        x.route(3, 0, 0b0001);
        x.route(4, 0, 0b1001);
        // likeness 01 0/5, 02 1/3, 03 1/5, 12 0/3, 13 2/3, 23 0/4
        dueJoin(x, 0, 1, 3, 2, 3);
        dueJoin(x, 1, 0, 2, 1, 3);
        dueJoin(x, 2, 0, 1, 1, 5);
        due("join(3, 0)", x.join(3, 0), BAD);
        due("join(-1, 0)", x.join(-1, 0), BAD);
        due("join(0, 4)", x.join(0, 4), BAD);
        due("join(0, -1)", x.join(0, -1), BAD);
        due("join(0, 0) again", x.join(0, 0), 1);
        x.works(2, 1);
        dueJoin(x, 0, 0, 1, 0, 1);
        due("join(1, 0)", x.join(1, 0), BAD);
        x.works(1, 1);
        due("join(0, 0)", x.join(0, 0), BAD);
    }

    private static void joinNames() {
        promise = 13;
        PartCells x = new PartCells();
        x.works(4, 8);
        x.route(0, 0, 0b1100);
        x.route(1, 0, 0b0011);
        // equal shares: the pair with the least names first, and the parts as like() tells them
        dueJoin(x, 0, 0, 1, 1, 1);
        dueJoin(x, 1, 2, 3, 1, 1);
        dueJoin(x, 2, 0, 2, 0, 2);
        // 0-1 2/4 and 2-3 1/2 are the same share: names decide, and like() tells 2 of 4
        x.works(4, 8);
        x.route(0, 0, 0b0011);
        x.route(1, 0, 0b0011);
        x.route(2, 0, 0b0001);
        x.route(3, 0, 0b0010);
        x.route(4, 0, 0b1100);
        x.route(5, 0, 0b0100);
        dueJoin(x, 0, 0, 1, 2, 4);
        dueJoin(x, 1, 2, 3, 1, 2);
        dueJoin(x, 2, 0, 2, 0, 5);
        // heap {0, 4} is the first, though its machine 4 is the like one and stands behind 1
        x.works(5, 3);
        x.route(0, 0, 0b10001);
        x.route(1, 0, 0b10001);
        x.route(2, 0, 0b10010);
        dueJoin(x, 0, 0, 4, 2, 3);
        dueJoin(x, 1, 0, 1, 1, 3);
        dueJoin(x, 2, 0, 2, 0, 2);
        // heap {1, 4} stands; 0-1 and 3-4 are 1/4 both: the heaps 0 and 1 are ahead by their names
        x.works(5, 8);
        x.route(0, 0, 0b10010);
        x.route(1, 0, 0b10011);
        x.route(2, 0, 0b00001);
        x.route(3, 0, 0b00001);
        x.route(4, 0, 0b01000);
        x.route(5, 0, 0b11000);
        // 01 1/4, 04 1/5, 14 2/3, 34 1/4, others 0
        dueJoin(x, 0, 1, 4, 2, 3);
        dueJoin(x, 1, 0, 1, 1, 4);
        dueJoin(x, 2, 0, 3, 1, 4);
        dueJoin(x, 3, 0, 2, 0, 3);
    }

    private static void bears() {
        promise = 14;
        PartCells x = new PartCells();
        due("bears(3, 0)", x.bears(3, 0), 99);
        due("bears(3, 99)", x.bears(3, 99), 0);
        due("bears(3, 100)", x.bears(3, 100), BAD);
        due("bears(3, -1)", x.bears(3, -1), BAD);
        due("bears(4, 0)", x.bears(4, 0), BAD);
        due("bears(-1, 0)", x.bears(-1, 0), BAD);
        due("bears(3, 5)", x.bears(3, 5), 99);
        due("bears(2, 5)", x.bears(2, 5), 99);
    }

    private static void load() {
        promise = 15;
        PartCells x = new PartCells();
        x.route(0, 0, 5);
        x.route(1, 0, 4);
        x.route(1, 1, 9);
        x.pieces(0, 3);
        x.pieces(1, 9);
        due("load(0)", x.load(0), 3);
        due("load(1)", x.load(1), 0);
        due("load(2)", x.load(2), 12);
        x.goes(1, 1);
        due("load(0)", x.load(0), 12);
        due("load(2)", x.load(2), 3);
        due("load(3)", x.load(3), 9);
        due("load(4)", x.load(4), BAD);
        due("load(-1)", x.load(-1), BAD);
    }

    private static void routes() {
        promise = 16;
        PartCells x = new PartCells();
        x.works(3, 3);
        x.group(1 * 4 + 2 * 16);
        x.route(0, 0, 0b011);
        x.route(0, 1, 0b100);
        x.route(1, 0, 0b001);
        x.route(1, 1, 0b111);
        x.route(2, 0, 0b100);
        x.route(2, 1, 0b010);
        x.pieces(0, 2);
        x.pieces(1, 3);
        x.pieces(2, 4);
        due("routes(0)", x.routes(0), 1);
        due("routes(1)", x.routes(1), 0);
        x.bears(2, 5);
        due("routes(0): machine 2 bears 5, not 6", x.routes(0), 5);
        due("routes(1)", x.routes(1), 0);
        x.bears(1, 3);
        due("routes(0): machine 1 bears 3, not 4", x.routes(0), 0);
        due("routes(1)", x.routes(1), 2);
        x.bears(2, 6);
        due("routes(0): 6 is no more than 6", x.routes(0), 1);
        x.bears(2, 1);
        x.bears(1, 4);
        due("routes(0)", x.routes(0), STATE);
        due("routes(1)", x.routes(1), STATE);
        due("routes(2): BAD is first", x.routes(2), BAD);
        due("routes(-1)", x.routes(-1), BAD);
        due("the routes stay", x.about(0, 4), 0);
        x.works(1, 8);
        due("routes(0): of several the least", x.routes(0), 0);
        x.bears(0, 0);
        x.route(7, 0, 1);
        due("routes(0)", x.routes(0), 128);
    }

    private static void price() {
        promise = 17;
        PartCells x = new PartCells();
        due("price(3, 50)", x.price(3, 50), 10);
        due("price(3, 1)", x.price(3, 1), 50);
        due("price(3, 51)", x.price(3, 51), BAD);
        due("price(3, 0)", x.price(3, 0), BAD);
        due("price(4, 1)", x.price(4, 1), BAD);
        due("price(-1, 1)", x.price(-1, 1), BAD);
        due("price(3, 2)", x.price(3, 2), 1);
        due("price(2, 2)", x.price(2, 2), 10);
    }

    /** Cells {0, 1}, {2}, {3}; two parts at home in 0 go over machine 2, one at home in 1 over machine 3. */
    private static PartCells wandering() {
        PartCells x = new PartCells();
        x.group(1 * 16 + 2 * 64);
        x.route(0, 0, 0b0111);
        x.pieces(0, 4);
        x.route(1, 0, 0b1111);
        x.pieces(1, 2);
        x.route(2, 0, 0b1100);
        x.pieces(2, 5);
        return x;
    }

    private static void copy() {
        promise = 18;
        PartCells x = wandering();
        due("copy(2, 0)", x.copy(2, 0), 6);
        due("copy(3, 0)", x.copy(3, 0), 2);
        due("copy(3, 1)", x.copy(3, 1), 5);
        due("copy(2, 2)", x.copy(2, 2), 0);
        due("copy(0, 3)", x.copy(0, 3), 0);
        due("copy(0, 0)", x.copy(0, 0), BAD);
        due("copy(2, 1)", x.copy(2, 1), BAD);
        due("copy(3, 2)", x.copy(3, 2), BAD);
        due("copy(0, 4)", x.copy(0, 4), BAD);
        due("copy(0, -1)", x.copy(0, -1), BAD);
        due("copy(4, 1)", x.copy(4, 1), BAD);
        due("copy(-1, 1)", x.copy(-1, 1), BAD);
    }

    private static void saved() {
        promise = 19;
        PartCells x = wandering();
        due("saved(0)", x.saved(0), 0);
        due("saved(9)", x.saved(9), 0);
        due("saved(10)", x.saved(10), 6);
        due("saved(20)", x.saved(20), 11);
        due("saved(29)", x.saved(29), 11);
        due("saved(30)", x.saved(30), 13);
        due("saved(200): all, each once", x.saved(200), 13);
        due("loss(0)", x.loss(0), 13);
        x.price(2, 15);
        x.price(3, 8);
        due("saved(14)", x.saved(14), 5);
        due("saved(15)", x.saved(15), 6);
        due("saved(16)", x.saved(16), 7);
        due("saved(23)", x.saved(23), 11);
        due("saved(30)", x.saved(30), 11);
        due("saved(31)", x.saved(31), 13);
        // machine 0 alone in cell 3 wanders from cell 0, 6 from cell 0 to 1
        x.works(7, 2);
        x.group(3 + 4096);
        x.route(0, 0, 0b0000111);
        x.pieces(0, 8);
        x.route(1, 0, 0b1001100);
        x.price(0, 50);
        x.price(6, 1);
        due("saved(49)", x.saved(49), 1);
        due("saved(50)", x.saved(50), 8);
        due("saved(51)", x.saved(51), 9);
        due("saved(201)", x.saved(201), BAD);
        due("saved(-1)", x.saved(-1), BAD);
    }

    private static void way() {
        promise = 20;
        PartCells x = wandering();
        // 0 to 1: 6 pieces, 0 to 2: 2, 1 to 2: 5
        due("way(0, 1, 2, 3)", x.way(0, 1, 2, 3), 6 + 4 + 5);
        due("way(1, 2, 0, 3)", x.way(1, 2, 0, 3), 12 + 2 + 5);
        due("way(0, 3, 2, 1)", x.way(0, 3, 2, 1), 18 + 4 + 5);
        due("way(2, 1, 3, 0)", x.way(2, 1, 3, 0), 12 + 6 + 5);
        due("way(0, 1, 2, 0)", x.way(0, 1, 2, 0), BAD);
        due("way(1, 1, 2, 3)", x.way(1, 1, 2, 3), BAD);
        due("way(0, 1, 2, 4)", x.way(0, 1, 2, 4), BAD);
        due("way(4, 1, 2, 3)", x.way(4, 1, 2, 3), BAD);
        due("way(0, -1, 2, 3)", x.way(0, -1, 2, 3), BAD);
        due("way(0, 1, -1, 3)", x.way(0, 1, -1, 3), BAD);
        due("way(0, 1, 6, 3)", x.way(0, 1, 6, 3), BAD);
        due("way(0, 1, 0, 11)", x.way(0, 1, 0, 11), BAD);
        due("way(0, 0, 16, 27)", x.way(0, 0, 16, 27), BAD);
        // machine 0 alone in cell 2 wanders from cell 0
        x.works(3, 1);
        x.group(2);
        x.route(0, 0, 0b111);
        x.pieces(0, 7);
        due("way(2, 1, 0, 3)", x.way(2, 1, 0, 3), 14);
        due("way(3, 1, 2, 0)", x.way(3, 1, 2, 0), 7);
    }

    private static void floor() {
        promise = 21;
        PartCells x = wandering();
        // cell 1 between 0 and 2 is least; 0 1 2 3 is the first such
        int[] due = {0, 1, 2, 3, 15};
        for (int what = 0; what < 5; what++) {
            due("floor(" + what + ")", x.floor(what), due[what]);
        }
        x.works(4, 4);
        x.group(1 * 4 + 2 * 16 + 3 * 64);
        x.route(0, 0, 0b1001);
        x.route(1, 0, 0b1100);
        x.pieces(1, 3);
        // 0 to 3: 1, 2 to 3: 3; cell 3 between 0 and 2
        int[] next = {0, 3, 2, 1, 4};
        x.route(2, 0, 0b0110);
        x.pieces(2, 9);
        for (int what = 0; what < 5; what++) {
            due("floor(" + what + ")", x.floor(what), what == 4 ? 13 : next[what]);
        }
        due("floor(5)", x.floor(5), BAD);
        due("floor(-1)", x.floor(-1), BAD);
    }

    private static void keep() {
        promise = 22;
        PartCells x = new PartCells();
        x.group(27);
        due("keep(0)", x.keep(0), 27);
        due("count(4)", x.count(4), 27);
        x.group(100);
        due("count(4) stays", x.count(4), 27);
        due("keep(3)", x.keep(3), 100);
        due("keep(4)", x.keep(4), BAD);
        due("keep(-1)", x.keep(-1), BAD);
        due("count(4) stays", x.count(4), 27);
        due("keep(0)", x.keep(0), 100);
        due("count(4)", x.count(4), 100);
        due("the grouping stays", x.count(2), 100);
    }

    private static void year() {
        promise = 23;
        PartCells x = new PartCells();
        due("year(10)", x.year(10), BAD);
        due("year(-1)", x.year(-1), BAD);
        for (int i = 1; i <= 6; i++) {
            due("year", x.year(i == 1 ? 9 : 0), i);
        }
        due("year(0)", x.year(0), FULL);
        due("year(10): BAD is first", x.year(10), BAD);
        due("count(3)", x.count(3), 6);
    }

    private static void change() {
        promise = 24;
        PartCells x = new PartCells();
        due("change(50)", x.change(50), 5);
        due("change(51)", x.change(51), BAD);
        due("change(-1)", x.change(-1), BAD);
        due("change(0)", x.change(0), 50);
        due("change(7)", x.change(7), 0);
    }

    private static void plan() {
        promise = 25;
        PartCells x = new PartCells();
        due("plan()", x.plan(), STATE);
        x.route(0, 0, 0b0011);
        x.pieces(0, 3);
        for (int shelf = 0; shelf < 4; shelf++) {
            x.group(4 + 16 * (shelf == 1 ? 1 : 0) + 64 * (shelf == 2 ? 2 : 0));
            x.keep(shelf);
        }
        x.year(2);
        due("plan(): all shelves split the route", x.plan(), 2 * 3);
        x.year(5);
        due("plan()", x.plan(), (2 + 5) * 3);
        x.year(0);
        due("plan(): a year without weight", x.plan(), (2 + 5) * 3);
        x.change(0);
        due("plan()", x.plan(), (2 + 5) * 3);
        x.pieces(0, 4);
        due("plan(): by the pieces at hand", x.plan(), (2 + 5) * 4);
        x.group(16);
        x.keep(3);
        due("plan(): shelf 3 splits nothing", x.plan(), 0);
        x.route(1, 0, 0b0110);
        due("plan(): shelf 3 splits the lighter part", x.plan(), 7);
        x.group(0);
        due("plan(): the grouping at hand is no shelf", x.plan(), 7);
        due("the trace stays", x.trace(), 0);
        planShelves();
    }

    /** Each shelf once the only one that splits nothing, in one year and in six. */
    private static void planShelves() {
        for (int good = 0; good < 4; good++) {
            PartCells x = new PartCells();
            x.route(0, 0, 0b0011);
            x.group(1);
            for (int shelf = 0; shelf < 4; shelf++) {
                x.keep(shelf);
            }
            x.year(9);
            due("plan()", x.plan(), 9);
            x.group(5);
            x.keep(good);
            due("plan() by shelf " + good, x.plan(), 0);
            x.route(1, 0, 0b1100);
            x.group(5 + 64);
            x.keep(good);
            x.pieces(0, 3);
            for (int i = 1; i < 6; i++) {
                x.year(i);
            }
            due("plan() of six years by shelf " + good, x.plan(), 9 + 1 + 2 + 3 + 4 + 5);
        }
    }

    private static void count() {
        promise = 26;
        PartCells x = new PartCells();
        x.works(5, 7);
        x.group(600);
        x.keep(0);
        x.group(601);
        x.keep(1);
        x.year(1);
        due("count(0)", x.count(0), 5);
        due("count(1)", x.count(1), 7);
        due("count(2)", x.count(2), 601);
        due("count(3)", x.count(3), 1);
        due("count(4)", x.count(4), 600);
        due("count(5)", x.count(5), BAD);
        due("count(-1)", x.count(-1), BAD);
    }

    private static void trace() {
        promise = 27;
        PartCells x = new PartCells();
        x.loss(0);
        due("trace()", x.trace(), 1);
        x.loss(1);
        due("trace()", x.trace(), 12);
        x.loss(2);
        due("trace()", x.trace(), 123);
        x.loss(3);
        x.loss(-1);
        x.best(2, 4, 1);
        x.routes(1);
        x.year(1);
        x.plan();
        x.saved(100);
        x.floor(4);
        due("trace(): only loss() adds", x.trace(), 123);
    }

    /** No number, however far off, makes a call throw or changes anything. */
    private static void farNumbers() {
        promise = 0;
        int[] far = {Integer.MIN_VALUE, Integer.MIN_VALUE + 1, -1000, 1000, 1 << 16, Integer.MAX_VALUE - 1, Integer.MAX_VALUE};
        PartCells x = wandering();
        for (int v : far) {
            due("works", x.works(v, 1), BAD);
            due("works", x.works(1, v), BAD);
            due("route", x.route(v, 0, 0), BAD);
            due("route", x.route(0, v, 0), BAD);
            due("route", x.route(0, 0, v), BAD);
            due("goes", x.goes(v, 0), BAD);
            due("goes", x.goes(0, v), BAD);
            due("pieces", x.pieces(v, 1), BAD);
            due("pieces", x.pieces(0, v), BAD);
            due("cell", x.cell(v, 0), BAD);
            due("cell", x.cell(0, v), BAD);
            due("group", x.group(v), BAD);
            due("about", x.about(v, 0), BAD);
            due("about", x.about(0, v), BAD);
            due("loss", x.loss(v), BAD);
            due("best", x.best(v, 4, 0), BAD);
            due("best", x.best(0, v, 0), BAD);
            due("best", x.best(0, 4, v), BAD);
            due("like", x.like(v, 0, 0), BAD);
            due("like", x.like(0, v, 0), BAD);
            due("like", x.like(0, 1, v), BAD);
            due("join", x.join(v, 0), BAD);
            due("join", x.join(0, v), BAD);
            due("bears", x.bears(v, 0), BAD);
            due("bears", x.bears(0, v), BAD);
            due("load", x.load(v), BAD);
            due("routes", x.routes(v), BAD);
            due("price", x.price(v, 1), BAD);
            due("price", x.price(0, v), BAD);
            due("copy", x.copy(v, 1), BAD);
            due("copy", x.copy(0, v), BAD);
            due("saved", x.saved(v), BAD);
            due("way", x.way(v, 1, 2, 3), BAD);
            due("way", x.way(0, v, 2, 3), BAD);
            due("way", x.way(0, 1, v, 3), BAD);
            due("way", x.way(0, 1, 2, v), BAD);
            due("floor", x.floor(v), BAD);
            due("keep", x.keep(v), BAD);
            due("year", x.year(v), BAD);
            due("change", x.change(v), BAD);
            due("count", x.count(v), BAD);
        }
        due("count(0)", x.count(0), 4);
        due("count(2)", x.count(2), 144);
        due("count(3)", x.count(3), 0);
        due("loss(2)", x.loss(2), 13 + 2 + 6);
        due("trace()", x.trace(), 111);
    }
}
