import java.util.function.Supplier;
import java.util.function.ToLongFunction;

/**
 * What is refused: each number of each call just inside, just outside and far outside of what the document tells, in all
 * sizes that it hangs on; STATE and FULL; which of them is first; and that a refused call changes nothing.
 */
public final class PartCellsRefusals {
    private static final int BAD = -1, STATE = -2, FULL = -3;
    /** Added to a good number these give a bad one that looks alike in its lower bits. */
    private static final int[] FAR = {1 << 15, 1 << 16, 1 << 29, 1 << 30, Integer.MIN_VALUE, -(1 << 30), -(1 << 16)};
    private static int wrong = 0;
    private static int promise = 0;
    /** The machines and parts of the objects that are asked. */
    private static int m = 5, p = 3;

    private interface NumberCall {
        long on(PartCells x, int v);
    }

    private static void report(String what) {
        wrong++;
        System.out.println("promise " + promise + ", " + m + " machines, " + p + " parts: " + what);
    }

    public static void main(String[] args) {
        works();
        route();
        goes();
        pieces();
        cell();
        group();
        about();
        loss();
        best();
        like();
        join();
        bears();
        load();
        routes();
        price();
        copy();
        saved();
        way();
        floor();
        keep();
        year();
        change();
        plan();
        count();
        questions();
        System.out.println(wrong == 0 ? "all refusals are as due" : wrong + " answers are not as due");
        if (wrong != 0) {
            System.exit(1);
        }
    }

    // ---- the objects that are asked, and what can be seen of them

    /** An object in which nothing is as at first that m machines and p parts let be otherwise. */
    private static PartCells busy() {
        PartCells x = new PartCells();
        x.works(m, p);
        int all = (1 << m) - 1;
        int numbers = 1 << 2 * m;
        for (int part = 0; part < p; part++) {
            x.route(part, 0, 1 | 5 * part & all);
            x.route(part, 1, 3 * part + 3 & all);
            x.goes(part, 1 - part % 2);
            x.pieces(part, 2 + part % 8);
        }
        for (int shelf = 0; shelf < 4; shelf++) {
            x.group((27 + 41 * shelf) % numbers);
            x.keep(shelf);
        }
        x.group(14627 % numbers);
        for (int machine = 0; machine < m; machine++) {
            x.bears(machine, 90 - machine);
            x.price(machine, 3 + machine);
        }
        x.year(2);
        x.year(3);
        x.change(7);
        x.loss(2);
        return x;
    }

    /** All that can be seen from outside; of the shelves one, as seeing it costs the others. */
    private static String seen(PartCells x, int shelf) {
        StringBuilder all = new StringBuilder();
        for (int what = 0; what < 5; what++) {
            all.append(x.count(what)).append(' ');
        }
        all.append(x.trace()).append(" parts ");
        for (int part = 0; part < x.count(1); part++) {
            for (int what = 0; what < 6; what++) {
                all.append(x.about(part, what)).append(' ');
            }
            for (int which = 0; which < 2; which++) {
                int set = x.route(part, which, 0);
                all.append(set).append(' ');
            }
        }
        all.append("machines ");
        for (int machine = 0; machine < x.count(0); machine++) {
            all.append(x.bears(machine, 0)).append(' ').append(x.price(machine, 1)).append(' ');
        }
        all.append("change ").append(x.change(0)).append(" shelf ");
        return all.append(seenShelf(x, shelf)).toString();
    }

    /** Which two machines a shelf parts: the other shelves part them, so that plan() tells of this one. */
    private static String seenShelf(PartCells x, int shelf) {
        StringBuilder all = new StringBuilder();
        x.goes(0, 0);
        x.pieces(0, 1);
        for (int one = 0; one < x.count(0); one++) {
            for (int other = one + 1; other < x.count(0); other++) {
                x.route(0, 0, 1 << one | 1 << other);
                x.group(1 << 2 * one);
                for (int far = 0; far < 4; far++) {
                    if (far != shelf) {
                        x.keep(far);
                    }
                }
                all.append(x.plan()).append(' ');
            }
        }
        return all.toString();
    }

    // ---- checks

    private static void unchanged(String call, Supplier<PartCells> made, ToLongFunction<PartCells> asked) {
        for (int shelf = 0; shelf < 4; shelf++) {
            PartCells x = made.get();
            asked.applyAsLong(x);
            String before = seen(made.get(), shelf);
            String after = seen(x, shelf);
            if (!before.equals(after)) {
                report(call + " made " + before + " to " + after);
                return;
            }
        }
    }

    private static void refused(String call, int answer, Supplier<PartCells> made, ToLongFunction<PartCells> asked) {
        long got = asked.applyAsLong(made.get());
        if (got != answer) {
            report(call + " answered " + got + ", due is " + answer);
        }
        unchanged(call, made, asked);
    }

    private static void bad(String call, ToLongFunction<PartCells> asked) {
        refused(call, BAD, PartCellsRefusals::busy, asked);
    }

    private static void badAt(String call, int v, NumberCall asked) {
        bad(call + " with " + v, x -> asked.on(x, v));
    }

    /** Numbers least .. most are taken, all others are BAD; without any the most is least - 1. */
    private static void within(String call, int least, int most, NumberCall asked) {
        int step = Math.max(1, (most - least) / 20);
        for (int v = least; v <= most; v = v < most ? Math.min(v + step, most) : v + 1) {
            long got = asked.on(busy(), v);
            if (got == BAD) {
                report(call + " with " + v + " answered BAD");
            }
        }
        badAt(call, least - 1, asked);
        badAt(call, most + 1, asked);
        for (int far : FAR) {
            badAt(call, least + far, asked);
            badAt(call, most + far, asked);
        }
        badAt(call, Integer.MAX_VALUE, asked);
    }

    private static void withinMachines(String call, NumberCall asked) {
        for (m = 1; m <= 7; m++) {
            within(call, 0, m - 1, asked);
        }
        m = 5;
    }

    private static void withinParts(String call, NumberCall asked) {
        for (p = 1; p <= 8; p++) {
            within(call, 0, p - 1, asked);
        }
        p = 3;
    }

    // ---- machines, parts

    private static void works() {
        promise = 2;
        within("works(v, 1)", 1, 7, (x, v) -> x.works(v, 1));
        within("works(v, 8)", 1, 7, (x, v) -> x.works(v, 8));
        within("works(1, v)", 1, 8, (x, v) -> x.works(1, v));
        within("works(7, v)", 1, 8, (x, v) -> x.works(7, v));
        bad("works(0, 0)", x -> x.works(0, 0));
        bad("works(8, 9)", x -> x.works(8, 9));
    }

    private static void route() {
        promise = 3;
        withinParts("route(v, 0, 1)", (x, v) -> x.route(v, 0, 1));
        within("route(0, v, 1)", 0, 1, (x, v) -> x.route(0, v, 1));
        for (m = 1; m <= 7; m++) {
            within("route(2, 0, v)", 0, (1 << m) - 1, (x, v) -> x.route(2, 0, v));
            within("route(2, 1, v)", 0, (1 << m) - 1, (x, v) -> x.route(2, 1, v));
            for (int bit = m; bit < 32; bit++) {
                badAt("route(0, 0, v): a bit beyond the machines", 1 << bit, (x, v) -> x.route(0, 0, v));
                badAt("route(0, 1, v): a bit beyond the machines", 1 << bit | 1, (x, v) -> x.route(0, 1, v));
            }
        }
        m = 5;
    }

    private static void goes() {
        promise = 4;
        withinParts("goes(v, 0)", (x, v) -> x.goes(v, 0));
        withinParts("goes(v, 1)", (x, v) -> x.goes(v, 1));
        within("goes(1, v)", 0, 1, (x, v) -> x.goes(1, v));
    }

    private static void pieces() {
        promise = 5;
        withinParts("pieces(v, 9)", (x, v) -> x.pieces(v, 9));
        within("pieces(2, v)", 1, 9, (x, v) -> x.pieces(2, v));
    }

    private static void cell() {
        promise = 6;
        withinMachines("cell(v, 0)", (x, v) -> x.cell(v, 0));
        withinMachines("cell(v, 3)", (x, v) -> x.cell(v, 3));
        within("cell(4, v)", 0, 3, (x, v) -> x.cell(4, v));
    }

    private static void group() {
        promise = 7;
        int numbers = 1;
        for (m = 1; m <= 7; m++) {
            numbers *= 4;
            within("group(v)", 0, numbers - 1, (x, v) -> x.group(v));
        }
        m = 5;
    }

    private static void about() {
        promise = 8;
        for (int what = 0; what < 6; what++) {
            int asked = what;
            withinParts("about(v, " + what + ")", (x, v) -> x.about(v, asked));
        }
        within("about(2, v)", 0, 5, (x, v) -> x.about(2, v));
    }

    private static void loss() {
        promise = 9;
        within("loss(v)", 0, 2, (x, v) -> x.loss(v));
    }

    private static void best() {
        promise = 10;
        m = 4;
        within("best(v, 1, 0)", 0, 2, (x, v) -> x.best(v, 1, 0));
        within("best(v, 7, 1)", 0, 2, (x, v) -> x.best(v, 7, 1));
        within("best(2, v, 0)", 1, 7, (x, v) -> x.best(2, v, 0));
        within("best(0, v, 1)", 1, 7, (x, v) -> x.best(0, v, 1));
        within("best(1, 3, v)", 0, 1, (x, v) -> x.best(1, 3, v));
        for (m = 5; m <= 7; m++) {
            for (int what = 0; what < 2; what++) {
                int asked = what;
                refused("best(0, 1, " + what + ")", STATE, PartCellsRefusals::busy, x -> x.best(0, 1, asked));
                refused("best(2, 1, " + what + ")", STATE, PartCellsRefusals::busy, x -> x.best(2, 1, asked));
            }
            bad("best(-1, 1, 0): BAD is ahead of STATE", x -> x.best(-1, 1, 0));
            bad("best(3, 1, 0): BAD is ahead of STATE", x -> x.best(3, 1, 0));
            bad("best(0, 0, 0): BAD is ahead of STATE", x -> x.best(0, 0, 0));
            bad("best(0, 1, -1): BAD is ahead of STATE", x -> x.best(0, 1, -1));
            bad("best(0, 1, 2): BAD is ahead of STATE", x -> x.best(0, 1, 2));
        }
        m = 5;
    }

    // ---- likeness, routes

    private static void like() {
        promise = 12;
        for (m = 2; m <= 7; m++) {
            within("like(v, .., 0)", 0, m - 1, (x, v) -> x.like(v, v == 0 ? 1 : 0, 0));
            within("like(.., v, 1)", 0, m - 1, (x, v) -> x.like(v == m - 1 ? 0 : m - 1, v, 1));
        }
        for (m = 1; m <= 7; m++) {
            for (int machine = 0; machine < m; machine++) {
                badAt("like(v, v, 0): one and the same", machine, (x, v) -> x.like(v, v, 0));
                badAt("like(v, v, 1): one and the same", machine, (x, v) -> x.like(v, v, 1));
            }
        }
        m = 5;
        within("like(0, 4, v)", 0, 1, (x, v) -> x.like(0, 4, v));
        bad("like(5, 5, 0)", x -> x.like(5, 5, 0));
        bad("like(-1, -1, 0)", x -> x.like(-1, -1, 0));
    }

    private static void join() {
        promise = 13;
        for (m = 1; m <= 7; m++) {
            for (int what = 0; what < 4; what++) {
                int asked = what;
                within("join(v, " + what + ")", 0, m - 2, (x, v) -> x.join(v, asked));
            }
        }
        m = 5;
        within("join(3, v)", 0, 3, (x, v) -> x.join(3, v));
    }

    private static void bears() {
        promise = 14;
        withinMachines("bears(v, 0)", (x, v) -> x.bears(v, 0));
        within("bears(4, v)", 0, 99, (x, v) -> x.bears(4, v));
    }

    private static void load() {
        promise = 15;
        withinMachines("load(v)", (x, v) -> x.load(v));
    }

    /** Part 0 needs a machine by either route, and none bears anything. */
    private static PartCells overloaded() {
        PartCells x = busy();
        x.route(0, 0, 1);
        x.route(0, 1, 1);
        for (int machine = 0; machine < m; machine++) {
            x.bears(machine, 0);
        }
        return x;
    }

    private static void routes() {
        promise = 16;
        within("routes(v)", 0, 1, (x, v) -> x.routes(v));
        for (m = 1; m <= 7; m++) {
            for (p = 1; p <= 8; p++) {
                refused("routes(0)", STATE, PartCellsRefusals::overloaded, x -> x.routes(0));
                refused("routes(1)", STATE, PartCellsRefusals::overloaded, x -> x.routes(1));
            }
        }
        m = 5;
        p = 3;
        refused("routes(2): BAD is ahead of STATE", BAD, PartCellsRefusals::overloaded, x -> x.routes(2));
        refused("routes(-1): BAD is ahead of STATE", BAD, PartCellsRefusals::overloaded, x -> x.routes(-1));
    }

    // ---- copies, the floor, years

    private static void price() {
        promise = 17;
        withinMachines("price(v, 1)", (x, v) -> x.price(v, 1));
        withinMachines("price(v, 50)", (x, v) -> x.price(v, 50));
        within("price(4, v)", 1, 50, (x, v) -> x.price(4, v));
    }

    private static PartCells allInCell(int cell) {
        PartCells x = busy();
        for (int machine = 0; machine < m; machine++) {
            x.cell(machine, cell);
        }
        return x;
    }

    private static void copy() {
        promise = 18;
        for (m = 1; m <= 7; m++) {
            for (int cell = 0; cell < 4; cell++) {
                int own = cell;
                for (int machine = 0; machine < m; machine++) {
                    copyOf(machine, own);
                }
                refused("copy(m, " + cell + ")", BAD, () -> allInCell(1), x -> x.copy(m, own));
                refused("copy(-1, " + cell + ")", BAD, () -> allInCell(1), x -> x.copy(-1, own));
            }
        }
        m = 5;
        badAt("copy(0, v)", -1, (x, v) -> x.copy(0, v));
        badAt("copy(0, v)", 4, (x, v) -> x.copy(0, v));
        for (int far : FAR) {
            badAt("copy(0, v)", far, (x, v) -> x.copy(0, v));
            badAt("copy(4, v)", 3 + far, (x, v) -> x.copy(4, v));
            badAt("copy(v, 1)", far, (x, v) -> x.copy(v, 1));
            badAt("copy(v, 1)", 3 + far, (x, v) -> x.copy(v, 1));
        }
    }

    /** BAD for its own cell alone. */
    private static void copyOf(int machine, int own) {
        for (int cell = 0; cell < 4; cell++) {
            int asked = cell;
            String call = "copy(" + machine + ", " + cell + ") with all machines in " + own;
            if (cell == own) {
                refused(call, BAD, () -> allInCell(own), x -> x.copy(machine, asked));
            } else if (allInCell(own).copy(machine, cell) < 0) {
                report(call + " is refused");
            }
        }
    }

    private static void saved() {
        promise = 19;
        within("saved(v)", 0, 200, (x, v) -> x.saved(v));
    }

    private static void way() {
        promise = 20;
        for (int order = 0; order < 256; order++) {
            int a = order >> 6, b = order >> 4 & 3, c = order >> 2 & 3, d = order & 3;
            String call = "way(" + a + ", " + b + ", " + c + ", " + d + ")";
            if (a == b || a == c || a == d || b == c || b == d || c == d) {
                bad(call + ": not each once", x -> x.way(a, b, c, d));
            } else if (busy().way(a, b, c, d) < 0) {
                report(call + " is refused");
            }
        }
        int[] outside = {-1, 4, 5, 6, 7, 8, -4, -2, 1 << 16, 1 << 30, Integer.MIN_VALUE, Integer.MIN_VALUE + 2, Integer.MAX_VALUE};
        for (int v : outside) {
            bad("way(" + v + ", 1, 2, 3)", x -> x.way(v, 1, 2, 3));
            bad("way(0, " + v + ", 2, 3)", x -> x.way(0, v, 2, 3));
            bad("way(0, 1, " + v + ", 3)", x -> x.way(0, 1, v, 3));
            bad("way(0, 1, 2, " + v + ")", x -> x.way(0, 1, 2, v));
        }
    }

    private static void floor() {
        promise = 21;
        within("floor(v)", 0, 4, (x, v) -> x.floor(v));
    }

    private static void keep() {
        promise = 22;
        within("keep(v)", 0, 3, (x, v) -> x.keep(v));
    }

    private static PartCells withSixYears() {
        PartCells x = busy();
        for (int year = 3; year <= 6; year++) {
            x.year(year);
        }
        return x;
    }

    private static void year() {
        promise = 23;
        within("year(v)", 0, 9, (x, v) -> x.year(v));
        for (int weight = 0; weight < 10; weight++) {
            int v = weight;
            refused("year(" + v + ") behind six", FULL, PartCellsRefusals::withSixYears, x -> x.year(v));
        }
        refused("year(-1): BAD is ahead of FULL", BAD, PartCellsRefusals::withSixYears, x -> x.year(-1));
        refused("year(10): BAD is ahead of FULL", BAD, PartCellsRefusals::withSixYears, x -> x.year(10));
    }

    private static void change() {
        promise = 24;
        within("change(v)", 0, 50, (x, v) -> x.change(v));
    }

    private static PartCells withoutYears() {
        PartCells x = new PartCells();
        x.route(0, 0, 15);
        x.group(228);
        x.keep(2);
        x.loss(0);
        return x;
    }

    private static void plan() {
        promise = 25;
        refused("plan() without years", STATE, PartCellsRefusals::withoutYears, x -> x.plan());
    }

    private static void count() {
        promise = 26;
        within("count(v)", 0, 4, (x, v) -> x.count(v));
    }

    // ---- questions

    private static void question(int ofPromise, String call, ToLongFunction<PartCells> asked) {
        promise = ofPromise;
        if (asked.applyAsLong(busy()) < 0) {
            report(call + " is refused");
        }
        unchanged(call, PartCellsRefusals::busy, asked);
    }

    /** A question changes as little as a refused call; of loss() THE TRACE tells. */
    private static void questions() {
        question(8, "about(2, 0)", x -> x.about(2, 0));
        question(10, "best(2, 2, 0)", x -> x.best(2, 2, 0));
        question(10, "best(0, 7, 1)", x -> x.best(0, 7, 1));
        question(11, "plain()", x -> x.plain());
        question(12, "like(0, 4, 1)", x -> x.like(0, 4, 1));
        question(13, "join(3, 2)", x -> x.join(3, 2));
        question(15, "load(4)", x -> x.load(4));
        question(16, "routes(0)", x -> x.routes(0));
        question(16, "routes(1)", x -> x.routes(1));
        question(18, "copy(0, 0)", x -> x.copy(0, 0));
        question(19, "saved(200)", x -> x.saved(200));
        question(20, "way(3, 1, 0, 2)", x -> x.way(3, 1, 0, 2));
        question(21, "floor(0)", x -> x.floor(0));
        question(21, "floor(4)", x -> x.floor(4));
        question(25, "plan()", x -> x.plan());
        question(26, "count(4)", x -> x.count(4));
        question(27, "trace()", x -> x.trace());
    }
}
