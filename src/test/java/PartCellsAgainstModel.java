import java.util.ArrayList;
import java.util.Arrays;
import java.util.Collections;
import java.util.List;
import java.util.Random;
import java.util.TreeSet;

/** Long runs of calls, drawn from fixed seeds, against a slow model that follows the document word by word. */
public final class PartCellsAgainstModel {
    private static final int RUNS = 200;
    private static final int CALLS = 512;
    private static final String[] NAMES = {"works", "route", "goes", "pieces", "cell", "group", "about", "loss", "best", "plain",
        "like", "join", "bears", "load", "routes", "price", "copy", "saved", "way", "floor", "keep", "year", "change", "plan",
        "count", "trace"};
    /** The greatest of each argument; now and then one beyond it, or -1, is drawn. */
    private static final int[][] ENDS = {{7, 8}, {7, 1, 127}, {7, 1}, {7, 9}, {6, 3}, {16383}, {7, 5}, {2}, {2, 7, 1}, {},
        {6, 6, 1}, {5, 3}, {6, 99}, {6}, {1}, {6, 50}, {6, 3}, {200}, {3, 3, 3, 3}, {4}, {3}, {9}, {50}, {}, {4}, {}};
    private static final int[] WEIGHTS = {1, 30, 12, 10, 20, 10, 30, 8, 4, 6, 10, 10, 12, 8, 8, 8, 14, 8, 8, 8, 8, 3, 3, 8, 6, 6};

    public static void main(String[] args) {
        int wrong = 0;
        for (int seed = 1; seed <= RUNS && wrong < 5; seed++) {
            wrong += run(seed);
        }
        System.out.println(wrong == 0 ? "all answers are as due" : wrong + " runs went wrong");
        if (wrong != 0) {
            System.exit(1);
        }
    }

    private static int run(int seed) {
        Random random = new Random(seed);
        PartCells x = new PartCells();
        Model model = new Model();
        for (int call = 0; call < CALLS; call++) {
            int which = call == 0 && random.nextInt(4) > 0 ? 0 : drawCall(random);
            int[] a = drawArguments(random, which, model);
            long got = ask(x, which, a);
            long want = model.ask(which, a);
            if (got != want) {
                System.out.println("seed " + seed + ", call " + call + ": " + NAMES[which] + Arrays.toString(a)
                    + " answered " + got + ", due is " + want);
                return 1;
            }
        }
        return 0;
    }

    private static int drawCall(Random random) {
        int sum = 0;
        for (int weight : WEIGHTS) {
            sum += weight;
        }
        int left = random.nextInt(sum);
        int which = 0;
        while (left >= WEIGHTS[which]) {
            left -= WEIGHTS[which++];
        }
        return which;
    }

    private static int[] drawArguments(Random random, int which, Model model) {
        int[] ends = ENDS[which].clone();
        int[] a = new int[4];
        if (NAMES[which].equals("way") && random.nextInt(4) > 0) {
            List<Integer> order = new ArrayList<>(List.of(0, 1, 2, 3));
            Collections.shuffle(order, random);
            for (int i = 0; i < 4; i++) {
                a[i] = order.get(i);
            }
            return a;
        }
        if (random.nextInt(8) > 0) {
            tighten(ends, which, model);
        }
        for (int i = 0; i < ends.length; i++) {
            a[i] = random.nextInt(20) == 0 ? (random.nextBoolean() ? -1 : ends[i] + 1) : random.nextInt(ends[i] + 1);
        }
        // a machine that bears little makes some choices of routes wrong
        if (NAMES[which].equals("bears") && random.nextInt(3) > 0) {
            a[1] = random.nextInt(25);
        }
        return a;
    }

    /** Brings the ends down to the machines and parts there are, so that most calls are no BAD ones. */
    private static void tighten(int[] ends, int which, Model model) {
        int m = model.cells.length;
        int p = model.pieces.length;
        switch (NAMES[which]) {
            case "route": ends[0] = p - 1; ends[2] = (1 << m) - 1; break;
            case "goes": case "pieces": case "about": ends[0] = p - 1; break;
            case "cell": case "bears": case "load": case "price": case "copy": ends[0] = m - 1; break;
            case "group": ends[0] = (1 << 2 * m) - 1; break;
            case "like": ends[0] = m - 1; ends[1] = m - 1; break;
            case "join": ends[0] = Math.max(0, m - 2); break;
            default:
        }
    }

    private static long ask(PartCells x, int which, int[] a) {
        switch (NAMES[which]) {
            case "works": return x.works(a[0], a[1]);
            case "route": return x.route(a[0], a[1], a[2]);
            case "goes": return x.goes(a[0], a[1]);
            case "pieces": return x.pieces(a[0], a[1]);
            case "cell": return x.cell(a[0], a[1]);
            case "group": return x.group(a[0]);
            case "about": return x.about(a[0], a[1]);
            case "loss": return x.loss(a[0]);
            case "best": return x.best(a[0], a[1], a[2]);
            case "plain": return x.plain();
            case "like": return x.like(a[0], a[1], a[2]);
            case "join": return x.join(a[0], a[1]);
            case "bears": return x.bears(a[0], a[1]);
            case "load": return x.load(a[0]);
            case "routes": return x.routes(a[0]);
            case "price": return x.price(a[0], a[1]);
            case "copy": return x.copy(a[0], a[1]);
            case "saved": return x.saved(a[0]);
            case "way": return x.way(a[0], a[1], a[2], a[3]);
            case "floor": return x.floor(a[0]);
            case "keep": return x.keep(a[0]);
            case "year": return x.year(a[0]);
            case "change": return x.change(a[0]);
            case "plan": return x.plan();
            case "count": return x.count(a[0]);
            default: return x.trace();
        }
    }

    private static final class Model {
        List<List<TreeSet<Integer>>> routes;
        int[] cells, by, pieces, bears, price;
        int[][] shelves;
        final List<Integer> weights = new ArrayList<>();
        int change = 5;
        long trace = 0;

        Model() {
            begin(4, 4);
        }

        void begin(int m, int p) {
            cells = new int[m];
            routes = new ArrayList<>();
            for (int part = 0; part < p; part++) {
                routes.add(new ArrayList<>(List.of(new TreeSet<>(), new TreeSet<>())));
            }
            by = new int[p];
            pieces = new int[p];
            Arrays.fill(pieces, 1);
            bears = new int[m];
            Arrays.fill(bears, 99);
            price = new int[m];
            Arrays.fill(price, 10);
            shelves = new int[4][m];
        }

        long ask(int which, int[] a) {
            int m = cells.length;
            int p = pieces.length;
            int was;
            switch (NAMES[which]) {
                case "works":
                    if (a[0] < 1 || a[0] > 7 || a[1] < 1 || a[1] > 8) return -1;
                    begin(a[0], a[1]);
                    return m;
                case "route":
                    if (out(a[0], p) || out(a[1], 2) || a[2] < 0 || a[2] >= Math.pow(2, m)) return -1;
                    was = bits(routes.get(a[0]).get(a[1]));
                    TreeSet<Integer> set = new TreeSet<>();
                    for (int machine = 0; machine < m; machine++) if ((a[2] / (int) Math.pow(2, machine)) % 2 == 1) set.add(machine);
                    routes.get(a[0]).set(a[1], set);
                    return was;
                case "goes":
                    if (out(a[0], p) || out(a[1], 2)) return -1;
                    was = by[a[0]];
                    by[a[0]] = a[1];
                    return was;
                case "pieces":
                    if (out(a[0], p) || a[1] < 1 || a[1] > 9) return -1;
                    was = pieces[a[0]];
                    pieces[a[0]] = a[1];
                    return was;
                case "cell":
                    if (out(a[0], m) || out(a[1], 4)) return -1;
                    was = cells[a[0]];
                    cells[a[0]] = a[1];
                    return was;
                case "group":
                    if (a[0] < 0 || a[0] >= Math.pow(4, m)) return -1;
                    was = number(cells);
                    cells = spread(a[0], m);
                    return was;
                case "about": return out(a[0], p) || out(a[1], 6) ? -1 : about(a[0], a[1]);
                case "loss":
                    if (out(a[0], 3)) return -1;
                    for (int kind = 0; kind <= a[0]; kind++) trace += (long) Math.pow(10, kind);
                    return loss(cells, a[0]);
                case "best":
                    if (out(a[0], 3) || a[1] < 1 || a[1] > 7 || out(a[2], 2)) return -1;
                    return best(a[0], a[1], a[2]);
                case "plain": return plain(cells) ? 1 : 0;
                case "like":
                    if (out(a[0], m) || out(a[1], m) || a[0] == a[1] || out(a[2], 2)) return -1;
                    return likeness(a[0], a[1])[a[2]];
                case "join": return a[0] < 0 || a[0] > m - 2 || out(a[1], 4) ? -1 : join(a[0])[a[1]];
                case "bears":
                    if (out(a[0], m) || out(a[1], 100)) return -1;
                    was = bears[a[0]];
                    bears[a[0]] = a[1];
                    return was;
                case "load": return out(a[0], m) ? -1 : load(a[0]);
                default: return askMore(NAMES[which], a, m);
            }
        }

        long askMore(String name, int[] a, int m) {
            int was;
            switch (name) {
                case "routes": return out(a[0], 2) ? -1 : bestRoutes(a[0]);
                case "price":
                    if (out(a[0], m) || a[1] < 1 || a[1] > 50) return -1;
                    was = price[a[0]];
                    price[a[0]] = a[1];
                    return was;
                case "copy": return out(a[0], m) || out(a[1], 4) || cells[a[0]] == a[1] ? -1 : copy(a[0], a[1]);
                case "saved": return out(a[0], 201) ? -1 : saved(a[0]);
                case "way":
                    TreeSet<Integer> seen = new TreeSet<>(List.of(0, 1, 2, 3));
                    for (int cell : a) seen.remove(cell);
                    return seen.isEmpty() ? way(a) : -1;
                case "floor": return out(a[0], 5) ? -1 : floor()[a[0]];
                case "keep":
                    if (out(a[0], 4)) return -1;
                    shelves[a[0]] = cells.clone();
                    return number(cells);
                case "year":
                    if (out(a[0], 10)) return -1;
                    if (weights.size() == 6) return -3;
                    weights.add(a[0]);
                    return weights.size();
                case "change":
                    if (out(a[0], 51)) return -1;
                    was = change;
                    change = a[0];
                    return was;
                case "plan": return weights.isEmpty() ? -2 : plan(0, new int[weights.size()], shelfLosses());
                case "count":
                    int[] told = {m, pieces.length, number(cells), weights.size(), number(shelves[0])};
                    return out(a[0], 5) ? -1 : told[a[0]];
                default: return trace;
            }
        }

        static boolean out(int v, int end) {
            return v < 0 || v >= end;
        }

        static int bits(TreeSet<Integer> set) {
            int sum = 0;
            for (int machine : set) sum += (int) Math.pow(2, machine);
            return sum;
        }

        static int number(int[] grouping) {
            int sum = 0;
            for (int k = 0; k < grouping.length; k++) sum += grouping[k] * (int) Math.pow(4, k);
            return sum;
        }

        static int[] spread(int number, int m) {
            int[] grouping = new int[m];
            for (int k = 0; k < m; k++) {
                grouping[k] = number % 4;
                number /= 4;
            }
            return grouping;
        }

        TreeSet<Integer> routeOf(int part) {
            return routes.get(part).get(by[part]);
        }

        int home(int part, int[] grouping) {
            int[] in = new int[4];
            for (int machine : routeOf(part)) in[grouping[machine]]++;
            int home = 3;
            for (int cell = 3; cell >= 0; cell--) if (in[cell] >= in[home]) home = cell;
            return home;
        }

        int wanders(int part, int[] grouping) {
            int sum = 0;
            for (int machine : routeOf(part)) if (grouping[machine] != home(part, grouping)) sum++;
            return sum;
        }

        int idle(int part, int[] grouping) {
            int sum = 0;
            for (int machine = 0; machine < grouping.length; machine++)
                if (grouping[machine] == home(part, grouping) && !routeOf(part).contains(machine)) sum++;
            return sum;
        }

        int about(int part, int what) {
            int[] told = {home(part, cells), wanders(part, cells), idle(part, cells), pieces[part], by[part], bits(routeOf(part))};
            return told[what];
        }

        int loss(int[] grouping, int kind) {
            if (kind == 0) {
                int sum = 0;
                for (int part = 0; part < pieces.length; part++) sum += wanders(part, grouping) * pieces[part];
                return sum;
            }
            int sum = loss(grouping, kind - 1);
            if (kind == 1) {
                for (int part = 0; part < pieces.length; part++) sum += idle(part, grouping);
                return sum;
            }
            int[] in = new int[4];
            for (int cell : grouping) in[cell]++;
            for (int size : in) sum += size * size;
            return sum;
        }

        /** By the document's words: the first machines of cells, an empty cell's taken as behind all. */
        static boolean plain(int[] grouping) {
            if (grouping[0] != 0) return false;
            int[] first = {99, 99, 99, 99};
            for (int machine = grouping.length - 1; machine >= 0; machine--) first[grouping[machine]] = machine;
            for (int cell = 1; cell < 4; cell++)
                if (first[cell] != 99 && first[cell] < first[cell - 1] || first[cell] != 99 && first[cell - 1] == 99) return false;
            return true;
        }

        int best(int kind, int most, int what) {
            if (4 * most < cells.length) return -2;
            int least = -1;
            int leastNumber = -1;
            for (int number = (int) Math.pow(4, cells.length) - 1; number >= 0; number--) {
                int[] grouping = spread(number, cells.length);
                int[] in = new int[4];
                for (int cell : grouping) in[cell]++;
                if (!plain(grouping) || Arrays.stream(in).max().getAsInt() > most) continue;
                int found = loss(grouping, kind);
                if (leastNumber < 0 || found <= least) {
                    least = found;
                    leastNumber = number;
                }
            }
            return what == 0 ? leastNumber : least;
        }

        int[] likeness(int one, int other) {
            int both = 0;
            int either = 0;
            for (int part = 0; part < pieces.length; part++) {
                int has = (routeOf(part).contains(one) ? 1 : 0) + (routeOf(part).contains(other) ? 1 : 0);
                if (has == 2) both++;
                if (has > 0) either++;
            }
            return new int[] {both, either == 0 ? 1 : either};
        }

        int[] join(int i) {
            List<TreeSet<Integer>> heaps = new ArrayList<>();
            for (int machine = 0; machine < cells.length; machine++) heaps.add(new TreeSet<>(List.of(machine)));
            int[] told = null;
            for (int step = 0; step <= i; step++) {
                List<int[]> pairs = new ArrayList<>();
                for (TreeSet<Integer> first : heaps)
                    for (TreeSet<Integer> second : heaps)
                        for (int one : first)
                            for (int other : second) {
                                if (first.first() >= second.first()) continue;
                                int[] like = likeness(one, other);
                                // 840 is divided by 1 .. 8
                                pairs.add(new int[] {-like[0] * (840 / like[1]), first.first(), second.first(), one, other, like[0], like[1]});
                            }
                pairs.sort(Arrays::compare);
                int[] pair = pairs.get(0);
                told = new int[] {pair[1], pair[2], pair[5], pair[6]};
                TreeSet<Integer> gone = null;
                for (TreeSet<Integer> heap : heaps) if (heap.first() == pair[2]) gone = heap;
                heaps.remove(gone);
                for (TreeSet<Integer> heap : heaps) if (heap.first() == pair[1]) heap.addAll(gone);
            }
            return told;
        }

        int load(int machine) {
            int sum = 0;
            for (int part = 0; part < pieces.length; part++) if (routeOf(part).contains(machine)) sum += pieces[part];
            return sum;
        }

        int bestRoutes(int what) {
            int[] kept = by;
            int least = -1;
            int leastChoice = -1;
            for (int choice = 0; choice < Math.pow(2, pieces.length); choice++) {
                by = new int[pieces.length];
                for (int part = 0; part < pieces.length; part++) by[part] = choice / (int) Math.pow(2, part) % 2;
                boolean right = true;
                for (int machine = 0; machine < cells.length; machine++) if (load(machine) > bears[machine]) right = false;
                if (right && (leastChoice < 0 || loss(cells, 0) < least)) {
                    least = loss(cells, 0);
                    leastChoice = choice;
                }
            }
            by = kept;
            return leastChoice < 0 ? -2 : what == 0 ? leastChoice : least;
        }

        int copy(int machine, int cell) {
            int sum = 0;
            for (int part = 0; part < pieces.length; part++)
                if (home(part, cells) == cell && routeOf(part).contains(machine)) sum += pieces[part];
            return sum;
        }

        int saved(int purse) {
            List<int[]> offers = new ArrayList<>();
            for (int machine = 0; machine < cells.length; machine++)
                for (int cell = 0; cell < 4; cell++)
                    if (cells[machine] != cell && copy(machine, cell) > 0) offers.add(new int[] {price[machine], copy(machine, cell)});
            return buy(offers, 0, purse);
        }

        static int buy(List<int[]> offers, int at, int purse) {
            if (at == offers.size()) return 0;
            int without = buy(offers, at + 1, purse);
            int cost = offers.get(at)[0];
            return cost > purse ? without : Math.max(without, offers.get(at)[1] + buy(offers, at + 1, purse - cost));
        }

        int way(int[] order) {
            int[] place = new int[4];
            for (int at = 0; at < 4; at++) place[order[at]] = at;
            int sum = 0;
            for (int part = 0; part < pieces.length; part++)
                for (int machine : routeOf(part))
                    if (cells[machine] != home(part, cells))
                        sum += pieces[part] * Math.abs(place[home(part, cells)] - place[cells[machine]]);
            return sum;
        }

        int[] floor() {
            int[] told = null;
            for (int a = 0; a < 4; a++)
                for (int b = 0; b < 4; b++)
                    for (int c = 0; c < 4; c++) {
                        if (a == b || a == c || b == c) continue;
                        int[] order = {a, b, c, 6 - a - b - c};
                        if (told == null || way(order) < told[4]) told = new int[] {a, b, c, 6 - a - b - c, way(order)};
                    }
            return told;
        }

        int plan(int year, int[] chosen, int[] lost) {
            if (year < chosen.length) {
                int least = -1;
                for (int shelf = 0; shelf < 4; shelf++) {
                    chosen[year] = shelf;
                    int found = plan(year + 1, chosen, lost);
                    if (least < 0 || found < least) least = found;
                }
                return least;
            }
            int sum = 0;
            for (int y = 0; y < chosen.length; y++) {
                int[] now = shelves[chosen[y]];
                sum += weights.get(y) * lost[chosen[y]];
                for (int machine = 0; y > 0 && machine < now.length; machine++)
                    if (now[machine] != shelves[chosen[y - 1]][machine]) sum += change;
            }
            return sum;
        }

        int[] shelfLosses() {
            int[] lost = new int[4];
            for (int shelf = 0; shelf < 4; shelf++) lost[shelf] = loss(shelves[shelf], 0);
            return lost;
        }
    }
}
