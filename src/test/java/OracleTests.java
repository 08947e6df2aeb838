import java.util.ArrayList;
import java.util.Arrays;
import java.util.List;

/** Many small houses, each question answered a second time in the plainest way: by all arrangements there are. */
public final class OracleTests {
    private static final int NONE = -1;
    private static final int FAR = 1 << 20;
    private static int wrong = 0;
    private static int asked = 0;
    private static long seed = 20260101;

    // the house as the oracle has it
    private static int rooms;
    private static int things;
    private static int[] size;
    private static int[][] door;
    private static int[] bulk;
    private static int[] girth;
    private static int[] weight;
    private static int[] where;
    private static int[] sets;
    private static int[][] worth;
    private static int[][][] steps;
    private static String told;
    private static List<int[]> lawful;

    private static SetsStayTogether x;

    public static void main(String[] args) {
        for (int n = 0; n < 900; n++) {
            makeHouse(n);
            askArrangements();
            askRooms();
            askSales();
            askWays();
            askClumps();
            askAims();
        }
        for (int n = 0; n < 3000; n++) {
            askRule();
        }
        System.out.println(asked + " answers asked, " + wrong + " wrong");
        if (wrong != 0) {
            System.exit(1);
        }
    }

    private static int any(int bound) {
        seed = seed * 6364136223846793005L + 1442695040888963407L;
        return (int) ((seed >>> 33) % bound);
    }

    private static void due(String what, int got, int want, int... row) {
        asked++;
        boolean bad = got != want;
        if (row != null && !bad) {
            bad = x.count(9) != row.length;
            for (int i = 0; i < row.length && !bad; i++) {
                bad = x.row(i) != row[i];
            }
        }
        if (bad && wrong++ < 40) {
            StringBuilder have = new StringBuilder();
            for (int i = 0; i < x.count(9); i++) {
                have.append(' ').append(x.row(i));
            }
            System.out.println(told + " " + Arrays.toString(where) + ": " + what + " is " + got + have + ", due is " + want + " "
                    + Arrays.toString(row));
        }
    }

    private static void say(String text) {
        x.end(0);
        for (int i = 0; i < text.length(); i += 4) {
            int v = 0;
            for (int k = i; k < i + 4; k++) {
                v = v << 8 | (k < text.length() ? text.charAt(k) : 0);
            }
            x.sign(v);
        }
        x.end(text.length());
    }

    private static void tell(String line) {
        told += line + ";";
        say(line);
        if (x.house() != 1) {
            throw new IllegalStateException(told);
        }
    }

    private static void makeHouse(int n) {
        x = new SetsStayTogether();
        told = "";
        rooms = 1 + any(4);
        things = any(n % 3 == 0 ? 6 : 5);
        if (rooms == 4 && things > 4) {
            things = 4;
        }
        size = new int[rooms];
        door = new int[rooms][rooms];
        int tight = 3 + any(10);
        for (int r = 0; r < rooms; r++) {
            size[r] = 1 + any(tight + 6);
            tell("r" + size[r]);
        }
        int doors = any(6);
        for (int d = 0; d < doors; d++) {
            int a = any(rooms);
            int b = any(rooms);
            if (a != b) {
                door[a][b] = door[b][a] = 1 + any(4) * any(3);
                tell("d" + a + "-" + b + "=" + door[a][b]);
            }
        }
        bulk = new int[things];
        girth = new int[things];
        weight = new int[things];
        where = new int[things];
        for (int t = 0; t < things; t++) {
            bulk[t] = 1 + any(tight);
            girth[t] = 1 + any(2) * any(3);
            weight[t] = 1 + any(any(2) == 0 ? 2 : 9);
            where[t] = any(rooms);
            tell(bulk[t] + "," + girth[t] + "," + weight[t] + "@" + where[t]);
        }
        sets = new int[things == 0 ? 0 : any(4)];
        for (int s = 0; s < sets.length; s++) {
            makeSet(s);
        }
        makeWorth();
        makeSteps();
        lawful = listLawful(size, -1);
    }

    private static void makeSet(int s) {
        StringBuilder line = new StringBuilder("s");
        for (int t = 0; t < things; t++) {
            if (any(3) == 0) {
                sets[s] |= 1 << t;
            }
        }
        if (sets[s] == 0) {
            sets[s] = 1 << any(things);
        }
        for (int t = 0; t < things; t++) {
            if ((sets[s] >> t & 1) == 1) {
                line.append((char) ('a' + t));
            }
        }
        tell(line.toString());
    }

    private static void makeWorth() {
        String[] rules = {"", "b*r-3", "(z>9)*b-i*r+h", "d-k*r", "h*g", "0-b*(r=1)", "(r-1)*(i-2)", "7"};
        int rule = any(rules.length);
        say(rules[rule]);
        x.rule();
        worth = new int[things][rooms];
        for (int t = 0; t < things; t++) {
            int k = 0;
            for (int s : sets) {
                k += s >> t & 1;
            }
            for (int r = 0; r < rooms; r++) {
                int d = 0;
                for (int o = 0; o < rooms; o++) {
                    d += door[r][o] > 0 ? 1 : 0;
                }
                int h = where[t] == r ? 1 : 0;
                int[] values = {
                    0, bulk[t] * r - 3, (size[r] > 9 ? bulk[t] : 0) - t * r + h, d - k * r, h * weight[t], r == 1 ? -bulk[t] : 0,
                    (r - 1) * (t - 2), 7,
                };
                worth[t][r] = values[rule];
            }
        }
    }

    private static void makeSteps() {
        steps = stepsBy(door);
    }

    private static int[][][] stepsBy(int[][] doors) {
        int[][][] all = new int[10][rooms][rooms];
        for (int g = 1; g < 10; g++) {
            for (int[] line : all[g]) {
                Arrays.fill(line, FAR);
            }
            for (int a = 0; a < rooms; a++) {
                all[g][a][a] = 0;
                for (int b = 0; b < rooms; b++) {
                    if (a != b && doors[a][b] >= g) {
                        all[g][a][b] = 1;
                    }
                }
            }
            for (int k = 0; k < rooms; k++) {
                for (int a = 0; a < rooms; a++) {
                    for (int b = 0; b < rooms; b++) {
                        all[g][a][b] = Math.min(all[g][a][b], all[g][a][k] + all[g][k][b]);
                    }
                }
            }
        }
        return all;
    }

    private static int[] arrangement(int code, int many) {
        int[] a = new int[many];
        for (int t = many - 1; t >= 0; t--) {
            a[t] = code % rooms;
            code /= rooms;
        }
        return a;
    }

    private static int power() {
        int p = 1;
        for (int t = 0; t < things; t++) {
            p *= rooms;
        }
        return p;
    }

    /** Rising rows; THINGS told as bits are gone (-1: none). */
    private static List<int[]> listLawful(int[] sizes, int gone) {
        List<int[]> list = new ArrayList<>();
        int p = power();
        for (int code = 0; code < p; code++) {
            int[] a = arrangement(code, things);
            if (isLawful(a, sizes, gone < 0 ? 0 : gone)) {
                list.add(a);
            }
        }
        return list;
    }

    private static boolean isLawful(int[] a, int[] sizes, int gone) {
        int[] load = new int[rooms];
        for (int t = 0; t < things; t++) {
            load[a[t]] += (gone >> t & 1) == 1 ? 0 : bulk[t];
        }
        for (int r = 0; r < rooms; r++) {
            if (load[r] > sizes[r]) {
                return false;
            }
        }
        for (int s : sets) {
            if (isParted(s & ~gone, a)) {
                return false;
            }
        }
        return true;
    }

    private static boolean isParted(int set, int[] a) {
        for (int t = 0; t < things; t++) {
            for (int u = 0; u < things; u++) {
                if ((set >> t & set >> u & 1) == 1 && (set >> u & 1) == 1 && a[t] != a[u]) {
                    return true;
                }
            }
        }
        return false;
    }

    private static int cost(int[] from, int[] to) {
        int sum = 0;
        for (int t = 0; t < things; t++) {
            sum += steps[girth[t]][from[t]][to[t]] * weight[t];
        }
        return sum;
    }

    private static int loadOf(int[] a, int room) {
        int sum = 0;
        for (int t = 0; t < things; t++) {
            sum += a[t] == room ? bulk[t] : 0;
        }
        return sum;
    }

    private static int[] with(int first, int[] a) {
        int[] row = new int[a.length + 1];
        row[0] = first;
        System.arraycopy(a, 0, row, 1, a.length);
        return row;
    }

    private static int[] least(int room, int free) {
        int[] found = null;
        for (int[] a : lawful) {
            if (cost(where, a) < FAR && (room < 0 || size[room] - loadOf(a, room) >= free)
                    && (found == null || cost(where, a) < cost(where, found))) {
                found = a;
            }
        }
        return found;
    }

    private static void askNear(String what, int got, int[] want) {
        if (want == null) {
            due(what, got, -2, (int[]) null);
        } else {
            due(what, got, cost(where, want), want);
        }
    }

    private static void askArrangements() {
        int now = 0;
        for (int t = 0; t < things; t++) {
            now += worth[t][where[t]];
            due("thing", x.thing(t, 6), worth[t][where[t]], (int[]) null);
        }
        due("worth", x.worth(), now, (int[]) null);
        due("fits", x.fits(), lawful.size(), lawful.isEmpty() ? new int[0] : lawful.get(0));
        int[] best = null;
        int most = 0;
        for (int[] a : lawful) {
            int sum = 0;
            for (int t = 0; t < things; t++) {
                sum += worth[t][a[t]];
            }
            if (best == null || sum > most) {
                best = a;
                most = sum;
            }
        }
        due("best", x.best(), best == null ? -2 : 1, best == null ? null : with(most, best));
        askNear("near", x.near(), least(-1, 0));
        for (int n = 0; n < 4; n++) {
            int room = any(rooms);
            int free = any(size[room] + 2);
            askNear("guest " + room + " " + free, x.guest(room, free), least(room, free));
        }
        due("evening", x.evening(), isLawful(where, size, 0) ? 1 : 0, x.count(6), x.count(7));
        for (int s = 0; s < sets.length; s++) {
            due("parted", x.count(6) >> s & 1, isParted(sets[s], where) ? 1 : 0, (int[]) null);
        }
    }

    private static void askRooms() {
        int free = -1;
        int[] row = null;
        for (int r = 0; r < rooms; r++) {
            int[] full = null;
            for (int[] a : lawful) {
                if (size[r] - loadOf(a, r) > free) {
                    free = size[r] - loadOf(a, r);
                    row = with(r, a);
                }
                full = full == null || loadOf(a, r) > loadOf(full, r) ? a : full;
            }
            due("fullest " + r, x.fullest(r), full == null ? -2 : loadOf(full, r), full);
        }
        due("space", x.space(), row == null ? -2 : free, row);
        for (int t = 0; t < things; t++) {
            int clump = x.thing(t, 5);
            int bits = 0;
            int stays = 0;
            for (int[] a : lawful) {
                bits |= 1 << a[t];
                stays += a[t] == where[leastOf(clumpBits(t))] ? 1 : 0;
            }
            due("may " + clump, x.may(clump), bits, stays);
            for (int u = 0; u < things; u++) {
                int both = 0;
                for (int[] a : lawful) {
                    both += a[t] == a[u] ? 1 : 0;
                }
                due("together", x.together(t, u), t == u ? NONE : both, t == u ? null : new int[] {lawful.size()});
            }
        }
        askCould();
        for (int r = 0; r < rooms; r++) {
            for (int o = 0; o < rooms; o++) {
                askSwap(r, o);
            }
        }
    }

    private static int leastOf(int bits) {
        return Integer.numberOfTrailingZeros(bits);
    }

    private static void askSwap(int one, int other) {
        if (one == other) {
            due("swap", x.swap(one, other), NONE, (int[]) null);
            return;
        }
        int[] a = where.clone();
        for (int t = 0; t < things; t++) {
            a[t] = a[t] == one ? other : a[t] == other ? one : a[t];
        }
        int sum = cost(where, a);
        due("swap", x.swap(one, other), isLawful(a, size, 0) ? 1 : 0, sum >= FAR ? NONE : sum);
    }

    private static void askCould() {
        for (int n = 0; n < 3; n++) {
            int inches = 1 + any(8);
            int in = any(1 << sets.length);
            int bits = 0;
            for (int[] a : lawful) {
                for (int r = 0; r < rooms; r++) {
                    boolean good = loadOf(a, r) + inches <= size[r];
                    for (int t = 0; t < things; t++) {
                        for (int s = 0; s < sets.length; s++) {
                            good &= (in >> s & sets[s] >> t & 1) == 0 || a[t] == r;
                        }
                    }
                    bits |= good ? 1 << r : 0;
                }
            }
            due("could " + inches + " " + in, x.could(inches, in), bits, (int[]) null);
        }
    }

    private static void askSales() {
        int sold = NONE;
        for (int gone = 0; gone < 1 << things; gone++) {
            boolean whole = true;
            for (int t = 0; t < things; t++) {
                int clump = clumpBits(t);
                whole &= (gone & clump) == 0 || (gone & clump) == clump;
            }
            if (whole && !listLawful(size, gone).isEmpty() && (sold == NONE || isLess(gone, sold))) {
                sold = gone;
            }
        }
        due("sell", x.sell(), Integer.bitCount(sold), sold);
        int fewest = lawful.isEmpty() ? 100 : 0;
        int room = NONE;
        for (int r = 0; r < rooms; r++) {
            for (int more = 1; more < fewest && more < 100; more++) {
                int[] sizes = size.clone();
                sizes[r] += more;
                if (!listLawful(sizes, -1).isEmpty()) {
                    fewest = more;
                    room = r;
                }
            }
        }
        due("build", x.build(), fewest == 100 ? -2 : fewest, fewest == 100 ? null : new int[] {room});
    }

    private static boolean isLess(int some, int others) {
        int[] a = {Integer.bitCount(some), bulkOf(some), some};
        int[] b = {Integer.bitCount(others), bulkOf(others), others};
        return Arrays.compare(a, b) < 0;
    }

    private static int bulkOf(int bits) {
        int sum = 0;
        for (int t = 0; t < things; t++) {
            sum += (bits >> t & 1) * bulk[t];
        }
        return sum;
    }

    private static void askWays() {
        for (int t = 0; t < things; t++) {
            for (int r = 0; r < rooms; r++) {
                int[] way = leastWay(where[t], r, girth[t], 0, new int[0]);
                due("way", x.way(t, r), way == null ? -2 : way.length, way);
            }
        }
        int stuck = 0;
        for (int t = 0; t < things; t++) {
            for (int r = 0; r < rooms; r++) {
                stuck |= steps[girth[t]][where[t]][r] >= FAR ? 1 << t : 0;
            }
        }
        due("stuck", x.stuck(), stuck, (int[]) null);
        for (int a = 0; a < rooms; a++) {
            for (int b = 0; b < rooms; b++) {
                int widest = 0;
                for (int g = 1; g < 10; g++) {
                    widest = steps[g][a][b] < FAR ? g : widest;
                }
                due("widest", x.widest(a, b), widest, (int[]) null);
            }
            askHinge(a);
        }
    }

    /** By all ways without a ROOM twice. */
    private static int[] leastWay(int from, int to, int g, int seen, int[] gone) {
        if (from == to) {
            return gone;
        }
        int[] best = null;
        for (int r = 0; r < rooms; r++) {
            if (r != from && door[from][r] >= g && (seen >> r & 1) == 0) {
                int[] further = Arrays.copyOf(gone, gone.length + 1);
                further[gone.length] = r;
                int[] way = leastWay(r, to, g, seen | 1 << from, further);
                if (way != null && (best == null || way.length < best.length
                        || way.length == best.length && Arrays.compare(way, best) < 0)) {
                    best = way;
                }
            }
        }
        return best;
    }

    private static void askHinge(int room) {
        int most = -1;
        int one = -2;
        int other = -2;
        for (int a = 0; a < rooms; a++) {
            for (int b = a + 1; b < rooms; b++) {
                if (door[a][b] > 0) {
                    int[][] doors = new int[rooms][];
                    for (int r = 0; r < rooms; r++) {
                        doors[r] = door[r].clone();
                    }
                    doors[a][b] = doors[b][a] = 9;
                    int[][][] by = stepsBy(doors);
                    int come = 0;
                    for (int t = 0; t < things; t++) {
                        come += by[girth[t]][where[t]][room] < FAR ? 1 : 0;
                    }
                    if (come > most) {
                        most = come;
                        one = a;
                        other = b;
                    }
                }
            }
        }
        due("hinge", x.hinge(room), one, most < 0 ? null : new int[] {other, most});
    }

    private static int clumpBits(int thing) {
        return clumpBits(thing, sets, (1 << things) - 1);
    }

    private static int clumpBits(int thing, int[] by, int some) {
        int bits = 1 << thing;
        for (int n = 0; n < things; n++) {
            for (int s : by) {
                bits |= (s & some & bits) != 0 ? s & some : 0;
            }
        }
        return bits;
    }

    private static int[] clumpsBy(int[] by, int some) {
        int[] all = new int[things];
        int n = 0;
        for (int t = 0; t < things; t++) {
            if ((some >> t & 1) == 1 && leastOf(clumpBits(t, by, some)) == t) {
                all[n++] = clumpBits(t, by, some);
            }
        }
        return Arrays.copyOf(all, n);
    }

    private static void askClumps() {
        int all = (1 << things) - 1;
        int[] clumps = clumpsBy(sets, all);
        due("clumps", x.clumps(), clumps.length, clumps);
        int heavy = -2;
        for (int c = 0; c < clumps.length; c++) {
            heavy = heavy < 0 || bulkOf(clumps[c]) > bulkOf(clumps[heavy]) ? c : heavy;
        }
        int fit = 0;
        for (int r = 0; r < rooms && heavy >= 0; r++) {
            fit |= size[r] >= bulkOf(clumps[heavy]) ? 1 << r : 0;
        }
        due("heaviest", x.heaviest(), heavy, heavy < 0 ? null : new int[] {bulkOf(clumps[heavy]), fit});
        for (int t = 0; t < things; t++) {
            int empty = 0;
            for (int s = 0; s < sets.length; s++) {
                empty |= (sets[s] & ~(1 << t)) == 0 ? 1 << s : 0;
            }
            due("without", x.without(t), clumpsBy(sets, all & ~(1 << t)).length, empty);
        }
        int ties = 0;
        for (int s = 0; s < sets.length; s++) {
            int[] rest = sets.clone();
            rest[s] = 0;
            ties |= clumpsBy(rest, all).length > clumps.length ? 1 << s : 0;
        }
        due("ties", x.ties(), ties, (int[]) null);
    }

    private static void askAims() {
        if (things == 0) {
            return;
        }
        for (int n = 0; n < 4; n++) {
            int[] goal = lawful.isEmpty() || any(5) == 0 ? arrangement(any(power()), things) : lawful.get(any(lawful.size()));
            StringBuilder text = new StringBuilder();
            for (int r : goal) {
                text.append(r);
            }
            say(text.toString());
            due("aim", x.aim(), things, (int[]) null);
            int sum = cost(where, goal);
            due("apart " + text, x.apart(), sum >= FAR ? -2 : sum, sum >= FAR ? null : new int[] {isLawful(goal, size, 0) ? 1 : 0});
            askQueue(goal);
            int strength = 1 + any(12);
            x.strength(strength);
            int[] want = evenings(goal, strength);
            due("evenings " + text + " with " + strength, x.evenings(), want[0], want[0] < 0 ? null : Arrays.copyOfRange(want, 1, want.length));
            askWeakest(goal);
            x.strength(999);
            int next = any(3);
            if (next == 0 && !lawful.isEmpty()) {
                carryAll(lawful.get(any(lawful.size())));
            }
        }
    }

    private static void carryAll(int[] to) {
        for (int t = 0; t < things; t++) {
            if (steps[girth[t]][where[t]][to[t]] < FAR && x.carry(t, to[t]) >= 0) {
                where[t] = to[t];
            }
        }
        x.evening();
    }

    private static void askQueue(int[] goal) {
        for (int s : sets) {
            if (isParted(s, goal) || isParted(s, where)) {
                due("queue", x.queue(), -5, (int[]) null);
                return;
            }
        }
        int[] clumps = clumpsBy(sets, (1 << things) - 1);
        int moved = 0;
        for (int c = 0; c < clumps.length; c++) {
            moved |= goal[leastOf(clumps[c])] != where[leastOf(clumps[c])] ? 1 << c : 0;
        }
        int[] order = cost(where, goal) >= FAR ? null : leastOrder(clumps, moved, where, goal, new int[0]);
        due("queue", x.queue(), order == null ? -2 : order.length, order);
    }

    private static int[] leastOrder(int[] clumps, int left, int[] now, int[] goal, int[] gone) {
        if (left == 0) {
            return gone;
        }
        for (int c = 0; c < clumps.length; c++) {
            if ((left >> c & 1) == 1) {
                int[] then = now.clone();
                for (int t = 0; t < things; t++) {
                    then[t] = (clumps[c] >> t & 1) == 1 ? goal[t] : then[t];
                }
                if (isLawful(then, size, 0)) {
                    int[] further = Arrays.copyOf(gone, gone.length + 1);
                    further[gone.length] = c;
                    int[] order = leastOrder(clumps, left & ~(1 << c), then, goal, further);
                    if (order != null) {
                        return order;
                    }
                }
            }
        }
        return null;
    }

    /** Forward, evening by evening: for each LAWFUL one the least carried and the least row of all that lead there. */
    private static int[] evenings(int[] goal, int strength) {
        if (Arrays.equals(goal, where)) {
            return new int[] {0, 0};
        }
        if (lawful.size() > 300) {
            return new int[] {-3};
        }
        int[][] rows = new int[lawful.size()][];
        int[] sums = new int[lawful.size()];
        for (int i = 0; i < sums.length; i++) {
            int c = cost(where, lawful.get(i));
            if (c <= strength) {
                rows[i] = lawful.get(i);
                sums[i] = c;
            }
        }
        for (int night = 1; night <= sums.length; night++) {
            for (int i = 0; i < sums.length; i++) {
                if (rows[i] != null && Arrays.equals(lawful.get(i), goal)) {
                    int[] want = new int[things + 2];
                    want[0] = night;
                    want[1] = sums[i];
                    System.arraycopy(rows[i], 0, want, 2, things);
                    return want;
                }
            }
            int[][] nextRows = new int[sums.length][];
            int[] nextSums = new int[sums.length];
            for (int i = 0; i < sums.length; i++) {
                for (int j = 0; j < sums.length && rows[i] != null; j++) {
                    int c = cost(lawful.get(i), lawful.get(j));
                    if (c <= strength) {
                        int[] row = Arrays.copyOf(rows[i], rows[i].length + things);
                        System.arraycopy(lawful.get(j), 0, row, rows[i].length, things);
                        int s = sums[i] + c;
                        if (nextRows[j] == null || s < nextSums[j] || s == nextSums[j] && Arrays.compare(row, nextRows[j]) < 0) {
                            nextRows[j] = row;
                            nextSums[j] = s;
                        }
                    }
                }
            }
            if (night > 12) {
                return strength >= 999 ? new int[] {-2} : isReached(goal, strength) ? new int[] {-99} : new int[] {-2};
            }
            rows = nextRows;
            sums = nextSums;
        }
        return new int[] {-2};
    }

    private static boolean isReached(int[] goal, int strength) {
        boolean[] seen = new boolean[lawful.size()];
        for (int i = 0; i < seen.length; i++) {
            seen[i] = cost(where, lawful.get(i)) <= strength;
        }
        for (int n = 0; n < seen.length; n++) {
            for (int i = 0; i < seen.length; i++) {
                for (int j = 0; j < seen.length && seen[i]; j++) {
                    seen[j] |= cost(lawful.get(i), lawful.get(j)) <= strength;
                }
            }
        }
        for (int i = 0; i < seen.length; i++) {
            if (seen[i] && Arrays.equals(lawful.get(i), goal)) {
                return true;
            }
        }
        return false;
    }

    private static void askWeakest(int[] goal) {
        int got = x.weakest();
        if (Arrays.equals(goal, where)) {
            due("weakest", got, 0, 0);
        } else if (lawful.size() > 300) {
            due("weakest", got, -3, (int[]) null);
        } else if (got == -2) {
            due("weakest", isReached(goal, 999) ? 1 : 0, 0, (int[]) null);
        } else {
            due("weakest reaches", got > 0 && isReached(goal, got) ? 1 : 0, 1, (int[]) null);
            due("less does not", isReached(goal, got - 1) ? 1 : 0, 0, (int[]) null);
            due("weakest", got, got, evenings(goal, got)[0]);
        }
    }

    // ---- the rule, made from its parts

    private static String text;

    private static void askRule() {
        x = new SetsStayTogether();
        rooms = 0;
        where = null;
        told = "";
        tell("r17");
        tell("r9");
        tell("d0-1=4");
        tell("23,2,8@1");
        tell("5,7,3@1");
        tell("sb");
        int value;
        do {
            value = compared(0, 3);
        } while (text.length() > 40);
        told = text;
        say(text);
        due("rule", x.rule(), 0, (int[]) null);
        due("value", x.thing(1, 6), Math.max(-999, Math.min(999, value)), (int[]) null);
        int cut = 1 + any(text.length());
        String spoilt = text.substring(0, cut - 1) + "?" + text.substring(cut);
        told = spoilt;
        say(spoilt);
        due("spoilt", x.rule(), -cut, (int[]) null);
    }

    private static int compared(int depth, int much) {
        int left = summed(depth, much);
        String before = text;
        int kind = any(6);
        if (kind > 2) {
            return left;
        }
        int right = summed(depth, much);
        text = before + "<>=".charAt(kind) + text;
        return (kind == 0 ? left < right : kind == 1 ? left > right : left == right) ? 1 : 0;
    }

    private static int summed(int depth, int much) {
        int sum = multiplied(depth, much);
        for (int n = any(much); n > 0; n--) {
            String before = text;
            boolean plus = any(2) == 0;
            int next = multiplied(depth, much);
            text = before + (plus ? "+" : "-") + text;
            sum = plus ? sum + next : sum - next;
        }
        return sum;
    }

    private static int multiplied(int depth, int much) {
        int product = negated(depth, much);
        for (int n = any(much); n > 0; n--) {
            String before = text;
            boolean times = any(3) > 0;
            int next = negated(depth, much);
            text = before + (times ? "*" : "/") + text;
            product = times ? product * next : next == 0 ? 0 : product / next;
        }
        return product;
    }

    private static int negated(int depth, int much) {
        int minus = Math.max(0, any(5) - 2);
        int value;
        int kind = any(6);
        if (kind < 2) {
            value = any(kind == 0 ? 10 : 1000);
            text = "" + value;
        } else if (kind < 5 || depth == 4) {
            int[] values = {1, 5, 7, 3, 1, 1, 9, 1, 1};
            int letter = any(values.length);
            value = values[letter];
            text = "" + "ibwgkrzdh".charAt(letter);
        } else {
            value = compared(depth + 1, Math.max(1, much - 1));
            text = "(" + text + ")";
        }
        for (int n = 0; n < minus; n++) {
            text = "-" + text;
            value = -value;
        }
        return value;
    }
}
