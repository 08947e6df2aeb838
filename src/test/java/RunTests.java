import java.util.ArrayList;
import java.util.List;

/** Random runs of the calls that change something: all that is kept is written a second time, in a plain book. */
public final class RunTests extends Asking {
    private static final int FAR = 1 << 20;
    private static long seed = 4711;

    // the book
    private static StringBuilder text;
    private static List<Integer> sizes;
    private static int[][] doors;
    /** BULK, WIDTH, WEIGHT, ROOM of each THING. */
    private static List<int[]> things;
    private static List<Integer> sets;
    private static int days;
    private static int carried;
    private static int strength;
    /** THING, its ROOM and CARRIED ahead of each carrying. */
    private static List<int[]> past;
    /** DAYS, CARRIED, how many ROOMS and THINGS there were, the ROOMS of THINGS. */
    private static int[][] kept;
    private static int[] row;

    public static void main(String[] args) {
        for (int run = 0; run < 600; run++) {
            says("run " + run);
            begin();
            for (int n = 0; n < 40; n++) {
                // each fourth run has so many carryings that the first of them are forgotten
                call(run % 4 == 0 && any(5) > 0 ? 6 : any(18));
                look();
            }
        }
        finish();
    }

    private static int any(int bound) {
        seed = seed * 6364136223846793005L + 1442695040888963407L;
        return (int) ((seed >>> 33) % bound);
    }

    /** One of what there is, now and then one that is not there. */
    private static int some(int many) {
        return any(8) == 0 || many == 0 ? any(12) - 1 : any(many);
    }

    private static void begin() {
        x = new SetsStayTogether();
        text = new StringBuilder();
        sizes = new ArrayList<>();
        doors = new int[6][6];
        things = new ArrayList<>();
        sets = new ArrayList<>();
        days = 0;
        carried = 0;
        strength = 999;
        past = new ArrayList<>();
        kept = new int[2][];
        row = new int[0];
        for (int n = 2 + any(4); n > 0; n--) {
            askHouse();
        }
    }

    private static void call(int kind) {
        switch (kind) {
            case 0 -> askSign(any(1 << 30) * 4 + any(4));
            case 1 -> askEnd(any(2) == 0 ? any(9) - 1 : text.length() - any(6) + 2);
            case 2 -> askHouse();
            case 3 -> askWiden(some(sizes.size()), some(sizes.size()), any(12) - 1);
            case 4 -> askStrength(any(3) == 0 ? any(1100) - 50 : any(3) == 0 ? 999 : 1 + any(40));
            case 5 -> askSheet(any(6) - 1, any(14) - 2, any(400) - 200, any(300) - 20);
            case 6, 7, 8, 9 -> askCarry(some(things.size()), some(sizes.size()));
            case 10 -> askEvening();
            case 11 -> askDay();
            case 12, 13 -> askUndo();
            case 14 -> askJudge(any(7) - 1);
            case 15 -> askBreaks(any(4) == 0 ? some(things.size()) : NONE);
            case 16 -> askKeep(any(4) - 1);
            default -> askAgain(any(4) - 1);
        }
    }

    // ---- texts

    private static void askSign(int v) {
        boolean full = text.length() > 76;
        if (!full) {
            for (int shift = 24; shift >= 0; shift -= 8) {
                text.append((char) (v >> shift & 255));
            }
        }
        is("sign", x.sign(v), full ? NONE : text.length());
    }

    private static void askEnd(int n) {
        boolean can = n >= 0 && n <= text.length();
        if (can) {
            text.setLength(n);
        }
        is("end", x.end(n), can);
    }

    private static void tell(String what) {
        say(what);
        text.setLength(0);
    }

    private static void askHouse() {
        List<String> lines = new ArrayList<>();
        int roomsThen = sizes.size();
        for (int n = any(4); n > 0 && roomsThen < 6; n--, roomsThen++) {
            lines.add("r" + (1 + any(30)));
        }
        for (int n = any(5); n > 0 && roomsThen > 1; n--) {
            int one = any(roomsThen);
            lines.add("d" + one + "-" + (one + 1 + any(roomsThen - 1)) % roomsThen + "=" + (1 + any(9)));
        }
        int thingsThen = things.size();
        for (int n = any(4); n > 0 && thingsThen < 10 && roomsThen > 0; n--, thingsThen++) {
            lines.add((1 + any(15)) + "," + (1 + any(6)) + "," + (1 + any(9)) + "@" + any(roomsThen));
        }
        for (int n = any(3); n > 0 && thingsThen > 1 && sets.size() + n <= 8; n--) {
            int one = any(thingsThen - 1);
            lines.add("s" + (char) ('a' + one) + (char) ('a' + one + 1 + any(thingsThen - 1 - one)));
        }
        String told = String.join(";", lines);
        boolean spoilt = any(5) == 0;
        tell(spoilt ? told + (told.isEmpty() ? "?" : ";?") : told);
        is("house " + told, x.house(), !spoilt ? lines.size() : told.isEmpty() ? -1 : -2 - told.length());
        if (!spoilt && !lines.isEmpty()) {
            lines.forEach(RunTests::write);
            past.clear();
        }
    }

    private static void write(String line) {
        char first = line.charAt(0);
        if (first == 'r') {
            sizes.add(Integer.parseInt(line.substring(1)));
        } else if (first == 'd') {
            int one = line.charAt(1) - '0';
            int other = line.charAt(3) - '0';
            doors[one][other] = line.charAt(5) - '0';
            doors[other][one] = doors[one][other];
        } else if (first == 's') {
            sets.add(1 << line.charAt(1) - 'a' | 1 << line.charAt(2) - 'a');
        } else {
            String[] parts = line.split("[,@]");
            int[] thing = new int[4];
            for (int i = 0; i < 4; i++) {
                thing[i] = Integer.parseInt(parts[i]);
            }
            things.add(thing);
        }
    }

    // ---- the house

    private static boolean isRoom(int room) {
        return room >= 0 && room < sizes.size();
    }

    private static boolean isThing(int thing) {
        return thing >= 0 && thing < things.size();
    }

    private static void askWiden(int one, int other, int width) {
        int want = NONE;
        if (isRoom(one) && isRoom(other) && one != other && width >= 0 && width <= 9) {
            want = doors[one][other];
            doors[one][other] = width;
            doors[other][one] = width;
        }
        is("widen", x.widen(one, other, width), want);
    }

    private static void askStrength(int v) {
        int want = NONE;
        if (v >= 1 && v <= 999) {
            want = strength;
            strength = v;
        }
        is("strength", x.strength(v), want);
    }

    private static void askSheet(int kind, int n, int f, int step) {
        boolean other = kind < 0 || kind > 3 || n > 10;
        int sum = 0;
        for (int t = 0; t < things.size() && !other && (kind == 3 || n >= 0); t++) {
            int entry = f + t * step;
            int signed = kind == 0 ? (byte) entry : kind == 1 ? (short) entry : entry;
            things.get(t)[2] = kind == 3 || t >= n || signed < 1 ? 1 : signed > 9 ? 9 : signed;
            sum += things.get(t)[2];
        }
        is("sheet", x.sheet(kind, n, f, step), other ? NONE : kind == 3 ? -3 : n < 0 ? -2 : sum);
    }

    private static void askBreaks(int thing) {
        if (!isThing(thing)) {
            is("breaks", x.breaks(thing), NONE);
            return;
        }
        sets.replaceAll(bits -> bits & ~(1 << thing));
        boolean[] seen = new boolean[things.size()];
        int many = 0;
        for (int t = 0; t < seen.length; t++) {
            many += seen[t] ? 0 : 1;
            mark(t, seen);
        }
        is("breaks", x.breaks(thing), many);
    }

    private static void mark(int thing, boolean[] seen) {
        if (seen[thing]) {
            return;
        }
        seen[thing] = true;
        for (int bits : sets) {
            for (int t = 0; t < seen.length && (bits >> thing & 1) == 1; t++) {
                if ((bits >> t & 1) == 1) {
                    mark(t, seen);
                }
            }
        }
    }

    // ---- days

    private static int steps(int width, int from, int to) {
        int[] far = new int[sizes.size()];
        java.util.Arrays.fill(far, FAR);
        far[from] = 0;
        for (int n = 0; n < far.length; n++) {
            for (int a = 0; a < far.length; a++) {
                for (int b = 0; b < far.length; b++) {
                    if (doors[a][b] >= width) {
                        far[b] = Math.min(far[b], far[a] + 1);
                    }
                }
            }
        }
        return far[to];
    }

    /** What carry() has to answer; the book has it done then. */
    private static int carry(int thing, int room) {
        if (!isThing(thing) || !isRoom(room)) {
            return NONE;
        }
        int[] it = things.get(thing);
        int steps = steps(it[1], it[3], room);
        if (steps >= FAR) {
            return -2;
        }
        if (carried + steps * it[2] > strength) {
            return -3;
        }
        past.add(new int[] {thing, it[3], carried});
        if (past.size() > 20) {
            past.remove(0);
        }
        it[3] = room;
        carried += steps * it[2];
        return steps * it[2];
    }

    private static void takeBack() {
        int[] last = past.remove(past.size() - 1);
        things.get(last[0])[3] = last[1];
        carried = last[2];
    }

    private static int parted() {
        int parted = 0;
        for (int s = 0; s < sets.size(); s++) {
            int rooms = 0;
            for (int t = 0; t < things.size(); t++) {
                rooms |= (sets.get(s) >> t & 1) == 1 ? 1 << things.get(t)[3] : 0;
            }
            parted |= Integer.bitCount(rooms) > 1 ? 1 << s : 0;
        }
        return parted;
    }

    private static int full() {
        int full = 0;
        for (int r = 0; r < sizes.size(); r++) {
            full |= free(r) < 0 ? 1 << r : 0;
        }
        return full;
    }

    private static int free(int room) {
        int free = sizes.get(room);
        for (int[] thing : things) {
            free -= thing[3] == room ? thing[0] : 0;
        }
        return free;
    }

    private static int sleep() {
        if (parted() != 0 || full() != 0) {
            return 0;
        }
        days++;
        carried = 0;
        past.clear();
        return 1;
    }

    private static void askCarry(int thing, int room) {
        is("carry", x.carry(thing, room), carry(thing, room));
    }

    private static void askEvening() {
        row = new int[] {parted(), full()};
        is("evening", x.evening(), sleep());
    }

    private static void askDay() {
        StringBuilder told = new StringBuilder();
        for (int n = any(4); n > 0; n--) {
            told.append(told.length() == 0 ? "" : ";").append((char) ('a' + Math.max(0, Math.min(9, some(things.size())))));
            told.append('>').append(Math.max(0, Math.min(9, some(sizes.size()))));
        }
        boolean spoilt = any(6) == 0;
        tell(spoilt ? told + "!" : told.toString());
        if (spoilt) {
            is("day " + told, x.day(), -1 - told.length());
            return;
        }
        int many = (told.length() + 1) / 4;
        int done = 0;
        int sum = 0;
        for (int cost = 0; done < many && cost >= 0; done += cost < 0 ? 0 : 1) {
            cost = carry(told.charAt(4 * done) - 'a', told.charAt(4 * done + 2) - '0');
            sum += Math.max(0, cost);
        }
        row = new int[] {done < many ? NONE : sleep(), sum};
        is("day " + told, x.day(), done);
    }

    private static void askUndo() {
        if (past.isEmpty()) {
            is("undo", x.undo(), NONE);
            return;
        }
        takeBack();
        is("undo", x.undo(), past.size());
    }

    private static void askJudge(int n) {
        int told = any(1 << 28);
        for (int k = 0; k < n && any(5) > 0; k++) {
            told = told & ~(127 << 7 * k) | 10 * any(Math.max(1, things.size())) + any(Math.max(1, sizes.size())) << 7 * k;
        }
        is("judge", x.judge(n, told), n < 0 || n > 4 ? NONE : judge(n, told));
    }

    /** Done in the book, and then taken back. */
    private static int judge(int n, int told) {
        List<int[]> before = new ArrayList<>(past);
        past.clear();
        int done = 0;
        int sum = 0;
        int cost = 0;
        while (done < n && cost >= 0) {
            int code = told >> 7 * done & 127;
            cost = carry(code / 10, code % 10);
            sum += Math.max(0, cost);
            done += cost < 0 ? 0 : 1;
        }
        row = new int[] {sum, parted() == 0 && full() == 0 ? 1 : 0};
        while (!past.isEmpty()) {
            takeBack();
        }
        past.addAll(before);
        return done == n ? -2 : done;
    }

    // ---- kept

    private static void askKeep(int i) {
        boolean can = i == 0 || i == 1;
        if (can) {
            kept[i] = new int[4 + things.size()];
            kept[i][0] = days;
            kept[i][1] = carried;
            kept[i][2] = sizes.size();
            kept[i][3] = things.size();
            for (int t = 0; t < things.size(); t++) {
                kept[i][4 + t] = things.get(t)[3];
            }
        }
        is("keep", x.keep(i), can);
    }

    private static void askAgain(int i) {
        boolean can = (i == 0 || i == 1) && kept[i] != null && kept[i][2] == sizes.size() && kept[i][3] == things.size();
        if (can) {
            days = kept[i][0];
            carried = kept[i][1];
            for (int t = 0; t < things.size(); t++) {
                things.get(t)[3] = kept[i][4 + t];
            }
            past.clear();
        }
        is("again", x.again(i), can);
    }

    // ---- what is seen

    private static void look() {
        int many = 0;
        for (int r = 0; r < sizes.size(); r++) {
            int next = 0;
            for (int o = 0; o < sizes.size(); o++) {
                next |= doors[r][o] > 0 ? 1 << o : 0;
                if (o != r) {
                    is("door", x.door(r, o), doors[r][o] == 0 ? -2 : doors[r][o]);
                }
            }
            many += Integer.bitCount(next);
            is("DOORS of a ROOM", room(r, 3), next);
            is("SIZE", room(r, 0), sizes.get(r));
            is("free", room(r, 2), free(r));
        }
        for (int t = 0; t < things.size(); t++) {
            for (int what = 0; what < 4; what++) {
                is("thing " + what, thing(t, what), things.get(t)[what]);
            }
        }
        for (int s = 0; s < sets.size(); s++) {
            is("set", x.set(s), sets.get(s));
        }
        int[] counts = {sizes.size(), things.size(), sets.size(), many / 2, days, carried, parted(), full(), past.size(), row.length,
            text.length(), strength};
        for (int what = 0; what < counts.length; what++) {
            is("count " + what, x.count(what), counts[what]);
        }
        rowIs(row);
    }
}
