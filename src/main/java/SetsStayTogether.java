import java.util.NoSuchElementException;

/** Houses of rooms and doors, in which the things of a set have to be in one room overnight. */
public final class SetsStayTogether {
    public static final int NONE = -1;

    private static final int NOT_SO = -2;
    private static final int TOO_MANY = -3;
    private static final int TOO_MUCH = -3;
    private static final int MISSING = -3;
    private static final int NO_AIM = -4;
    private static final int PARTED = -5;

    private static final int ROOMS = 6;
    private static final int THINGS = 10;
    private static final int SETS = 8;
    private static final int WIDEST = 9;
    private static final int LARGEST = 99;
    private static final int STRONGEST = 999;
    private static final int HOUSE_SIGNS = 76;
    private static final int RULE_SIGNS = 40;
    private static final int DAY_SIGNS = 40;
    private static final int CARRYING_SIGNS = 4;
    private static final int MOST_ARRANGEMENTS = 20000;

    /** More than any carrying costs, and yet so little that ten of it are an int. */
    private static final int FAR = 1000000;
    /** An end for loops that have a nearer one of their own. */
    private static final int MANY = 1000000;

    private final Text text = new Text();
    private final Reader reader = new Reader(text);
    private final HouseReader lines = new HouseReader(reader);
    private final Numbers answer = new Numbers();
    private final House home = new House();
    private final House draft = new House();
    private final Rule law = new Rule();
    private final Walk walk = new Walk();
    private final Past past = new Past();
    private final Kept[] shelf = {new Kept(), new Kept()};
    private final Turns turns = new Turns();
    private final Journey journey = new Journey();
    private final int[] goal = new int[THINGS];
    private final int[] spare = new int[THINGS];
    private int goalThings;
    private int days;
    private int carried;
    private int might = STRONGEST;

    public SetsStayTogether() {
    }

    // ---- the house

    public int sign(int v) {
        return text.append(v) ? text.length : NONE;
    }

    public boolean end(int n) {
        return text.cut(n);
    }

    public int house() {
        if (text.length == 0) {
            return 0;
        }
        draft.become(home);
        int many = lines.read(draft);
        text.cut(0);
        if (many >= 0) {
            home.become(draft);
            home.hang();
            past.forget();
        }
        return many;
    }

    public int rule() {
        int fault = law.fault(reader);
        if (fault == NONE) {
            law.signs.become(text);
        }
        text.cut(0);
        return fault == NONE ? 0 : -1 - fault;
    }

    public int room(int room, int what) throws NoSuchElementException {
        if (!home.isRoom(room) || what < 0 || what > 3) {
            throw new NoSuchElementException("no such room, or nothing told of it so");
        }
        switch (what) {
            case 0:
                return home.size[room];
            case 1:
                return home.thingsIn(room, home.where);
            case 2:
                return home.size[room] - home.load(room, home.where);
            default:
                return home.nextTo(room, 1);
        }
    }

    public int thing(int thing, int what) throws NoSuchElementException {
        if (!home.isThing(thing) || what < 0 || what > 6) {
            throw new NoSuchElementException("no such thing, or nothing told of it so");
        }
        switch (what) {
            case 0:
                return home.bulk[thing];
            case 1:
                return home.girth[thing];
            case 2:
                return home.weight[thing];
            case 3:
                return home.where[thing];
            case 4:
                return home.setsOf(thing);
            case 5:
                return home.clumpOf[thing];
            default:
                return law.value(home, thing, home.where[thing]);
        }
    }

    public int set(int set) {
        return set >= 0 && set < home.sets ? home.members[set] : NONE;
    }

    public int door(int one, int other) {
        if (!home.areUnlikeRooms(one, other)) {
            return NONE;
        }
        int width = home.doorWidth(one, other);
        return width == 0 ? NOT_SO : width;
    }

    public int widen(int one, int other, int width) {
        if (!home.areUnlikeRooms(one, other) || width < 0 || width > WIDEST) {
            return NONE;
        }
        int before = home.doorWidth(one, other);
        home.makeDoor(one, other, width);
        return before;
    }

    public int strength(int v) {
        if (v < 1 || v > STRONGEST) {
            return NONE;
        }
        int before = might;
        might = v;
        return before;
    }

    public int sheet(int kind, int n, int f, int step) {
        if (kind < 0 || kind > 3 || n > THINGS) {
            return NONE;
        }
        if (kind == 3) {
            home.weigh(2, 0, 0, 0);
            return MISSING;
        }
        return n < 0 ? NOT_SO : home.weigh(kind, n, f, step);
    }

    // ---- days

    public int carry(int thing, int room) {
        int cost = attempt(thing, room, home.where, carried);
        if (cost >= 0) {
            bring(thing, room, cost);
        }
        return cost;
    }

    public int evening() {
        int parted = home.parted(home.where);
        int full = home.overfull(home.where);
        answer.start();
        answer.tell(parted);
        answer.tell(full);
        return (parted | full) == 0 ? sleep() : 0;
    }

    public int day() {
        int fault = dayFault();
        if (fault != NONE) {
            text.cut(0);
            return -1 - fault;
        }
        int many = (text.length + 1) / CARRYING_SIGNS;
        int sum = 0;
        int done = 0;
        for (int k = 0; k < many; k++) {
            int cost = carry(text.at(k * CARRYING_SIGNS) - 'a', text.at(k * CARRYING_SIGNS + 2) - '0');
            if (cost < 0) {
                break;
            }
            sum += cost;
            done++;
        }
        text.cut(0);
        int night = done < many ? NONE : home.lawful(home.where) ? sleep() : 0;
        answer.start();
        answer.tell(night);
        answer.tell(sum);
        return done;
    }

    public int undo() {
        if (past.many == 0) {
            return NONE;
        }
        past.many--;
        int thing = numberAt(past.thing, past.many);
        if (home.isThing(thing)) {
            home.where[thing] = numberAt(past.room, past.many);
        }
        carried = numberAt(past.carried, past.many);
        return past.many;
    }

    public int judge(int n, int told) {
        if (n < 0 || n > 4) {
            return NONE;
        }
        copy(home.where, spare);
        int sum = 0;
        int failed = NOT_SO;
        for (int k = 0; k < n && failed == NOT_SO; k++) {
            int code = told >> (7 * k) & 127;
            int cost = attempt(code / 10, code % 10, spare, carried + sum);
            if (cost < 0) {
                failed = k;
            } else {
                spare[code / 10] = code % 10;
                sum += cost;
            }
        }
        answer.start();
        answer.tell(sum);
        answer.tell(home.lawful(spare) ? 1 : 0);
        return failed;
    }

    // ---- sets and clumps

    public int clumps() {
        answer.start();
        for (int c = 0; c < home.clumps; c++) {
            answer.tell(home.clumpThings[c]);
        }
        return home.clumps;
    }

    public int heaviest() {
        if (home.things == 0) {
            return NOT_SO;
        }
        int heavy = 0;
        for (int c = 1; c < home.clumps; c++) {
            if (home.clumpBulk(c) > home.clumpBulk(heavy)) {
                heavy = c;
            }
        }
        int bulk = home.clumpBulk(heavy);
        answer.start();
        answer.tell(bulk);
        answer.tell(home.roomsFor(bulk));
        return heavy;
    }

    public int without(int thing) {
        if (!home.isThing(thing)) {
            return NONE;
        }
        int rest = home.allThings() & ~(1 << thing);
        answer.start();
        answer.tell(home.setsWithNoneOf(rest));
        return home.clumpsBy(rest, home.allSets());
    }

    public int breaks(int thing) {
        if (!home.isThing(thing)) {
            return NONE;
        }
        home.leaveSets(thing);
        home.hang();
        return home.clumps;
    }

    public int ties() {
        int bits = 0;
        for (int s = 0; s < home.sets; s++) {
            if (home.clumpsBy(home.allThings(), home.allSets() & ~(1 << s)) > home.clumps) {
                bits |= 1 << s;
            }
        }
        return bits;
    }

    // ---- arrangements

    public int fits() {
        if (home.tooMany()) {
            return TOO_MANY;
        }
        walk.start(home, home.allClumps());
        walk.choose();
        answer.start();
        if (walk.found > 0) {
            tellChosen();
        }
        return walk.found;
    }

    public int worth() {
        int sum = 0;
        for (int t = 0; t < home.things; t++) {
            sum += law.value(home, t, home.where[t]);
        }
        return sum;
    }

    public int best() {
        if (home.tooMany()) {
            return TOO_MANY;
        }
        walk.start(home, home.allClumps());
        for (int t = 0; t < home.things; t++) {
            for (int r = 0; r < home.rooms; r++) {
                walk.add(home.clumpOf[t], r, law.value(home, t, r));
            }
        }
        if (!walk.choose()) {
            return NOT_SO;
        }
        answer.start();
        answer.tell(walk.value);
        tellChosen();
        return 1;
    }

    public int near() {
        return home.tooMany() ? TOO_MANY : nearest(NONE, 0);
    }

    public int guest(int room, int free) {
        if (!home.isRoom(room) || free < 0 || free > LARGEST) {
            return NONE;
        }
        return home.tooMany() ? TOO_MANY : nearest(room, free);
    }

    public int space() {
        if (home.tooMany()) {
            return TOO_MANY;
        }
        int most = NONE;
        for (int r = 0; r < home.rooms; r++) {
            if (chooseByBulk(r, 0, -1) && home.size[r] + walk.value > most) {
                most = home.size[r] + walk.value;
                answer.start();
                answer.tell(r);
                tellChosen();
            }
        }
        return most == NONE ? NOT_SO : most;
    }

    public int could(int bulk, int sets) {
        if (bulk < 1 || bulk > LARGEST || sets < 0 || sets > home.allSets()) {
            return NONE;
        }
        if (home.tooMany()) {
            return TOO_MANY;
        }
        int joined = home.clumpsIn(sets);
        int inches = bulk + home.bulkOf(home.thingsOf(joined));
        int bits = 0;
        for (int r = 0; r < home.rooms; r++) {
            walk.start(home, home.allClumps() & ~joined);
            walk.lessen(r, inches);
            if (walk.next()) {
                bits |= 1 << r;
            }
        }
        return bits;
    }

    public int may(int clump) {
        if (clump < 0 || clump >= home.clumps) {
            return NONE;
        }
        if (home.tooMany()) {
            return TOO_MANY;
        }
        int now = numberAt(home.where, home.leastOf(clump));
        int bits = 0;
        int stays = 0;
        walk.start(home, home.allClumps());
        for (int n = 0; n < MANY && walk.next(); n++) {
            int room = walk.place[clump];
            bits |= 1 << room;
            stays += room == now ? 1 : 0;
        }
        answer.start();
        answer.tell(stays);
        return bits;
    }

    public int together(int one, int other) {
        if (!home.isThing(one) || !home.isThing(other) || one == other) {
            return NONE;
        }
        if (home.tooMany()) {
            return TOO_MANY;
        }
        int first = home.clumpOf[one];
        int second = home.clumpOf[other];
        int both = 0;
        int all = 0;
        walk.start(home, home.allClumps());
        for (int n = 0; n < MANY && walk.next(); n++) {
            all++;
            both += numberAt(walk.place, first) == numberAt(walk.place, second) ? 1 : 0;
        }
        answer.start();
        answer.tell(all);
        return both;
    }

    public int fullest(int room) {
        if (!home.isRoom(room)) {
            return NONE;
        }
        if (home.tooMany()) {
            return TOO_MANY;
        }
        if (!chooseByBulk(room, 0, 1)) {
            return NOT_SO;
        }
        answer.start();
        tellChosen();
        return walk.value;
    }

    public int swap(int one, int other) {
        if (!home.areUnlikeRooms(one, other)) {
            return NONE;
        }
        copy(home.where, spare);
        for (int t = 0; t < home.things; t++) {
            if (home.where[t] == one) {
                spare[t] = other;
            } else if (home.where[t] == other) {
                spare[t] = one;
            }
        }
        answer.start();
        answer.tell(home.carriedTo(spare));
        return home.lawful(spare) ? 1 : 0;
    }

    public int sell() {
        if (home.tooMany()) {
            return TOO_MANY;
        }
        int sold = home.allThings();
        for (int gone = 0; gone < 1 << home.clumps; gone++) {
            int things = home.thingsOf(gone);
            if (home.isLessToSell(things, sold)) {
                walk.start(home, home.allClumps() & ~gone);
                sold = walk.next() ? things : sold;
            }
        }
        answer.start();
        answer.tell(sold);
        return Integer.bitCount(sold);
    }

    public int build() {
        if (home.rooms == 0) {
            return NOT_SO;
        }
        if (home.tooMany()) {
            return TOO_MANY;
        }
        walk.start(home, home.allClumps());
        int room = NONE;
        int fewest = walk.next() ? 0 : FAR;
        for (int r = 0; r < home.rooms && fewest > 0; r++) {
            if (chooseByBulk(r, LARGEST, -1) && -walk.value - home.size[r] < fewest) {
                fewest = -walk.value - home.size[r];
                room = r;
            }
        }
        if (fewest == FAR) {
            return NOT_SO;
        }
        answer.start();
        answer.tell(room);
        return fewest;
    }

    // ---- ways and doors

    public int way(int thing, int room) {
        if (!home.isThing(thing) || !home.isRoom(room)) {
            return NONE;
        }
        int girth = home.girth[thing];
        int at = home.where[thing];
        int steps = home.steps(girth, at, room);
        if (steps < 0) {
            return NOT_SO;
        }
        answer.start();
        for (int left = steps - 1; left >= 0; left--) {
            at = home.firstNearer(girth, at, room, left);
            answer.tell(at);
        }
        return steps;
    }

    public int widest(int one, int other) {
        if (!home.isRoom(one) || !home.isRoom(other)) {
            return NONE;
        }
        for (int girth = WIDEST; girth > 0; girth--) {
            if (home.steps(girth, one, other) >= 0) {
                return girth;
            }
        }
        return 0;
    }

    public int stuck() {
        int bits = 0;
        for (int t = 0; t < home.things; t++) {
            if (home.roomsFrom(home.girth[t], home.where[t]) != home.allRooms()) {
                bits |= 1 << t;
            }
        }
        return bits;
    }

    public int hinge(int room) {
        if (!home.isRoom(room)) {
            return NONE;
        }
        int one = NONE;
        int other = NONE;
        int most = NONE;
        for (int a = 0; a < home.rooms; a++) {
            for (int b = a + 1; b < home.rooms; b++) {
                int come = home.doorWidth(a, b) == 0 ? NONE : home.comersIfWide(a, b, room);
                if (come > most) {
                    most = come;
                    one = a;
                    other = b;
                }
            }
        }
        if (one == NONE) {
            return NOT_SO;
        }
        answer.start();
        answer.tell(other);
        answer.tell(most);
        return one;
    }

    // ---- aims

    public int aim() {
        int many = text.length;
        int fault = many == 0 ? NONE : aimFault();
        if (fault == NONE) {
            for (int t = 0; t < many && t < THINGS; t++) {
                goal[t] = text.at(t) - '0';
            }
            goalThings = many;
        }
        text.cut(0);
        return fault == NONE ? many : -1 - fault;
    }

    public int apart() {
        if (!hasAim()) {
            return NO_AIM;
        }
        int cost = home.carriedTo(goal);
        if (cost < 0) {
            return NOT_SO;
        }
        answer.start();
        answer.tell(home.lawful(goal) ? 1 : 0);
        return cost;
    }

    public int queue() {
        if (!hasAim()) {
            return NO_AIM;
        }
        if (home.parted(goal) != 0 || home.parted(home.where) != 0) {
            return PARTED;
        }
        if (home.carriedTo(goal) < 0 || !turns.find(home, goal)) {
            return NOT_SO;
        }
        answer.start();
        for (int n = 0; n < turns.many; n++) {
            answer.tell(numberAt(turns.order, n));
        }
        return turns.many;
    }

    public int evenings() {
        int ready = readyJourney();
        if (ready <= 0) {
            return ready;
        }
        int nights = journey.fewest(might);
        if (nights < 0) {
            return NOT_SO;
        }
        answer.start();
        answer.tell(journey.least);
        for (int t = 0; t < home.things; t++) {
            answer.tell(journey.roomAt(journey.next, home.clumpOf[t]));
        }
        return nights;
    }

    public int weakest() {
        int ready = readyJourney();
        if (ready <= 0) {
            return ready;
        }
        int needed = journey.narrowest();
        if (needed > STRONGEST) {
            return NOT_SO;
        }
        int nights = journey.fewest(needed);
        answer.start();
        answer.tell(nights);
        return needed;
    }

    // ---- kept

    public boolean keep(int i) {
        Kept kept = keptAt(i);
        if (kept == null) {
            return false;
        }
        kept.store(home, days, carried);
        return true;
    }

    public boolean again(int i) {
        Kept kept = keptAt(i);
        if (kept == null || !kept.suits(home)) {
            return false;
        }
        copy(kept.where, home.where);
        days = kept.days;
        carried = kept.carried;
        past.forget();
        return true;
    }

    public int count(int what) {
        switch (what) {
            case 0:
                return home.rooms;
            case 1:
                return home.things;
            case 2:
                return home.sets;
            case 3:
                return home.doors();
            case 4:
                return days;
            case 5:
                return carried;
            case 6:
                return home.parted(home.where);
            case 7:
                return home.overfull(home.where);
            case 8:
                return past.many;
            case 9:
                return answer.many;
            case 10:
                return text.length;
            case 11:
                return might;
            default:
                return NONE;
        }
    }

    public int row(int i) throws NoSuchElementException {
        if (i < 0 || i >= answer.many) {
            throw new NoSuchElementException("no such number in the row");
        }
        return numberAt(answer.numbers, i);
    }

    // ---- what several calls need

    private static int numberAt(int[] numbers, int i) {
        return i >= 0 && i < numbers.length ? numbers[i] : 0;
    }

    private static void copy(int[] from, int[] to) {
        for (int i = 0; i < from.length && i < to.length; i++) {
            to[i] = from[i];
        }
    }

    private static boolean has(int bits, int i) {
        return (bits >> i & 1) == 1;
    }

    private Kept keptAt(int i) {
        return i >= 0 && i < shelf.length ? shelf[i] : null;
    }

    /** What it costs to carry a THING there, or why that can't be. */
    private int attempt(int thing, int room, int[] place, int already) {
        if (!home.isThing(thing) || !home.isRoom(room)) {
            return NONE;
        }
        int cost = home.cost(thing, numberAt(place, thing), room);
        if (cost < 0) {
            return NOT_SO;
        }
        return already + cost > might ? TOO_MUCH : cost;
    }

    private void bring(int thing, int room, int cost) {
        if (home.isThing(thing)) {
            past.add(thing, home.where[thing], carried);
            home.where[thing] = room;
            carried += cost;
        }
    }

    private int sleep() {
        days++;
        carried = 0;
        past.forget();
        return 1;
    }

    private int dayFault() {
        reader.start(DAY_SIGNS);
        if (text.length == 0) {
            return NONE;
        }
        readCarrying();
        for (int n = 0; n < DAY_SIGNS && reader.goesOn(); n++) {
            reader.take(';');
            readCarrying();
        }
        return reader.fault();
    }

    /** A THING or a ROOM that is not there can stand: such a carrying can't be done, which carry() tells. */
    private void readCarrying() {
        reader.letter(0, THINGS);
        reader.take('>');
        reader.digit(0, 10);
    }

    private int aimFault() {
        reader.start(home.things);
        for (int t = 0; t < home.things; t++) {
            reader.digit(0, home.rooms);
        }
        return reader.fault();
    }

    private boolean hasAim() {
        return goalThings > 0 && goalThings == home.things;
    }

    private void tellChosen() {
        for (int t = 0; t < home.things; t++) {
            answer.tell(numberAt(walk.chosen, home.clumpOf[t]));
        }
    }

    private int nearest(int room, int free) {
        walk.start(home, home.allClumps());
        walk.lessen(room, free);
        for (int t = 0; t < home.things; t++) {
            for (int r = 0; r < home.rooms; r++) {
                int cost = home.cost(t, home.where[t], r);
                walk.add(home.clumpOf[t], r, cost < 0 ? -FAR : -cost);
            }
        }
        if (!walk.choose() || walk.value <= -FAR) {
            return NOT_SO;
        }
        answer.start();
        tellChosen();
        return -walk.value;
    }

    /** Chooses by the BULK in a ROOM that is greater by some inches, each inch counted so much. */
    private boolean chooseByBulk(int room, int more, int each) {
        walk.start(home, home.allClumps());
        walk.lessen(room, -more);
        for (int c = 0; c < home.clumps; c++) {
            walk.add(c, room, each * home.clumpBulk(c));
        }
        return walk.choose();
    }

    /** 1 if there is a journey to ask for, else what the call answers. */
    private int readyJourney() {
        if (!hasAim()) {
            return NO_AIM;
        }
        if (home.isNow(goal)) {
            answer.start();
            answer.tell(0);
            return 0;
        }
        if (home.tooMany() || !journey.listLawful(home, walk)) {
            return TOO_MANY;
        }
        return journey.prepare(home, goal) ? 1 : NOT_SO;
    }

    /** Signs that have come, one number each. */
    private static final class Text {
        static final int MOST = 80;
        final int[] signs = new int[MOST];
        int length;

        boolean append(int v) {
            if (length < 0 || length + 4 > MOST) {
                return false;
            }
            for (int shift = 24; shift >= 0; shift -= 8) {
                signs[length] = v >>> shift & 255;
                length++;
            }
            return true;
        }

        boolean cut(int n) {
            if (n < 0 || n > length) {
                return false;
            }
            length = n;
            return true;
        }

        int at(int i) {
            return i >= 0 && i < length ? numberAt(signs, i) : NONE;
        }

        void become(Text other) {
            copy(other.signs, signs);
            length = other.length;
        }
    }

    /** Reads a text sign by sign and keeps where the first is that can't stand. */
    private static final class Reader {
        final Text text;
        int at;
        int stop;
        int bad = NONE;

        Reader(Text text) {
            this.text = text;
        }

        void start(int limit) {
            at = 0;
            bad = NONE;
            stop = Math.min(text.length, limit);
        }

        /** The next sign; NONE at the end, and behind a fault, so that no reader goes on there. */
        int peek() {
            return bad == NONE && at >= 0 && at < stop && at < text.signs.length ? text.signs[at] : NONE;
        }

        boolean goesOn() {
            return bad == NONE && at < stop;
        }

        void fail(int p) {
            if (bad == NONE) {
                bad = p;
            }
        }

        /** Where the first sign is that can't stand; a text longer than its limit can't end there. */
        int fault() {
            if (bad == NONE && stop < text.length) {
                return stop;
            }
            return bad;
        }

        void take(int sign) {
            if (bad == NONE && peek() == sign) {
                at++;
            } else {
                fail(at);
            }
        }

        boolean seesDigit() {
            int sign = peek();
            return sign >= '0' && sign <= '9';
        }

        int digit(int least, int bound) {
            return counted(peek() - '0', least, bound);
        }

        int letter(int least, int bound) {
            return counted(peek() - 'a', least, bound);
        }

        private int counted(int value, int least, int bound) {
            if (value < least || value >= bound) {
                fail(at);
                return NONE;
            }
            at++;
            return value;
        }

        /** 1 or 2 digits, not 0. */
        int inches() {
            int value = digit(0, 10);
            if (seesDigit()) {
                value = value * 10 + digit(0, 10);
            }
            if (value == 0) {
                fail(at - 1);
            }
            return value;
        }
    }

    /** Reads LINES into a house, which is only a draft until all of them could stand. */
    private static final class HouseReader {
        final Reader from;

        HouseReader(Reader from) {
            this.from = from;
        }

        int read(House draft) {
            from.start(HOUSE_SIGNS);
            line(draft);
            int many = 1;
            for (int n = 0; n < HOUSE_SIGNS && from.goesOn(); n++) {
                from.take(';');
                line(draft);
                many++;
            }
            int fault = from.fault();
            return fault == NONE ? many : -1 - fault;
        }

        private void line(House draft) {
            int sign = from.peek();
            if (sign == 'r' && draft.rooms < ROOMS) {
                from.at++;
                draft.addRoom(from.inches());
            } else if (sign == 'd') {
                from.at++;
                doorLine(draft);
            } else if (sign == 's' && draft.sets < SETS) {
                from.at++;
                draft.addSet(letters(draft.things));
            } else if (from.seesDigit() && draft.things < THINGS) {
                thingLine(draft);
            } else {
                from.fail(from.at);
            }
        }

        private void doorLine(House draft) {
            int one = from.digit(0, draft.rooms);
            from.take('-');
            int place = from.at;
            int other = from.digit(0, draft.rooms);
            if (one == other) {
                from.fail(place);
            }
            from.take('=');
            int width = from.digit(1, 10);
            if (from.bad == NONE) {
                draft.makeDoor(one, other, width);
            }
        }

        private void thingLine(House draft) {
            int bulk = from.inches();
            from.take(',');
            int girth = from.digit(1, 10);
            from.take(',');
            int weight = from.digit(1, 10);
            from.take('@');
            int room = from.digit(0, draft.rooms);
            if (from.bad == NONE) {
                draft.addThing(bulk, girth, weight, room);
            }
        }

        private int letters(int things) {
            int last = from.letter(0, things);
            int bits = last < 0 ? 0 : 1 << last;
            for (int n = 0; n < THINGS && from.goesOn() && from.peek() != ';'; n++) {
                last = from.letter(last + 1, things);
                bits |= last < 0 ? 0 : 1 << last;
            }
            return bits;
        }
    }

    /** Numbers told last. */
    private static final class Numbers {
        final int[] numbers = new int[THINGS + 2];
        int many;

        void start() {
            many = 0;
        }

        void tell(int number) {
            if (many >= 0 && many < numbers.length) {
                numbers[many] = number;
                many++;
            }
        }
    }

    /** ROOMS, DOORS, THINGS and SETS, and the CLUMPS that come of them. */
    private static final class House {
        final int[] size = new int[ROOMS];
        final int[] door = new int[ROOMS * ROOMS];
        final int[] bulk = new int[THINGS];
        final int[] girth = new int[THINGS];
        final int[] weight = new int[THINGS];
        final int[] where = new int[THINGS];
        final int[] members = new int[SETS];
        final int[] clumpThings = new int[THINGS];
        final int[] clumpOf = new int[THINGS];
        int rooms;
        int things;
        int sets;
        int clumps;

        void become(House other) {
            copy(other.size, size);
            copy(other.door, door);
            copy(other.bulk, bulk);
            copy(other.girth, girth);
            copy(other.weight, weight);
            copy(other.where, where);
            copy(other.members, members);
            copy(other.clumpThings, clumpThings);
            copy(other.clumpOf, clumpOf);
            rooms = other.rooms;
            things = other.things;
            sets = other.sets;
            clumps = other.clumps;
        }

        boolean isRoom(int room) {
            return room >= 0 && room < rooms;
        }

        boolean isThing(int thing) {
            return thing >= 0 && thing < things;
        }

        boolean areUnlikeRooms(int one, int other) {
            return isRoom(one) && isRoom(other) && one != other;
        }

        int allRooms() {
            return (1 << rooms) - 1;
        }

        int allThings() {
            return (1 << things) - 1;
        }

        int allSets() {
            return (1 << sets) - 1;
        }

        int allClumps() {
            return (1 << clumps) - 1;
        }

        void addRoom(int inches) {
            if (rooms >= 0 && rooms < ROOMS) {
                size[rooms] = inches;
                rooms++;
            }
        }

        void addThing(int inches, int width, int heavy, int room) {
            if (things >= 0 && things < THINGS) {
                bulk[things] = inches;
                girth[things] = width;
                weight[things] = heavy;
                where[things] = room;
                things++;
            }
        }

        void addSet(int bits) {
            if (sets >= 0 && sets < SETS) {
                members[sets] = bits;
                sets++;
            }
        }

        void makeDoor(int one, int other, int width) {
            if (areUnlikeRooms(one, other)) {
                door[one * ROOMS + other] = width;
                door[other * ROOMS + one] = width;
            }
        }

        int doorWidth(int one, int other) {
            return areUnlikeRooms(one, other) ? door[one * ROOMS + other] : 0;
        }

        int doors() {
            int many = 0;
            for (int r = 0; r < rooms; r++) {
                many += Integer.bitCount(nextTo(r, 1));
            }
            return many / 2;
        }

        /** WEIGHTS from a sheet; what lies behind its entries has 1. */
        int weigh(int kind, int n, int f, int step) {
            int sum = 0;
            for (int t = 0; t < things; t++) {
                int entry = t < n ? f + t * step : 1;
                int read = kind == 0 ? (byte) entry : kind == 1 ? (short) entry : entry;
                weight[t] = Math.max(1, Math.min(9, read));
                sum += weight[t];
            }
            return sum;
        }

        // -- ways

        int nextTo(int room, int width) {
            int bits = 0;
            for (int r = 0; r < rooms; r++) {
                if (doorWidth(room, r) >= width) {
                    bits |= 1 << r;
                }
            }
            return bits;
        }

        private int oneStepFrom(int seen, int width) {
            int bits = seen;
            for (int pair = 0; pair < door.length; pair++) {
                if (has(seen, pair / ROOMS) && door[pair] >= width) {
                    bits |= 1 << (pair % ROOMS);
                }
            }
            return bits;
        }

        int roomsFrom(int width, int room) {
            int seen = isRoom(room) ? 1 << room : 0;
            for (int n = 1; n < rooms; n++) {
                seen = oneStepFrom(seen, width);
            }
            return seen;
        }

        int steps(int width, int from, int to) {
            if (!isRoom(from) || !isRoom(to)) {
                return NONE;
            }
            int seen = 1 << from;
            for (int n = 0; n < rooms; n++) {
                if (has(seen, to)) {
                    return n;
                }
                seen = oneStepFrom(seen, width);
            }
            return NONE;
        }

        /** The first ROOM behind a DOOR from which so many STEPS are left. */
        int firstNearer(int width, int from, int to, int left) {
            for (int r = 0; r < rooms; r++) {
                if (doorWidth(from, r) >= width && steps(width, r, to) == left) {
                    return r;
                }
            }
            return NONE;
        }

        int cost(int thing, int from, int to) {
            if (!isThing(thing)) {
                return NONE;
            }
            int steps = steps(girth[thing], from, to);
            return steps < 0 ? NONE : steps * weight[thing];
        }

        int carriedTo(int[] place) {
            int sum = 0;
            for (int t = 0; t < things; t++) {
                int cost = cost(t, where[t], numberAt(place, t));
                if (cost < 0) {
                    return NONE;
                }
                sum += cost;
            }
            return sum;
        }

        int comersIfWide(int one, int other, int room) {
            int width = doorWidth(one, other);
            makeDoor(one, other, WIDEST);
            int many = 0;
            for (int t = 0; t < things; t++) {
                many += steps(girth[t], where[t], room) >= 0 ? 1 : 0;
            }
            makeDoor(one, other, width);
            return many;
        }

        // -- arrangements

        boolean isNow(int[] place) {
            for (int t = 0; t < things; t++) {
                if (where[t] != numberAt(place, t)) {
                    return false;
                }
            }
            return true;
        }

        int thingsIn(int room, int[] place) {
            int bits = 0;
            for (int t = 0; t < things; t++) {
                if (numberAt(place, t) == room) {
                    bits |= 1 << t;
                }
            }
            return bits;
        }

        int load(int room, int[] place) {
            return bulkOf(thingsIn(room, place));
        }

        int overfull(int[] place) {
            int bits = 0;
            for (int r = 0; r < rooms; r++) {
                if (load(r, place) > size[r]) {
                    bits |= 1 << r;
                }
            }
            return bits;
        }

        int parted(int[] place) {
            int bits = 0;
            for (int s = 0; s < sets; s++) {
                if (!areInOneRoom(members[s], place)) {
                    bits |= 1 << s;
                }
            }
            return bits;
        }

        private boolean areInOneRoom(int bits, int[] place) {
            for (int r = 0; r < rooms; r++) {
                int inside = thingsIn(r, place) & bits;
                if (inside != 0 && inside != bits) {
                    return false;
                }
            }
            return true;
        }

        boolean lawful(int[] place) {
            return (parted(place) | overfull(place)) == 0;
        }

        boolean tooMany() {
            int power = 1;
            for (int c = 0; c < clumps && power <= MOST_ARRANGEMENTS; c++) {
                power *= rooms;
            }
            return power > MOST_ARRANGEMENTS;
        }

        // -- sets and clumps

        int setsOf(int thing) {
            int bits = 0;
            for (int s = 0; s < sets; s++) {
                if (has(members[s], thing)) {
                    bits |= 1 << s;
                }
            }
            return bits;
        }

        int setsWithNoneOf(int some) {
            int bits = 0;
            for (int s = 0; s < sets; s++) {
                if ((members[s] & some) == 0) {
                    bits |= 1 << s;
                }
            }
            return bits;
        }

        void leaveSets(int thing) {
            for (int s = 0; s < sets; s++) {
                members[s] &= ~(1 << thing);
            }
        }

        /** THINGS among some that hang together with one of them by some SETS. */
        private int hangingOn(int thing, int some, int bySets) {
            int bits = 1 << thing;
            for (int n = 0; n < sets; n++) {
                for (int s = 0; s < sets; s++) {
                    if (has(bySets, s) && (members[s] & bits) != 0) {
                        bits |= members[s] & some;
                    }
                }
            }
            return bits;
        }

        int clumpsBy(int some, int bySets) {
            int many = 0;
            int left = some;
            for (int t = 0; t < things; t++) {
                if (has(left, t)) {
                    left &= ~hangingOn(t, some, bySets);
                    many++;
                }
            }
            return many;
        }

        void hang() {
            clumps = 0;
            int left = allThings();
            for (int t = 0; t < things; t++) {
                if (has(left, t)) {
                    int bits = hangingOn(t, allThings(), allSets());
                    left &= ~bits;
                    addClump(bits);
                }
            }
        }

        private void addClump(int bits) {
            if (clumps >= 0 && clumps < THINGS) {
                clumpThings[clumps] = bits;
                for (int t = 0; t < things; t++) {
                    if (has(bits, t)) {
                        clumpOf[t] = clumps;
                    }
                }
                clumps++;
            }
        }

        int leastOf(int clump) {
            return Integer.numberOfTrailingZeros(numberAt(clumpThings, clump));
        }

        int clumpBulk(int clump) {
            return bulkOf(numberAt(clumpThings, clump));
        }

        int bulkOf(int some) {
            int sum = 0;
            for (int t = 0; t < things; t++) {
                sum += has(some, t) ? bulk[t] : 0;
            }
            return sum;
        }

        int roomsFor(int inches) {
            int bits = 0;
            for (int r = 0; r < rooms; r++) {
                if (size[r] >= inches) {
                    bits |= 1 << r;
                }
            }
            return bits;
        }

        int thingsOf(int someClumps) {
            int bits = 0;
            for (int c = 0; c < clumps; c++) {
                if (has(someClumps, c)) {
                    bits |= clumpThings[c];
                }
            }
            return bits;
        }

        int clumpsIn(int someSets) {
            int bits = 0;
            for (int t = 0; t < things; t++) {
                if ((setsOf(t) & someSets) != 0) {
                    bits |= 1 << clumpOf[t];
                }
            }
            return bits;
        }

        boolean isLessToSell(int some, int others) {
            int fewer = Integer.bitCount(others) - Integer.bitCount(some);
            if (fewer != 0) {
                return fewer > 0;
            }
            int lesser = bulkOf(others) - bulkOf(some);
            return lesser != 0 ? lesser > 0 : some < others;
        }
    }

    /** THE RULE: read once as a check, and again for each THING in each ROOM. */
    private static final class Rule {
        static final String LETTERS = "ibwgkrzdh";
        static final int DEEPEST = 4;
        final Text signs = new Text();
        final Reader own = new Reader(signs);
        final int[] values = new int[9];

        /** Where a text can't be a rule, or NONE. */
        int fault(Reader from) {
            from.start(RULE_SIGNS);
            if (from.text.length > 0) {
                whole(from);
            }
            return from.fault();
        }

        int value(House house, int thing, int room) {
            if (signs.length == 0 || !house.isThing(thing) || !house.isRoom(room)) {
                return 0;
            }
            values[0] = thing;
            values[1] = house.bulk[thing];
            values[2] = house.girth[thing];
            values[3] = house.weight[thing];
            values[4] = Integer.bitCount(house.setsOf(thing));
            values[5] = room;
            values[6] = house.size[room];
            values[7] = Integer.bitCount(house.nextTo(room, 1));
            values[8] = house.where[thing] == room ? 1 : 0;
            own.start(RULE_SIGNS);
            return Math.max(-999, Math.min(999, whole(own)));
        }

        private int whole(Reader from) {
            int value = compared(from, 0);
            if (from.goesOn()) {
                from.fail(from.at);
            }
            return value;
        }

        private int compared(Reader from, int depth) {
            int left = summed(from, depth);
            int sign = from.peek();
            if (sign != '<' && sign != '>' && sign != '=') {
                return left;
            }
            from.at++;
            int right = summed(from, depth);
            boolean so = sign == '<' ? left < right : sign == '>' ? left > right : left == right;
            return so ? 1 : 0;
        }

        private int summed(Reader from, int depth) {
            int sum = multiplied(from, depth);
            for (int n = 0; n < RULE_SIGNS; n++) {
                int sign = from.peek();
                if (sign != '+' && sign != '-') {
                    break;
                }
                from.at++;
                int next = multiplied(from, depth);
                sum = sign == '+' ? sum + next : sum - next;
            }
            return sum;
        }

        private int multiplied(Reader from, int depth) {
            int product = negated(from, depth);
            for (int n = 0; n < RULE_SIGNS; n++) {
                int sign = from.peek();
                if (sign != '*' && sign != '/') {
                    break;
                }
                from.at++;
                int next = negated(from, depth);
                product = sign == '*' ? product * next : next == 0 ? 0 : product / next;
            }
            return product;
        }

        private int negated(Reader from, int depth) {
            boolean minus = false;
            for (int n = 0; n < RULE_SIGNS && from.peek() == '-'; n++) {
                from.at++;
                minus = !minus;
            }
            int value = single(from, depth);
            return minus ? -value : value;
        }

        private int single(Reader from, int depth) {
            int sign = from.peek();
            if (from.seesDigit()) {
                return number(from);
            }
            int letter = sign < 0 ? NONE : LETTERS.indexOf((char) sign);
            if (letter >= 0 && letter < values.length) {
                from.at++;
                return values[letter];
            }
            if (sign != '(' || depth >= DEEPEST) {
                from.fail(from.at);
                return 0;
            }
            from.at++;
            int value = compared(from, depth + 1);
            from.take(')');
            return value;
        }

        private int number(Reader from) {
            int value = 0;
            for (int n = 0; n < 3 && from.seesDigit(); n++) {
                value = value * 10 + from.digit(0, 10);
            }
            return value;
        }
    }

    /** Goes through the LAWFUL ways to put CLUMPS into ROOMS, the least row first. */
    private static final class Walk {
        final int[] size = new int[ROOMS];
        final int[] load = new int[ROOMS];
        final int[] bulk = new int[THINGS];
        final int[] place = new int[THINGS];
        final int[] table = new int[THINGS * ROOMS];
        final int[] chosen = new int[THINGS];
        int rooms;
        int parts;
        boolean begun;
        boolean over;
        int value;
        int found;

        /** Some CLUMPS alone; with all of them, parts are numbered as CLUMPS are. */
        void start(House house, int someClumps) {
            rooms = Math.min(house.rooms, ROOMS);
            parts = 0;
            begun = false;
            over = false;
            copy(house.size, size);
            for (int r = 0; r < ROOMS; r++) {
                load[r] = 0;
            }
            for (int i = 0; i < table.length; i++) {
                table[i] = 0;
            }
            for (int c = 0; c < house.clumps && parts < THINGS; c++) {
                if (has(someClumps, c)) {
                    bulk[parts] = house.clumpBulk(c);
                    place[parts] = NONE;
                    parts++;
                }
            }
        }

        void lessen(int room, int inches) {
            if (room >= 0 && room < rooms) {
                size[room] -= inches;
            }
        }

        void add(int part, int room, int more) {
            if (part >= 0 && part < THINGS && room >= 0 && room < ROOMS) {
                table[part * ROOMS + room] += more;
            }
        }

        boolean next() {
            if (over) {
                return false;
            }
            int part = begun ? parts - 1 : isRoomEnough() ? 0 : NONE;
            begun = true;
            for (int n = 0; n < MANY && part >= 0 && part < parts; n++) {
                part = shift(part) ? part + 1 : part - 1;
            }
            over = part != parts;
            return !over;
        }

        /** An early no, so that what can't be is not searched through. */
        private boolean isRoomEnough() {
            int free = 0;
            for (int r = 0; r < rooms; r++) {
                if (size[r] < 0) {
                    return false;
                }
                free += size[r];
            }
            for (int part = 0; part < parts; part++) {
                free -= bulk[part];
            }
            return free >= 0;
        }

        /** A part goes on to the next ROOM that takes it; false: there is none, it is out. */
        private boolean shift(int part) {
            int before = place[part];
            if (before >= 0 && before < rooms) {
                load[before] -= bulk[part];
            }
            for (int r = Math.max(0, before + 1); r < rooms; r++) {
                if (load[r] + bulk[part] <= size[r]) {
                    load[r] += bulk[part];
                    place[part] = r;
                    return true;
                }
            }
            place[part] = NONE;
            return false;
        }

        private int sum() {
            int sum = 0;
            for (int part = 0; part < parts; part++) {
                sum += numberAt(table, part * ROOMS + place[part]);
            }
            return sum;
        }

        /** The one with the greatest sum by the table, the first of equal ones. */
        boolean choose() {
            found = 0;
            value = 0;
            for (int n = 0; n < MANY && next(); n++) {
                int sum = sum();
                if (found == 0 || sum > value) {
                    value = sum;
                    copy(place, chosen);
                }
                found++;
            }
            return found > 0;
        }
    }

    /** Carryings that can be undone, the latest last. */
    private static final class Past {
        static final int MOST = 20;
        final int[] thing = new int[MOST];
        final int[] room = new int[MOST];
        final int[] carried = new int[MOST];
        int many;

        void forget() {
            many = 0;
        }

        void add(int what, int from, int already) {
            if (many >= MOST) {
                dropFirst();
            }
            if (many >= 0 && many < MOST) {
                thing[many] = what;
                room[many] = from;
                carried[many] = already;
                many++;
            }
        }

        private void dropFirst() {
            for (int i = 1; i < MOST; i++) {
                thing[i - 1] = thing[i];
                room[i - 1] = room[i];
                carried[i - 1] = carried[i];
            }
            many = MOST - 1;
        }
    }

    /** Where THINGS were, DAYS and CARRIED. */
    private static final class Kept {
        final int[] where = new int[THINGS];
        boolean used;
        int rooms;
        int things;
        int days;
        int carried;

        void store(House house, int nights, int already) {
            copy(house.where, where);
            used = true;
            rooms = house.rooms;
            things = house.things;
            days = nights;
            carried = already;
        }

        boolean suits(House house) {
            return used && rooms == house.rooms && things == house.things;
        }
    }

    /** The order in which CLUMPS go where they have to, one at a time. */
    private static final class Turns {
        final boolean[] open = new boolean[1 << THINGS];
        final int[] order = new int[THINGS];
        final int[] place = new int[THINGS];
        int many;

        /** Looks from the end which sets of CLUMPS, gone first, let the rest go: the least order is then plain. */
        boolean find(House house, int[] goal) {
            int moved = movedClumps(house, goal);
            for (int gone = moved; gone > 0; gone--) {
                if ((gone & ~moved) == 0 && gone < open.length) {
                    open[gone] = isLawful(house, goal, gone) && (gone == moved || firstOpen(gone, moved) != NONE);
                }
            }
            many = 0;
            int gone = 0;
            for (int n = 0; n < THINGS && gone != moved; n++) {
                int clump = firstOpen(gone, moved);
                if (clump == NONE) {
                    return false;
                }
                order[n] = clump;
                many++;
                gone |= 1 << clump;
            }
            return gone == moved;
        }

        private static int movedClumps(House house, int[] goal) {
            int bits = 0;
            for (int t = 0; t < house.things; t++) {
                if (house.where[t] != numberAt(goal, t)) {
                    bits |= 1 << house.clumpOf[t];
                }
            }
            return bits;
        }

        private int firstOpen(int gone, int moved) {
            for (int c = 0; c < THINGS; c++) {
                int then = gone | 1 << c;
                if (has(moved & ~gone, c) && then >= 0 && then < open.length && open[then]) {
                    return c;
                }
            }
            return NONE;
        }

        private boolean isLawful(House house, int[] goal, int gone) {
            for (int t = 0; t < house.things; t++) {
                place[t] = has(gone, house.clumpOf[t]) ? numberAt(goal, t) : house.where[t];
            }
            return house.overfull(place) == 0;
        }
    }

    /** From evening to evening, by LAWFUL ARRANGEMENTS. */
    private static final class Journey {
        static final int MOST = 300;
        /** Three bits for the ROOM of each CLUMP. */
        final int[] list = new int[MOST];
        final int[] costs = new int[THINGS * ROOMS * ROOMS];
        final int[] first = new int[MOST];
        final int[] nights = new int[MOST];
        final int[] total = new int[MOST];
        int many;
        int clumps;
        int target;
        int least;
        int next;

        boolean listLawful(House house, Walk walk) {
            clumps = house.clumps;
            many = 0;
            walk.start(house, house.allClumps());
            for (int n = 0; n < MANY && walk.next(); n++) {
                if (many >= MOST) {
                    return false;
                }
                list[many] = 0;
                for (int c = 0; c < clumps; c++) {
                    list[many] |= walk.place[c] << (3 * c);
                }
                many++;
            }
            return true;
        }

        /** False: THE AIM is not among the LAWFUL ones. */
        boolean prepare(House house, int[] goal) {
            target = house.parted(goal) == 0 ? find(house, goal) : NONE;
            if (target == NONE) {
                return false;
            }
            fillCosts(house);
            for (int i = 0; i < many; i++) {
                first[i] = firstCost(house, i);
            }
            return true;
        }

        int roomAt(int i, int clump) {
            return i >= 0 && i < many ? list[i] >> (3 * clump) & 7 : NONE;
        }

        private int find(House house, int[] goal) {
            for (int i = 0; i < many; i++) {
                int alike = 0;
                for (int t = 0; t < house.things; t++) {
                    alike += roomAt(i, house.clumpOf[t]) == numberAt(goal, t) ? 1 : 0;
                }
                if (alike == house.things) {
                    return i;
                }
            }
            return NONE;
        }

        private void fillCosts(House house) {
            for (int i = 0; i < costs.length; i++) {
                costs[i] = 0;
            }
            for (int t = 0; t < house.things; t++) {
                int begin = house.clumpOf[t] * ROOMS * ROOMS;
                for (int pair = 0; pair < ROOMS * ROOMS; pair++) {
                    int cost = house.cost(t, pair / ROOMS, pair % ROOMS);
                    if (begin >= 0 && begin + pair < costs.length) {
                        costs[begin + pair] += cost < 0 ? FAR : cost;
                    }
                }
            }
        }

        /** From now: THINGS of one CLUMP may be in several ROOMS yet. */
        private int firstCost(House house, int i) {
            int sum = 0;
            for (int t = 0; t < house.things; t++) {
                int cost = house.cost(t, house.where[t], roomAt(i, house.clumpOf[t]));
                sum += cost < 0 ? FAR : cost;
            }
            return sum;
        }

        private int between(int i, int j) {
            int sum = 0;
            for (int c = 0; c < clumps; c++) {
                sum += numberAt(costs, (c * ROOMS + roomAt(i, c)) * ROOMS + roomAt(j, c));
            }
            return sum;
        }

        /** Fewest evenings with a STRENGTH, NONE: never; goes back from THE AIM level by level. */
        int fewest(int strength) {
            for (int i = 0; i < many; i++) {
                nights[i] = i == target ? 0 : NONE;
                total[i] = 0;
            }
            boolean more = true;
            for (int level = 0; level < many && more; level++) {
                next = firstBefore(level, strength);
                if (next != NONE) {
                    least = first[next] + total[next];
                    return level + 1;
                }
                more = goBack(level, strength);
            }
            return NONE;
        }

        /** The one for the first evening: the least carried, then the least row. */
        private int firstBefore(int level, int strength) {
            int chosen = NONE;
            int fewest = FAR;
            for (int i = 0; i < many; i++) {
                if (nights[i] == level && first[i] <= strength && first[i] + total[i] < fewest) {
                    fewest = first[i] + total[i];
                    chosen = i;
                }
            }
            return chosen;
        }

        private boolean goBack(int level, int strength) {
            boolean some = false;
            for (int i = 0; i < many; i++) {
                if (nights[i] == NONE) {
                    int cost = leastFrom(i, level, strength);
                    if (cost < FAR) {
                        nights[i] = level + 1;
                        total[i] = cost;
                        some = true;
                    }
                }
            }
            return some;
        }

        private int leastFrom(int i, int level, int strength) {
            int fewest = FAR;
            for (int j = 0; j < many; j++) {
                if (nights[j] == level) {
                    int cost = between(i, j);
                    if (cost <= strength) {
                        fewest = Math.min(fewest, cost + total[j]);
                    }
                }
            }
            return fewest;
        }

        /** The least STRENGTH by which THE AIM is come to; FAR or more: none. */
        int narrowest() {
            for (int i = 0; i < many; i++) {
                nights[i] = NONE;
                total[i] = first[i];
            }
            for (int n = 0; n < many; n++) {
                int i = easiest();
                if (i == NONE || i == target) {
                    break;
                }
                nights[i] = 0;
                for (int j = 0; j < many; j++) {
                    if (nights[j] == NONE) {
                        total[j] = Math.min(total[j], Math.max(total[i], between(i, j)));
                    }
                }
            }
            return target >= 0 && target < many ? total[target] : FAR;
        }

        private int easiest() {
            int chosen = NONE;
            int fewest = FAR;
            for (int i = 0; i < many; i++) {
                if (nights[i] == NONE && total[i] < fewest) {
                    fewest = total[i];
                    chosen = i;
                }
            }
            return chosen;
        }
    }
}
