import java.util.Arrays;

/** A town of streets and gates, and walkers who leave a gate only on the foot they last came in on. */
public final class FootByGate {
    public static final int NONE = -1, UNKNOWN = -101, OUTSIDE = -102, STATE = -103, FULL = -104;

    private static final int PLACES = 7, STREETS = 10, GATES = 3, WALKERS = 5, PRINTS = 6;
    private static final int MOST_PACES = 9, MOST_TURNS = 60, MOST_DONE = 40, LAST_PLACE = 6;
    /** Dearer than any way. */
    private static final int FAR = 1 << 30;
    private static final int KINDS = 5, WALKER = 0, CHILD = 1, HORSE = 2, LAME = 3, PONY = 4;

    private final Page page = new Page();
    private final Town map = new Town();
    private final Walker[] walkers = new Walker[WALKERS];
    private int walkerCount;
    private final int[] prints = new int[PRINTS];
    private int printCount;
    private final Image kept = new Image();
    private int townsRead;
    private int done;
    private final Gait gait = new Gait();
    private final Gait otherGait = new Gait();
    private final Ways ways = new Ways();
    private final Reach reach = new Reach();
    private final Circuit circuit = new Circuit();
    /** Made when two first go arm in arm: its rows are the largest of all. */
    private Arms arms;

    public FootByGate() {
        for (int i = 0; i < WALKERS; i++) {
            walkers[i] = new Walker();
        }
    }

    // ---- the town

    public int letters(long w) {
        int many = Page.lettersIn(w);
        if (many == NONE) {
            return OUTSIDE;
        }
        if (page.length + many > Page.LIMIT) {
            return FULL;
        }
        page.append(w, many);
        return page.length;
    }

    public int blank() {
        int had = page.length;
        page.length = 0;
        return had;
    }

    public int fault() {
        return page.readable();
    }

    public int town() {
        if (!page.isTown()) {
            return STATE;
        }
        map.read(page);
        page.length = 0;
        walkerCount = 0;
        printCount = 0;
        townsRead++;
        return map.streets;
    }

    public int street(int street, int what) {
        if (!isStreet(street)) {
            return UNKNOWN;
        }
        switch (what) {
            case 0: return map.first[street];
            case 1: return map.second[street];
            case 2: return map.paces[street];
            case 3: return map.gate[street];
            default: return OUTSIDE;
        }
    }

    public int repave(int street, int v) {
        if (!isStreet(street)) {
            return UNKNOWN;
        }
        if (!isWithin(v, MOST_PACES)) {
            return OUTSIDE;
        }
        int was = map.paces[street];
        map.paces[street] = v;
        return was;
    }

    // ---- walkers

    public int walker(int kind, int place, int foot) {
        if (!isPlace(place)) {
            return UNKNOWN;
        }
        if (!isKind(kind) || !isWithin(foot, 1)) {
            return OUTSIDE;
        }
        if (!hasTown()) {
            return STATE;
        }
        if (walkerCount >= WALKERS) {
            return FULL;
        }
        Walker one = walkers[walkerCount];
        one.kind = kind;
        one.stand = Stand.of(place, foot, 0);
        one.skipped = 0;
        walkerCount++;
        return walkerCount - 1;
    }

    public int about(int walker, int what) {
        if (!isWalker(walker)) {
            return UNKNOWN;
        }
        Walker one = walkers[walker];
        switch (what) {
            case 0: return one.kind;
            case 1: return Stand.placeOf(one.stand);
            case 2: return Stand.footOf(one.stand);
            case 3: return one.skipped;
            case 4: return Stand.markOf(one.stand, 0);
            case 5: return Stand.markOf(one.stand, 1);
            case 6: return Stand.markOf(one.stand, 2);
            default: return OUTSIDE;
        }
    }

    public int as(int walker, int kind) {
        if (!isWalker(walker)) {
            return UNKNOWN;
        }
        if (!isKind(kind)) {
            return OUTSIDE;
        }
        return walkers[walker].isOf(kind) ? walker : NONE;
    }

    public int steps(int walker, int street) {
        if (!isWalker(walker) || !isStreet(street)) {
            return UNKNOWN;
        }
        return Walker.stepsOf(walkers[walker].kind, map.paces[street]);
    }

    public int may(int walker, int street) {
        if (!isWalker(walker) || !isStreet(street)) {
            return UNKNOWN;
        }
        Walker one = walkers[walker];
        if (!map.isAt(street, Stand.placeOf(one.stand))) {
            return NONE;
        }
        return standBehind(one, street) == NONE ? 0 : 1;
    }

    public int go(int walker, int street) {
        if (!isWalker(walker) || !isStreet(street)) {
            return UNKNOWN;
        }
        Walker one = walkers[walker];
        int next = standBehind(one, street);
        if (next == NONE) {
            return STATE;
        }
        one.stand = next;
        return Stand.placeOf(next);
    }

    public int skip(int walker) {
        if (!isWalker(walker)) {
            return UNKNOWN;
        }
        Walker one = walkers[walker];
        if (one.kind == LAME) {
            return STATE;
        }
        one.stand = Stand.skipped(one.stand);
        one.skipped++;
        return Stand.footOf(one.stand);
    }

    // ---- ways

    public int fewest(int walker, int place, int what) {
        if (!isWalker(walker) || !isPlace(place)) {
            return UNKNOWN;
        }
        if (!isWithin(what, 1)) {
            return OUTSIDE;
        }
        int few = fewestSteps(walkers[walker], place);
        return what == 0 ? few : firstStreet(walkers[walker], place, few);
    }

    public int skips(int walker, int place, int what) {
        if (!isWalker(walker) || !isPlace(place)) {
            return UNKNOWN;
        }
        if (!isWithin(what, 1)) {
            return OUTSIDE;
        }
        return skipsTold(fewestSkips(walkers[walker], place), what);
    }

    public int shut(int walker) {
        if (!isWalker(walker)) {
            return UNKNOWN;
        }
        Walker one = walkers[walker];
        gait.take(one.kind, map);
        return shutPlaces(one);
    }

    public int round(int walker, int what) {
        if (!isWalker(walker)) {
            return UNKNOWN;
        }
        if (!isWithin(what, 1)) {
            return OUTSIDE;
        }
        if (done >= MOST_DONE) {
            return STATE;
        }
        done++;
        Walker one = walkers[walker];
        gait.take(one.kind, map);
        int first = circuit.firstStreet(map, gait, one.stand);
        if (what == 1) {
            return first;
        }
        return first == NONE ? 0 : 1;
    }

    public int stones(int walker, int place, int what) {
        if (!isWalker(walker) || !isPlace(place)) {
            return UNKNOWN;
        }
        if (!isWithin(what, 1)) {
            return OUTSIDE;
        }
        if (done >= MOST_DONE) {
            return STATE;
        }
        done++;
        return streetsTold(stonesTo(walkers[walker], place), what);
    }

    public int even(int kind, int what) {
        if (!isKind(kind) || !isWithin(what, 1)) {
            return OUTSIDE;
        }
        if (!hasTown()) {
            return STATE;
        }
        return streetsTold(stonesForEven(kind), what);
    }

    public int both(int a, int b, int place) {
        if (!isWalker(a) || !isWalker(b) || a == b || !isPlace(place)) {
            return UNKNOWN;
        }
        Walker one = walkers[a];
        Walker other = walkers[b];
        if (Stand.placeOf(one.stand) != Stand.placeOf(other.stand)) {
            return STATE;
        }
        gait.take(one.kind, map);
        otherGait.take(other.kind, map);
        if (arms == null) {
            arms = new Arms();
        }
        arms.start(one.stand, other.stand);
        return arms.leastTo(map, gait, otherGait, place);
    }

    public int change(int street, int v) {
        if (!isStreet(street)) {
            return UNKNOWN;
        }
        if (!isWithin(v, MOST_PACES)) {
            return OUTSIDE;
        }
        int changed = 0;
        for (int i = 0; i < walkerCount; i++) {
            if (isShutOtherwise(walkers[i], street, v)) {
                changed |= 1 << i;
            }
        }
        return changed;
    }

    // ---- prints

    public int print(int gate, int way, int foot) {
        if (gate < 0 || gate >= map.gates) {
            return UNKNOWN;
        }
        if (!isWithin(way, 1) || !isWithin(foot, 1)) {
            return OUTSIDE;
        }
        if (printCount >= PRINTS) {
            return FULL;
        }
        prints[printCount] = printNumber(gate, way, foot);
        printCount++;
        return printCount;
    }

    public int wipe() {
        int had = printCount;
        printCount = 0;
        return had;
    }

    public int who() {
        int all = 0;
        for (int i = 0; i < walkerCount; i++) {
            if (couldLeavePrints(walkers[i])) {
                all |= 1 << i;
            }
        }
        return all;
    }

    public int walk(int walker, int turns, int seed, int what) {
        if (!isWalker(walker)) {
            return UNKNOWN;
        }
        if (turns < 1 || turns > MOST_TURNS || seed < 0 || !isWithin(what, 3)) {
            return OUTSIDE;
        }
        Walker one = walkers[walker];
        int stand = one.stand;
        int drawn = seed;
        int stayed = 0;
        for (int turn = 0; turn < turns; turn++) {
            int many = map.streetsAt(Stand.placeOf(stand));
            if (many == 0) {
                break;
            }
            drawn = nextSeed(drawn);
            int street = map.streetAt(Stand.placeOf(stand), (drawn >> 16) % many);
            int next = map.behind(stand, street, Walker.turnOf(one.kind, map.paces[street]));
            if (next == NONE) {
                stayed++;
            } else {
                stand = next;
            }
        }
        switch (what) {
            case 0: return Stand.placeOf(stand);
            case 1: return Stand.footOf(stand);
            case 2: return stayed;
            default: return drawn;
        }
    }

    // ---- what is told of all

    public int image() {
        if (!hasTown()) {
            return STATE;
        }
        kept.keepWalkers(walkers, walkerCount);
        kept.keepPrints(prints, printCount);
        kept.keepPaces(map, townsRead);
        return walkerCount;
    }

    public int restore() {
        if (!kept.isOf(townsRead)) {
            return STATE;
        }
        walkerCount = kept.bringWalkers(walkers);
        printCount = kept.bringPrints(prints);
        kept.bringPaces(map);
        return walkerCount;
    }

    public int count(int what) {
        switch (what) {
            case 0: return map.streets;
            case 1: return map.gates;
            case 2: return walkerCount;
            case 3: return printCount;
            case 4: return map.free ? 1 : 0;
            case 5: return page.length;
            case 6: return townsRead;
            case 7: return done;
            default: return OUTSIDE;
        }
    }

    public long digest() {
        long h = 619;
        for (int s = 0; s < map.streets; s++) {
            for (int what = 0; what <= 3; what++) {
                h = 31 * h + street(s, what);
            }
        }
        for (int i = 0; i < walkerCount; i++) {
            h = withWalker(h, i);
        }
        if (hasTown()) {
            int stones = stonesForEven(WALKER);
            h = 31 * h + streetsTold(stones, 0);
            h = 31 * h + streetsTold(stones, 1);
        }
        for (int i = 0; i < printCount; i++) {
            h = 31 * h + gateOfPrint(prints[i]);
            h = 31 * h + wayOfPrint(prints[i]);
            h = 31 * h + footOfPrint(prints[i]);
        }
        h = 31 * h + who();
        for (int i = 0; i < page.length; i++) {
            h = 31 * h + page.letters[i];
        }
        for (int what = 0; what <= 7; what++) {
            h = 31 * h + count(what);
        }
        return h;
    }

    private long withWalker(long before, int walker) {
        long h = before;
        for (int what = 0; what <= 6; what++) {
            h = 31 * h + about(walker, what);
        }
        h = 31 * h + shut(walker);
        int few = fewestSteps(walkers[walker], LAST_PLACE);
        h = 31 * h + few;
        h = 31 * h + firstStreet(walkers[walker], LAST_PLACE, few);
        int cost = fewestSkips(walkers[walker], LAST_PLACE);
        h = 31 * h + skipsTold(cost, 0);
        h = 31 * h + skipsTold(cost, 1);
        return h;
    }

    // ---- what names something

    private boolean hasTown() {
        return map.streets > 0;
    }

    private boolean isStreet(int street) {
        return street >= 0 && street < map.streets;
    }

    private boolean isWalker(int walker) {
        return walker >= 0 && walker < walkerCount;
    }

    private static boolean isPlace(int place) {
        return isWithin(place, PLACES - 1);
    }

    private static boolean isKind(int kind) {
        return isWithin(kind, KINDS - 1);
    }

    private static boolean isWithin(int v, int most) {
        return v >= 0 && v <= most;
    }

    // ---- how the answers are found

    private int standBehind(Walker one, int street) {
        return map.behind(one.stand, street, Walker.turnOf(one.kind, map.paces[street]));
    }

    private int fewestSteps(Walker one, int place) {
        gait.take(one.kind, map);
        return ways.leastTo(map, gait, one.stand, place, FAR, false);
    }

    /** The least street that begins a way of few steps; a way may pass the same street again. */
    private int firstStreet(Walker one, int place, int few) {
        if (few == NONE || Stand.placeOf(one.stand) == place) {
            return NONE;
        }
        gait.take(one.kind, map);
        for (int s = 0; s < map.streets; s++) {
            int next = map.behind(one.stand, s, gait.turn[s]);
            int left = few - gait.steps[s];
            if (next != NONE && left >= 0
                    && ways.leastTo(map, gait, next, place, left, false) != NONE) {
                return s;
            }
        }
        return NONE;
    }

    /** Skips and steps in one number, as Ways counts them; NONE: there is no way. */
    private int fewestSkips(Walker one, int place) {
        gait.take(one.kind, map);
        return ways.leastTo(map, gait, one.stand, place, FAR, one.kind != LAME);
    }

    private static int skipsTold(int cost, int what) {
        if (cost == NONE) {
            return NONE;
        }
        return what == 0 ? cost / Ways.SKIP : cost % Ways.SKIP;
    }

    private static int streetsTold(int bits, int what) {
        return bits == NONE || what == 1 ? bits : Integer.bitCount(bits);
    }

    /** The places that one can't come to, by the gait as it is set. */
    private int shutPlaces(Walker one) {
        reach.take(gait, map.streets);
        reach.spread(map, one.stand, true);
        return reach.placesMissed();
    }

    private boolean isShutOtherwise(Walker one, int street, int paces) {
        gait.take(one.kind, map);
        int now = shutPlaces(one);
        gait.pave(one.kind, street, paces);
        return shutPlaces(one) != now;
    }

    private int stonesTo(Walker one, int place) {
        gait.take(one.kind, map);
        int useful = turnedByStone(one.kind);
        reach.take(gait, map.streets);
        reach.loosen(useful);
        reach.spread(map, one.stand, true);
        if (!reach.hasPlace(place)) {
            return NONE;
        }
        for (int many = 0; many <= map.streets; many++) {
            for (int bits = 0; bits < (1 << map.streets); bits++) {
                if (Integer.bitCount(bits) == many && (bits & ~useful) == 0
                        && comesByStones(one, place, bits)) {
                    return bits;
                }
            }
        }
        return NONE;
    }

    private boolean comesByStones(Walker one, int place, int bits) {
        reach.take(gait, map.streets);
        reach.turnAt(bits);
        reach.spread(map, one.stand, true);
        return reach.hasPlace(place);
    }

    /** The streets on which one pace more changes the foot behind them; on others a stone is of no use. */
    private int turnedByStone(int kind) {
        int bits = 0;
        for (int s = 0; s < map.streets; s++) {
            int paces = map.paces[s];
            if (Walker.turnOf(kind, paces) != Walker.turnOf(kind, paces + 1)) {
                bits |= 1 << s;
            }
        }
        return bits;
    }

    /** All rounds are even just if the places fall into two sides that the odd streets join. */
    private int stonesForEven(int kind) {
        int asKind = kind == LAME ? WALKER : kind;
        int useful = turnedByStone(asKind);
        int best = NONE;
        for (int sides = 0; sides < (1 << PLACES); sides++) {
            int bits = streetsAgainst(sides, asKind);
            if ((bits & ~useful) == 0 && (best == NONE || isBetter(bits, best))) {
                best = bits;
            }
        }
        return best;
    }

    private int streetsAgainst(int sides, int kind) {
        int bits = 0;
        for (int s = 0; s < map.streets; s++) {
            int across = ((sides >> map.first[s]) ^ (sides >> map.second[s])) & 1;
            if (across != Walker.turnOf(kind, map.paces[s])) {
                bits |= 1 << s;
            }
        }
        return bits;
    }

    private static boolean isBetter(int bits, int best) {
        int many = Integer.bitCount(bits);
        int few = Integer.bitCount(best);
        return many < few || (many == few && bits < best);
    }

    /** Each print tells where and how one stood behind its gate, so one stand is followed alone. */
    private boolean couldLeavePrints(Walker one) {
        gait.take(one.kind, map);
        reach.take(gait, map.streets);
        int stand = one.stand;
        for (int i = 0; i < printCount; i++) {
            int street = map.streetOf[gateOfPrint(prints[i])];
            int from = wayOfPrint(prints[i]) == 0 ? map.first[street] : map.second[street];
            int foot = footOfPrint(prints[i]) ^ gait.turn[street];
            reach.spread(map, stand, false);
            if (!reach.hasStand(from, foot)) {
                return false;
            }
            stand = map.behind(Stand.of(from, foot, Stand.marksOf(stand)), street, gait.turn[street]);
            if (stand == NONE) {
                return false;
            }
        }
        return true;
    }

    /** A gate, a way and a foot in one number. */
    private static int printNumber(int gate, int way, int foot) {
        return gate * 4 + way * 2 + foot;
    }

    private static int gateOfPrint(int print) {
        return print >> 2;
    }

    private static int wayOfPrint(int print) {
        return (print >> 1) & 1;
    }

    private static int footOfPrint(int print) {
        return print & 1;
    }

    private static int nextSeed(int seed) {
        return (int) ((1103515245L * seed + 12345) & 0x7FFFFFFFL);
    }

    /** The letters that have come, and how far they read as a town. */
    private static final class Page {
        static final int LIMIT = 50;
        private static final int IN_A_LONG = 8, LAST_CODE = 126;
        private static final int AT_FIRST = 0, AT_SECOND = 1, AT_PACES = 2, BEHIND_PACES = 3;
        private static final int BEHIND_GATE = 4, AT_FREE = 5, AT_END = 6, WRONG = 7;

        final int[] letters = new int[LIMIT];
        int length;
        private int phase;
        private int streets;
        private int gates;

        static int lettersIn(long w) {
            int many = 0;
            for (int i = 0; i < IN_A_LONG; i++) {
                int code = codeIn(w, i);
                if (code > LAST_CODE || (code != 0 && many < i)) {
                    return NONE;
                }
                if (code != 0) {
                    many++;
                }
            }
            return many;
        }

        private static int codeIn(long w, int i) {
            return (int) ((w >>> (8 * i)) & 255);
        }

        void append(long w, int many) {
            for (int i = 0; i < many && length < LIMIT; i++) {
                letters[length] = codeIn(w, i);
                length++;
            }
        }

        /** How many letters, from the first, some town begins with. */
        int readable() {
            phase = AT_FIRST;
            streets = 0;
            gates = 0;
            for (int i = 0; i < length; i++) {
                phase = phaseBehind(i);
                if (phase == WRONG) {
                    return i;
                }
            }
            return length;
        }

        boolean isTown() {
            return readable() == length
                    && (phase == BEHIND_PACES || phase == BEHIND_GATE || phase == AT_END);
        }

        private int phaseBehind(int i) {
            int letter = letters[i];
            switch (phase) {
                case AT_FIRST:
                    return isPlaceSign(letter) ? AT_SECOND : WRONG;
                case AT_SECOND:
                    return i > 0 && isPlaceSign(letter) && letter != letters[i - 1] ? AT_PACES : WRONG;
                case AT_PACES:
                    streets++;
                    return letter >= '0' && letter <= '9' ? BEHIND_PACES : WRONG;
                case BEHIND_PACES:
                    return letter == '!' ? phaseBehindGate() : phaseBehindStreet(letter);
                case BEHIND_GATE:
                    return phaseBehindStreet(letter);
                case AT_FREE:
                    return letter == 'f' ? AT_END : WRONG;
                default:
                    return WRONG;
            }
        }

        private int phaseBehindGate() {
            gates++;
            return gates <= GATES ? BEHIND_GATE : WRONG;
        }

        private int phaseBehindStreet(int letter) {
            if (letter == ',' && streets < STREETS) {
                return AT_FIRST;
            }
            return letter == ';' ? AT_FREE : WRONG;
        }

        private static boolean isPlaceSign(int letter) {
            return letter >= '0' && letter < '0' + PLACES;
        }

        int digitAt(int i) {
            return letters[i] - '0';
        }

        boolean hasAt(int i, char letter) {
            return i >= 0 && i < length && letters[i] == letter;
        }
    }

    /** The streets as told, with their paces of now. */
    private static final class Town {
        int streets;
        int gates;
        boolean free;
        final int[] first = new int[STREETS];
        final int[] second = new int[STREETS];
        final int[] paces = new int[STREETS];
        final int[] gate = new int[STREETS];
        final int[] streetOf = new int[GATES];

        /** Of a page that is a town. */
        void read(Page page) {
            streets = 0;
            gates = 0;
            int at = 0;
            while (streets < STREETS && at + 2 < page.length) {
                first[streets] = page.digitAt(at);
                second[streets] = page.digitAt(at + 1);
                paces[streets] = page.digitAt(at + 2);
                gate[streets] = NONE;
                at += 3;
                if (gates < GATES && page.hasAt(at, '!')) {
                    gate[streets] = gates;
                    streetOf[gates] = streets;
                    gates++;
                    at++;
                }
                streets++;
                at++;
            }
            free = page.hasAt(page.length - 1, 'f');
        }

        boolean isAt(int street, int place) {
            return first[street] == place || second[street] == place;
        }

        int streetsAt(int place) {
            int many = 0;
            for (int s = 0; s < streets; s++) {
                if (isAt(s, place)) {
                    many++;
                }
            }
            return many;
        }

        /** Of the streets at a place the one with so many ahead of it. */
        int streetAt(int place, int ahead) {
            int left = ahead;
            for (int s = 0; s < streets; s++) {
                if (isAt(s, place)) {
                    if (left == 0) {
                        return s;
                    }
                    left--;
                }
            }
            return 0;
        }

        /** How one stands behind a street; NONE: it is not at the place, or one may not. */
        int behind(int stand, int street, int turn) {
            int place = Stand.placeOf(stand);
            if (!isAt(street, place)) {
                return NONE;
            }
            int foot = Stand.footOf(stand) ^ turn;
            int marks = Stand.marksOf(stand);
            int by = gate[street];
            if (place == first[street]) {
                return Stand.of(second[street], foot, by == NONE ? marks : Stand.marked(marks, by, foot));
            }
            if (by != NONE && !isLetOut(Stand.markOf(stand, by), foot)) {
                return NONE;
            }
            return Stand.of(first[street], foot, marks);
        }

        private boolean isLetOut(int mark, int foot) {
            return mark == NONE ? free : mark == foot;
        }
    }

    /** A place, a foot and the marks in one number; a mark has two bits a gate: 0 none, 1 left, 2 right. */
    private static final class Stand {
        static final int MARKS = 64, ALL = PLACES * 2 * MARKS;

        static int of(int place, int foot, int marks) {
            return (place * 2 + foot) * MARKS + marks;
        }

        static int placeOf(int stand) {
            return stand / (2 * MARKS);
        }

        static int footOf(int stand) {
            return (stand / MARKS) & 1;
        }

        static int marksOf(int stand) {
            return stand & (MARKS - 1);
        }

        static int markOf(int stand, int gate) {
            return ((stand >> (2 * gate)) & 3) - 1;
        }

        static int marked(int marks, int gate, int foot) {
            return (marks & ~(3 << (2 * gate))) | ((foot + 1) << (2 * gate));
        }

        static int skipped(int stand) {
            return stand ^ MARKS;
        }
    }

    /** One who walks, and what its kind does. */
    private static final class Walker {
        int kind;
        int stand;
        int skipped;

        boolean isOf(int other) {
            return other == WALKER || other == kind || (other == HORSE && kind == PONY);
        }

        static int stepsOf(int kind, int paces) {
            switch (kind) {
                case CHILD: return paces + paces / 2;
                case HORSE: return (paces + 1) / 2;
                case PONY: return (paces + 1) / 2 + 1;
                default: return paces;
            }
        }

        /** 1: behind a street of so many paces it stands on the other foot. */
        static int turnOf(int kind, int paces) {
            return kind == LAME ? 0 : stepsOf(kind, paces) & 1;
        }
    }

    /** What the streets are for one kind, so that a search need not ask again. */
    private static final class Gait {
        final int[] steps = new int[STREETS];
        final int[] turn = new int[STREETS];

        void take(int kind, Town map) {
            for (int s = 0; s < map.streets; s++) {
                pave(kind, s, map.paces[s]);
            }
        }

        void pave(int kind, int street, int paces) {
            steps[street] = Walker.stepsOf(kind, paces);
            turn[street] = Walker.turnOf(kind, paces);
        }
    }

    /** A heap of numbers below a limit, each with the least cost it was offered for. */
    private static final class Heap {
        private final int[] least;
        private final int[] heap;
        private final int[] seat;
        private int size;

        Heap(int limit) {
            least = new int[limit];
            heap = new int[limit];
            seat = new int[limit];
        }

        void clear() {
            Arrays.fill(least, FAR);
            Arrays.fill(seat, NONE);
            size = 0;
        }

        int costOf(int number) {
            return least[number];
        }

        void offer(int number, int cost) {
            if (cost >= least[number]) {
                return;
            }
            least[number] = cost;
            int at = seat[number];
            if (at == NONE) {
                at = size;
                size++;
            }
            while (at > 0 && least[heap[(at - 1) / 2]] > cost) {
                sit(heap[(at - 1) / 2], at);
                at = (at - 1) / 2;
            }
            sit(number, at);
        }

        /** The number with the least cost, which is gone then; NONE: there is none. */
        int take() {
            if (size == 0) {
                return NONE;
            }
            int top = heap[0];
            seat[top] = NONE;
            size--;
            if (size > 0) {
                sink(heap[size]);
            }
            return top;
        }

        private void sink(int number) {
            int at = 0;
            int child = 1;
            while (child < size) {
                if (child + 1 < size && least[heap[child + 1]] < least[heap[child]]) {
                    child++;
                }
                if (least[heap[child]] >= least[number]) {
                    break;
                }
                sit(heap[child], at);
                at = child;
                child = 2 * at + 1;
            }
            sit(number, at);
        }

        private void sit(int number, int at) {
            heap[at] = number;
            seat[number] = at;
        }
    }

    /** The least cost from a stand to a place: steps, and a skip dearer than all steps of a way. */
    private static final class Ways {
        static final int SKIP = 1 << 14;
        private final Heap heap = new Heap(Stand.ALL);

        /** NONE: there is no way, or none that costs at most so much. */
        int leastTo(Town map, Gait gait, int start, int place, int most, boolean skipping) {
            heap.clear();
            heap.offer(start, 0);
            for (int taken = 0; taken < Stand.ALL; taken++) {
                int stand = heap.take();
                if (stand == NONE || heap.costOf(stand) > most) {
                    return NONE;
                }
                if (Stand.placeOf(stand) == place) {
                    return heap.costOf(stand);
                }
                offerNext(map, gait, stand);
                if (skipping) {
                    heap.offer(Stand.skipped(stand), heap.costOf(stand) + SKIP);
                }
            }
            return NONE;
        }

        private void offerNext(Town map, Gait gait, int stand) {
            for (int s = 0; s < map.streets; s++) {
                int next = map.behind(stand, s, gait.turn[s]);
                if (next != NONE) {
                    heap.offer(next, heap.costOf(stand) + gait.steps[s]);
                }
            }
        }
    }

    /** All stands that one can come to, at once: for each place and foot a bit for each marks. */
    private static final class Reach {
        private static final int STAY = 1, EITHER = 3;
        /** By gate: all marks that have none at it. */
        private static final long[] UNMARKED = {0x1111111111111111L, 0x000F000F000F000FL, 0x000000000000FFFFL};

        private final long[] marks = new long[PLACES * 2];
        /** By street: STAY on the foot, 2 STAY for the other one, EITHER. */
        private final int[] turns = new int[STREETS];

        void take(Gait gait, int streets) {
            for (int s = 0; s < streets; s++) {
                turns[s] = STAY << gait.turn[s];
            }
        }

        void loosen(int streets) {
            for (int s = 0; s < STREETS; s++) {
                if (((streets >> s) & 1) != 0) {
                    turns[s] = EITHER;
                }
            }
        }

        void turnAt(int streets) {
            for (int s = 0; s < STREETS; s++) {
                if (((streets >> s) & 1) != 0) {
                    turns[s] ^= EITHER;
                }
            }
        }

        void spread(Town map, int start, boolean throughGates) {
            Arrays.fill(marks, 0L);
            marks[start / Stand.MARKS] = 1L << Stand.marksOf(start);
            boolean grown = true;
            for (int i = 0; grown && i <= Stand.ALL; i++) {
                grown = false;
                for (int s = 0; s < map.streets; s++) {
                    if (throughGates || map.gate[s] == NONE) {
                        grown |= pass(map, s, 0);
                        grown |= pass(map, s, 1);
                    }
                }
            }
        }

        boolean hasStand(int place, int foot) {
            return marks[place * 2 + foot] != 0L;
        }

        boolean hasPlace(int place) {
            return hasStand(place, 0) || hasStand(place, 1);
        }

        int placesMissed() {
            int bits = 0;
            for (int place = 0; place < PLACES; place++) {
                if (!hasPlace(place)) {
                    bits |= 1 << place;
                }
            }
            return bits;
        }

        /** All who stand ahead of a street on a foot go through it, in and out. */
        private boolean pass(Town map, int street, int foot) {
            int in = map.first[street] * 2;
            int out = map.second[street] * 2;
            int by = map.gate[street];
            boolean grown = false;
            for (int turn = 0; turn <= 1; turn++) {
                if (((turns[street] >> turn) & 1) != 0) {
                    int behind = foot ^ turn;
                    grown |= join(out + behind, cameIn(marks[in + foot], by, behind));
                    grown |= join(in + behind, letOut(marks[out + foot], by, behind, map.free));
                }
            }
            return grown;
        }

        private boolean join(int at, long more) {
            long was = marks[at];
            marks[at] = was | more;
            return marks[at] != was;
        }

        private static long cameIn(long set, int gate, int foot) {
            if (gate == NONE) {
                return set;
            }
            int unit = 1 << (2 * gate);
            long without = (set | (set >>> unit) | (set >>> (2 * unit))) & UNMARKED[gate];
            return without << (unit * (foot + 1));
        }

        private static long letOut(long set, int gate, int foot, boolean free) {
            if (gate == NONE) {
                return set;
            }
            int unit = 1 << (2 * gate);
            long let = UNMARKED[gate] << (unit * (foot + 1));
            return set & (free ? let | UNMARKED[gate] : let);
        }
    }

    /** A way through all streets, each once, and back. */
    private static final class Circuit {
        /** By the streets that are left: they tell place and foot, and no gate comes twice. */
        private final int[] tried = new int[1 << STREETS];

        int firstStreet(Town map, Gait gait, int start) {
            Arrays.fill(tried, 0);
            int all = (1 << map.streets) - 1;
            for (int s = 0; s < map.streets; s++) {
                int next = map.behind(start, s, gait.turn[s]);
                if (next != NONE && leadsHome(map, gait, next, all ^ (1 << s), Stand.placeOf(start))) {
                    return s;
                }
            }
            return NONE;
        }

        /** No deeper than there are streets: each level takes one from those that are left. */
        private boolean leadsHome(Town map, Gait gait, int stand, int left, int home) {
            if (left == 0) {
                return Stand.placeOf(stand) == home;
            }
            if (tried[left] != 0) {
                return false;
            }
            tried[left] = 1;
            for (int s = 0; s < map.streets; s++) {
                if (((left >> s) & 1) != 0) {
                    int next = map.behind(stand, s, gait.turn[s]);
                    if (next != NONE && leadsHome(map, gait, next, left ^ (1 << s), home)) {
                        return true;
                    }
                }
            }
            return false;
        }
    }

    /** Two who go arm in arm. */
    private static final class Arms {
        /** A gate has five marks of two: as at the start, or both feet of those who came in together. */
        private static final int MARKS_OF_TWO = 5, ALL = PLACES * 4 * MARKS_OF_TWO * MARKS_OF_TWO * MARKS_OF_TWO;

        private final Heap heap = new Heap(ALL);
        /** Both stands of each number, in one. */
        private final int[] stands = new int[ALL];

        void start(int one, int other) {
            heap.clear();
            offer(one, other, 0);
        }

        int leastTo(Town map, Gait gait, Gait otherGait, int place) {
            for (int taken = 0; taken < ALL; taken++) {
                int number = heap.take();
                if (number == NONE) {
                    return NONE;
                }
                if (Stand.placeOf(stands[number] / Stand.ALL) == place) {
                    return heap.costOf(number);
                }
                offerNext(map, gait, otherGait, number);
            }
            return NONE;
        }

        private void offerNext(Town map, Gait gait, Gait otherGait, int number) {
            int one = stands[number] / Stand.ALL;
            int other = stands[number] % Stand.ALL;
            for (int s = 0; s < map.streets; s++) {
                int next = map.behind(one, s, gait.turn[s]);
                int otherNext = next == NONE ? NONE : map.behind(other, s, otherGait.turn[s]);
                if (otherNext != NONE) {
                    offer(next, otherNext, heap.costOf(number) + gait.steps[s] + otherGait.steps[s]);
                }
            }
        }

        private void offer(int one, int other, int cost) {
            int number = numberOf(one, other);
            stands[number] = one * Stand.ALL + other;
            heap.offer(number, cost);
        }

        /** Without a mark of either one no two have come in since the start: then all is as it was. */
        private static int numberOf(int one, int other) {
            int number = Stand.placeOf(one) * 4 + Stand.footOf(one) * 2 + Stand.footOf(other);
            for (int gate = 0; gate < GATES; gate++) {
                int mark = Stand.markOf(one, gate);
                int otherMark = Stand.markOf(other, gate);
                boolean asAtStart = mark == NONE || otherMark == NONE;
                number = number * MARKS_OF_TWO + (asAtStart ? 0 : 1 + mark + 2 * otherMark);
            }
            return number;
        }
    }

    /** What is kept to go on from. */
    private static final class Image {
        /** Which town it is of, by how many were read; 0: none is kept. */
        private int townsRead;
        private int walkerCount;
        private final int[] stands = new int[WALKERS];
        private final int[] skipped = new int[WALKERS];
        private int printCount;
        private final int[] prints = new int[PRINTS];
        private final int[] paces = new int[STREETS];

        boolean isOf(int towns) {
            return townsRead != 0 && townsRead == towns;
        }

        void keepWalkers(Walker[] walkers, int count) {
            walkerCount = count;
            for (int i = 0; i < count; i++) {
                stands[i] = walkers[i].stand;
                skipped[i] = walkers[i].skipped;
            }
        }

        void keepPrints(int[] from, int count) {
            printCount = count;
            System.arraycopy(from, 0, prints, 0, count);
        }

        void keepPaces(Town map, int towns) {
            townsRead = towns;
            System.arraycopy(map.paces, 0, paces, 0, STREETS);
        }

        /** Kinds need not be kept: none of those walkers goes while their town stands. */
        int bringWalkers(Walker[] walkers) {
            for (int i = 0; i < walkerCount; i++) {
                walkers[i].stand = stands[i];
                walkers[i].skipped = skipped[i];
            }
            return walkerCount;
        }

        int bringPrints(int[] to) {
            System.arraycopy(prints, 0, to, 0, printCount);
            return printCount;
        }

        void bringPaces(Town map) {
            System.arraycopy(paces, 0, map.paces, 0, STREETS);
        }
    }
}
