import java.math.BigInteger;
import java.util.ArrayDeque;
import java.util.ArrayList;
import java.util.Arrays;
import java.util.Comparator;
import java.util.HashMap;
import java.util.HashSet;
import java.util.List;
import java.util.Map;
import java.util.PriorityQueue;
import java.util.Random;
import java.util.Set;

/** Random runs of calls against a second writing of the document: plain, slow, and by other means. */
public final class ModelTest {
    private static final int NONE = -1, UNKNOWN = -101, OUTSIDE = -102, STATE = -103, FULL = -104;

    record Street(int first, int second, int paces, int gate) { }

    /** Marks by gate: NONE, 0, 1. */
    record At(int place, int foot, List<Integer> marks) { }

    record Two(At a, At b) { }

    record Cost(int skips, int steps) implements Comparable<Cost> {
        public int compareTo(Cost o) {
            return skips != o.skips ? Integer.compare(skips, o.skips) : Integer.compare(steps, o.steps);
        }
    }

    record Reached(At at, Cost cost) { }

    record Printed(At at, int prints) { }

    static final class Person {
        int kind, skipped;
        At at;

        Person(int kind, At at, int skipped) {
            this.kind = kind;
            this.at = at;
            this.skipped = skipped;
        }

        Person copy() {
            return new Person(kind, at, skipped);
        }
    }

    static final class Model {
        String page = "";
        List<Street> streets = new ArrayList<>();
        boolean free;
        List<Person> people = new ArrayList<>();
        List<int[]> prints = new ArrayList<>();
        int towns, done;
        List<Person> keptPeople;
        List<Street> keptStreets;
        List<int[]> keptPrints;

        static boolean isTown(String text) {
            if (!text.matches("[0-6][0-6][0-9]!?(,[0-6][0-6][0-9]!?){0,9}(;f)?")) {
                return false;
            }
            if (text.chars().filter(c -> c == '!').count() > 3) {
                return false;
            }
            for (String street : text.split("[,;]")) {
                if (street.length() > 2 && street.charAt(0) == street.charAt(1)) {
                    return false;
                }
            }
            return true;
        }

        static boolean begins(String text) {
            for (String rest : new String[] {"", "010", "00", "10", "0", "f"}) {
                if (isTown(text + rest)) {
                    return true;
                }
            }
            return false;
        }

        int letters(long w) {
            StringBuilder more = new StringBuilder();
            boolean ended = false;
            byte[] bytes = BigInteger.valueOf(w).toByteArray();
            for (int i = 0; i < 8; i++) {
                int at = bytes.length - 1 - i;
                int code = at >= 0 ? bytes[at] & 255 : w < 0 ? 255 : 0;
                if (code > 126 || ended && code != 0) {
                    return OUTSIDE;
                }
                if (code == 0) {
                    ended = true;
                } else {
                    more.append((char) code);
                }
            }
            if (page.length() + more.length() > 50) {
                return FULL;
            }
            page += more;
            return page.length();
        }

        int blank() {
            int n = page.length();
            page = "";
            return n;
        }

        int fault() {
            for (int i = 0; i < page.length(); i++) {
                if (!begins(page.substring(0, i + 1))) {
                    return i;
                }
            }
            return page.length();
        }

        int town() {
            if (!isTown(page)) {
                return STATE;
            }
            free = page.endsWith(";f");
            String text = free ? page.substring(0, page.length() - 2) : page;
            streets = new ArrayList<>();
            int gates = 0;
            for (String s : text.split(",")) {
                int gate = s.endsWith("!") ? gates++ : NONE;
                streets.add(new Street(s.charAt(0) - 48, s.charAt(1) - 48, s.charAt(2) - 48, gate));
            }
            people.clear();
            prints.clear();
            keptPeople = null;
            page = "";
            towns++;
            return streets.size();
        }

        boolean noStreet(int s) {
            return s < 0 || s >= streets.size();
        }

        boolean noPerson(int w) {
            return w < 0 || w >= people.size();
        }

        int street(int s, int what) {
            if (noStreet(s)) {
                return UNKNOWN;
            }
            Street t = streets.get(s);
            return what == 0 ? t.first : what == 1 ? t.second : what == 2 ? t.paces : what == 3 ? t.gate : OUTSIDE;
        }

        int repave(int s, int v) {
            if (noStreet(s)) {
                return UNKNOWN;
            }
            if (v < 0 || v > 9) {
                return OUTSIDE;
            }
            Street t = streets.get(s);
            streets.set(s, new Street(t.first, t.second, v, t.gate));
            return t.paces;
        }

        int walker(int kind, int place, int foot) {
            if (place < 0 || place > 6) {
                return UNKNOWN;
            }
            if (kind < 0 || kind > 4 || foot < 0 || foot > 1) {
                return OUTSIDE;
            }
            if (streets.isEmpty()) {
                return STATE;
            }
            if (people.size() == 5) {
                return FULL;
            }
            people.add(new Person(kind, new At(place, foot, List.of(NONE, NONE, NONE)), 0));
            return people.size() - 1;
        }

        int about(int w, int what) {
            if (noPerson(w)) {
                return UNKNOWN;
            }
            Person p = people.get(w);
            if (what < 0 || what > 6) {
                return OUTSIDE;
            }
            List<Integer> all = new ArrayList<>(List.of(p.kind, p.at.place, p.at.foot, p.skipped));
            all.addAll(p.at.marks);
            return all.get(what);
        }

        int as(int w, int kind) {
            if (noPerson(w)) {
                return UNKNOWN;
            }
            if (kind < 0 || kind > 4) {
                return OUTSIDE;
            }
            Set<Integer> kinds = new HashSet<>(List.of(0));
            kinds.add(people.get(w).kind);
            if (people.get(w).kind == 4) {
                kinds.add(2);
            }
            return kinds.contains(kind) ? w : NONE;
        }

        static int stepsFor(int kind, int paces) {
            double half = paces / 2.0;
            switch (kind) {
                case 1: return paces + (int) Math.floor(half);
                case 2: return (int) Math.ceil(half);
                case 4: return (int) Math.ceil(half) + 1;
                default: return paces;
            }
        }

        int steps(int w, int s) {
            return noPerson(w) || noStreet(s) ? UNKNOWN : stepsFor(people.get(w).kind, streets.get(s).paces);
        }

        /** null: not at the street, or may not. */
        At through(At at, int kind, Street t) {
            int foot = at.foot;
            if (kind != 3 && stepsFor(kind, t.paces) % 2 == 1) {
                foot = 1 - foot;
            }
            if (at.place == t.first) {
                List<Integer> marks = new ArrayList<>(at.marks);
                if (t.gate != NONE) {
                    marks.set(t.gate, foot);
                }
                return new At(t.second, foot, marks);
            }
            if (at.place == t.second) {
                boolean may = t.gate == NONE || at.marks.get(t.gate) == foot || at.marks.get(t.gate) == NONE && free;
                return may ? new At(t.first, foot, at.marks) : null;
            }
            return null;
        }

        int may(int w, int s) {
            if (noPerson(w) || noStreet(s)) {
                return UNKNOWN;
            }
            Person p = people.get(w);
            Street t = streets.get(s);
            if (p.at.place != t.first && p.at.place != t.second) {
                return NONE;
            }
            return through(p.at, p.kind, t) == null ? 0 : 1;
        }

        int go(int w, int s) {
            if (noPerson(w) || noStreet(s)) {
                return UNKNOWN;
            }
            Person p = people.get(w);
            At next = through(p.at, p.kind, streets.get(s));
            if (next == null) {
                return STATE;
            }
            p.at = next;
            return next.place;
        }

        int skip(int w) {
            if (noPerson(w)) {
                return UNKNOWN;
            }
            Person p = people.get(w);
            if (p.kind == 3) {
                return STATE;
            }
            p.at = new At(p.at.place, 1 - p.at.foot, p.at.marks);
            p.skipped++;
            return p.at.foot;
        }

        /** The least costs of all that one can come to. */
        Map<At, Cost> costs(At from, int kind, boolean skipping) {
            Map<At, Cost> best = new HashMap<>();
            PriorityQueue<Reached> open = new PriorityQueue<>(Comparator.comparing(Reached::cost));
            open.add(new Reached(from, new Cost(0, 0)));
            while (!open.isEmpty()) {
                Reached r = open.poll();
                if (best.containsKey(r.at)) {
                    continue;
                }
                best.put(r.at, r.cost);
                for (Street t : streets) {
                    At next = through(r.at, kind, t);
                    if (next != null) {
                        open.add(new Reached(next, new Cost(r.cost.skips, r.cost.steps + stepsFor(kind, t.paces))));
                    }
                }
                if (skipping) {
                    open.add(new Reached(new At(r.at.place, 1 - r.at.foot, r.at.marks),
                            new Cost(r.cost.skips + 1, r.cost.steps)));
                }
            }
            return best;
        }

        Cost costTo(At from, int kind, int place, boolean skipping) {
            Cost least = null;
            for (Map.Entry<At, Cost> e : costs(from, kind, skipping).entrySet()) {
                if (e.getKey().place == place && (least == null || e.getValue().compareTo(least) < 0)) {
                    least = e.getValue();
                }
            }
            return least;
        }

        int fewest(int w, int place, int what) {
            if (noPerson(w) || place < 0 || place > 6) {
                return UNKNOWN;
            }
            if (what != 0 && what != 1) {
                return OUTSIDE;
            }
            Person p = people.get(w);
            Cost few = costTo(p.at, p.kind, place, false);
            if (few == null || what == 0) {
                return few == null ? NONE : few.steps;
            }
            if (p.at.place == place) {
                return NONE;
            }
            for (int s = 0; s < streets.size(); s++) {
                At next = through(p.at, p.kind, streets.get(s));
                Cost rest = next == null ? null : costTo(next, p.kind, place, false);
                if (rest != null && rest.steps + steps(w, s) == few.steps) {
                    return s;
                }
            }
            throw new IllegalStateException("no first street");
        }

        int skips(int w, int place, int what) {
            if (noPerson(w) || place < 0 || place > 6) {
                return UNKNOWN;
            }
            if (what != 0 && what != 1) {
                return OUTSIDE;
            }
            Person p = people.get(w);
            Cost few = costTo(p.at, p.kind, place, p.kind != 3);
            return few == null ? NONE : what == 0 ? few.skips : few.steps;
        }

        Set<Integer> places(At from, int kind) {
            Set<At> seen = new HashSet<>(List.of(from));
            ArrayDeque<At> open = new ArrayDeque<>(seen);
            Set<Integer> places = new HashSet<>();
            while (!open.isEmpty()) {
                At at = open.poll();
                places.add(at.place);
                for (Street t : streets) {
                    At next = through(at, kind, t);
                    if (next != null && seen.add(next)) {
                        open.add(next);
                    }
                }
            }
            return places;
        }

        int shut(int w) {
            if (noPerson(w)) {
                return UNKNOWN;
            }
            Set<Integer> places = places(people.get(w).at, people.get(w).kind);
            int bits = 0;
            for (int place = 0; place < 7; place++) {
                bits += places.contains(place) ? 0 : 1 << place;
            }
            return bits;
        }

        boolean home(At at, int kind, List<Street> left, int home, Set<List<Object>> failed) {
            if (left.isEmpty()) {
                return at.place == home;
            }
            if (failed.contains(List.of(at, left))) {
                return false;
            }
            for (int i = 0; i < left.size(); i++) {
                At next = through(at, kind, left.get(i));
                List<Street> rest = new ArrayList<>(left);
                rest.remove(i);
                if (next != null && home(next, kind, rest, home, failed)) {
                    return true;
                }
            }
            failed.add(List.of(at, left));
            return false;
        }

        int round(int w, int what) {
            if (noPerson(w)) {
                return UNKNOWN;
            }
            if (what != 0 && what != 1) {
                return OUTSIDE;
            }
            if (done == 40) {
                return STATE;
            }
            done++;
            Person p = people.get(w);
            for (int s = 0; s < streets.size(); s++) {
                At next = through(p.at, p.kind, streets.get(s));
                List<Street> rest = new ArrayList<>(streets);
                rest.remove(s);
                if (next != null && home(next, p.kind, rest, p.at.place, new HashSet<>())) {
                    return what == 0 ? 1 : s;
                }
            }
            return what == 0 ? 0 : NONE;
        }

        List<Integer> subsets() {
            List<Integer> all = new ArrayList<>();
            for (int bits = 0; bits < 1 << streets.size(); bits++) {
                all.add(bits);
            }
            all.sort(Comparator.comparing((Integer b) -> Integer.bitCount(b)).thenComparing(b -> b));
            return all;
        }

        List<Street> withStones(int bits) {
            List<Street> paved = new ArrayList<>();
            for (int s = 0; s < streets.size(); s++) {
                Street t = streets.get(s);
                paved.add(new Street(t.first, t.second, t.paces + (bits >> s & 1), t.gate));
            }
            return paved;
        }

        static int told(int bits, int what) {
            return bits == NONE ? NONE : what == 1 ? bits : Integer.bitCount(bits);
        }

        int stones(int w, int place, int what) {
            if (noPerson(w) || place < 0 || place > 6) {
                return UNKNOWN;
            }
            if (what != 0 && what != 1) {
                return OUTSIDE;
            }
            if (done == 40) {
                return STATE;
            }
            done++;
            List<Street> before = streets;
            int found = NONE;
            for (int bits : subsets()) {
                streets = before;
                streets = withStones(bits);
                if (places(people.get(w).at, people.get(w).kind).contains(place)) {
                    found = bits;
                    break;
                }
            }
            streets = before;
            return told(found, what);
        }

        static boolean oddRound(List<Street> streets, int kind) {
            for (int start = 0; start < 7; start++) {
                Set<Integer> seen = new HashSet<>(List.of(start * 2));
                ArrayDeque<Integer> open = new ArrayDeque<>(seen);
                while (!open.isEmpty()) {
                    int at = open.poll();
                    for (Street t : streets) {
                        int odd = (at + stepsFor(kind, t.paces)) % 2;
                        int to = at / 2 == t.first ? t.second : at / 2 == t.second ? t.first : NONE;
                        if (to != NONE && seen.add(to * 2 + odd)) {
                            open.add(to * 2 + odd);
                        }
                    }
                }
                if (seen.contains(start * 2 + 1)) {
                    return true;
                }
            }
            return false;
        }

        int even(int kind, int what) {
            if (kind < 0 || kind > 4 || what != 0 && what != 1) {
                return OUTSIDE;
            }
            if (streets.isEmpty()) {
                return STATE;
            }
            for (int bits : subsets()) {
                if (!oddRound(withStones(bits), kind == 3 ? 0 : kind)) {
                    return told(bits, what);
                }
            }
            return NONE;
        }

        int both(int a, int b, int place) {
            if (noPerson(a) || noPerson(b) || a == b || place < 0 || place > 6) {
                return UNKNOWN;
            }
            Person p = people.get(a);
            Person q = people.get(b);
            if (p.at.place != q.at.place) {
                return STATE;
            }
            Map<Two, Integer> best = new HashMap<>();
            best.put(new Two(p.at, q.at), 0);
            ArrayDeque<Two> open = new ArrayDeque<>(best.keySet());
            while (!open.isEmpty()) {
                Two two = open.poll();
                for (Street t : streets) {
                    At x = through(two.a, p.kind, t);
                    At y = through(two.b, q.kind, t);
                    if (x == null || y == null) {
                        continue;
                    }
                    int cost = best.get(two) + stepsFor(p.kind, t.paces) + stepsFor(q.kind, t.paces);
                    Two next = new Two(x, y);
                    if (cost < best.getOrDefault(next, Integer.MAX_VALUE)) {
                        best.put(next, cost);
                        open.add(next);
                    }
                }
            }
            int least = NONE;
            for (Map.Entry<Two, Integer> e : best.entrySet()) {
                if (e.getKey().a.place == place && (least == NONE || e.getValue() < least)) {
                    least = e.getValue();
                }
            }
            return least;
        }

        int change(int s, int v) {
            if (noStreet(s)) {
                return UNKNOWN;
            }
            if (v < 0 || v > 9) {
                return OUTSIDE;
            }
            int bits = 0;
            for (int w = 0; w < people.size(); w++) {
                int now = shut(w);
                int was = repave(s, v);
                bits += shut(w) != now ? 1 << w : 0;
                repave(s, was);
            }
            return bits;
        }

        int gates() {
            return (int) streets.stream().filter(t -> t.gate != NONE).count();
        }

        int print(int gate, int way, int foot) {
            if (gate < 0 || gate >= gates()) {
                return UNKNOWN;
            }
            if (way < 0 || way > 1 || foot < 0 || foot > 1) {
                return OUTSIDE;
            }
            if (prints.size() == 6) {
                return FULL;
            }
            prints.add(new int[] {gate, way, foot});
            return prints.size();
        }

        int wipe() {
            int n = prints.size();
            prints.clear();
            return n;
        }

        /** Follows all that one can do, as far as it leaves the prints. */
        boolean couldBe(Person p) {
            Set<Printed> seen = new HashSet<>(List.of(new Printed(p.at, 0)));
            ArrayDeque<Printed> open = new ArrayDeque<>(seen);
            while (!open.isEmpty()) {
                Printed now = open.poll();
                if (now.prints == prints.size()) {
                    return true;
                }
                int[] print = prints.get(now.prints);
                for (Street t : streets) {
                    At next = through(now.at, p.kind, t);
                    int[] left = next == null ? null
                            : new int[] {t.gate, now.at.place == t.first ? 0 : 1, next.foot};
                    if (next != null && (t.gate == NONE || Arrays.equals(left, print))) {
                        Printed then = new Printed(next, now.prints + (t.gate == NONE ? 0 : 1));
                        if (seen.add(then)) {
                            open.add(then);
                        }
                    }
                }
            }
            return false;
        }

        int who() {
            int bits = 0;
            for (int w = 0; w < people.size(); w++) {
                bits += couldBe(people.get(w)) ? 1 << w : 0;
            }
            return bits;
        }

        int walk(int w, int turns, int seed, int what) {
            if (noPerson(w)) {
                return UNKNOWN;
            }
            if (turns < 1 || turns > 60 || seed < 0 || what < 0 || what > 3) {
                return OUTSIDE;
            }
            Person p = people.get(w).copy();
            BigInteger s = BigInteger.valueOf(seed);
            int stayed = 0;
            for (int i = 0; i < turns; i++) {
                List<Street> here = new ArrayList<>();
                for (Street t : streets) {
                    if (t.first == p.at.place || t.second == p.at.place) {
                        here.add(t);
                    }
                }
                if (here.isEmpty()) {
                    continue;
                }
                s = s.multiply(BigInteger.valueOf(1103515245)).add(BigInteger.valueOf(12345))
                        .mod(BigInteger.TWO.pow(31));
                int drawn = s.divide(BigInteger.valueOf(65536)).mod(BigInteger.valueOf(here.size())).intValue();
                At next = through(p.at, p.kind, here.get(drawn));
                if (next == null) {
                    stayed++;
                } else {
                    p.at = next;
                }
            }
            return what == 0 ? p.at.place : what == 1 ? p.at.foot : what == 2 ? stayed : s.intValueExact();
        }

        static List<Person> copies(List<Person> from) {
            List<Person> all = new ArrayList<>();
            for (Person p : from) {
                all.add(p.copy());
            }
            return all;
        }

        int image() {
            if (streets.isEmpty()) {
                return STATE;
            }
            keptPeople = copies(people);
            keptStreets = new ArrayList<>(streets);
            keptPrints = new ArrayList<>(prints);
            return people.size();
        }

        int restore() {
            if (keptPeople == null) {
                return STATE;
            }
            people = copies(keptPeople);
            streets = new ArrayList<>(keptStreets);
            prints = new ArrayList<>(keptPrints);
            return people.size();
        }

        int count(int what) {
            int[] all = {streets.size(), gates(), people.size(), prints.size(), free ? 1 : 0, page.length(), towns, done};
            return what < 0 || what > 7 ? OUTSIDE : all[what];
        }

        long digest() {
            List<Integer> n = new ArrayList<>();
            for (int s = 0; s < streets.size(); s++) {
                for (int what = 0; what < 4; what++) {
                    n.add(street(s, what));
                }
            }
            for (int w = 0; w < people.size(); w++) {
                for (int what = 0; what < 7; what++) {
                    n.add(about(w, what));
                }
                n.addAll(List.of(shut(w), fewest(w, 6, 0), fewest(w, 6, 1), skips(w, 6, 0), skips(w, 6, 1)));
            }
            if (!streets.isEmpty()) {
                n.addAll(List.of(even(0, 0), even(0, 1)));
            }
            for (int[] print : prints) {
                n.addAll(List.of(print[0], print[1], print[2]));
            }
            n.add(who());
            page.chars().forEach(n::add);
            for (int what = 0; what < 8; what++) {
                n.add(count(what));
            }
            BigInteger h = BigInteger.valueOf(619);
            for (int v : n) {
                h = h.multiply(BigInteger.valueOf(31)).add(BigInteger.valueOf(v));
            }
            return h.longValue();
        }
    }

    private static final Random random = new Random(20261118);
    private static int wrong = 0;
    private static final Map<String, Integer> seen = new java.util.TreeMap<>();

    /** Mostly one of 0 to most, seldom one beyond. */
    private static int some(int most) {
        switch (random.nextInt(40)) {
            case 0: return -1;
            case 1: return most + 1;
            case 2: return random.nextInt();
            default: return random.nextInt(most + 1);
        }
    }

    private static String someTown(int streets, int places) {
        StringBuilder text = new StringBuilder();
        int gates = random.nextInt(4);
        boolean few = random.nextBoolean();
        for (int s = 0; s < streets; s++) {
            int first = random.nextInt(places);
            int second = (first + 1 + random.nextInt(places - 1)) % places;
            text.append(s == 0 ? "" : ",").append(first).append(second).append(random.nextInt(few ? 3 : 10));
            if (gates > 0 && random.nextInt(streets - s) < gates) {
                text.append('!');
                gates--;
            }
        }
        return text.append(random.nextInt(4) == 0 ? ";f" : "").toString();
    }

    /** A town with one letter changed, gone or come. */
    private static String spoilt(String town) {
        StringBuilder text = new StringBuilder(town);
        int at = random.nextInt(text.length());
        String signs = "0123456789!,;f /:";
        char sign = signs.charAt(random.nextInt(signs.length()));
        switch (random.nextInt(3)) {
            case 0: text.setCharAt(at, sign); break;
            case 1: text.deleteCharAt(at); break;
            default: text.insert(at, sign); break;
        }
        return text.toString();
    }

    private static void check(String call, long got, long want, Model m) {
        String name = call.substring(0, call.indexOf('(')) + (want < 0 && want >= -104 ? " refused or NONE" : "");
        seen.merge(name, 1, Integer::sum);
        if (got != want && wrong++ < 20) {
            System.out.println(call + " answered " + got + ", due is " + want + "; page " + m.page + " in " + m.streets
                    + (m.free ? " free" : ""));
        }
    }

    private static void write(FootByGate x, Model m, String text) {
        for (int at = 0; at < text.length(); ) {
            int end = Math.min(text.length(), at + 1 + random.nextInt(8));
            long w = 0;
            for (int i = end - 1; i >= at; i--) {
                w = w << 8 | text.charAt(i);
            }
            check("letters(" + w + ")", x.letters(w), m.letters(w), m);
            at = end;
        }
    }

    private static void readTown(FootByGate x, Model m, int streets, int places) {
        if (random.nextInt(4) != 0) {
            check("blank()", x.blank(), m.blank(), m);
        }
        String text = someTown(streets, places);
        if (random.nextInt(4) == 0) {
            write(x, m, spoilt(text));
            check("fault()", x.fault(), m.fault(), m);
            check("town()", x.town(), m.town(), m);
            check("blank()", x.blank(), m.blank(), m);
        }
        write(x, m, text);
        check("fault()", x.fault(), m.fault(), m);
        check("town()", x.town(), m.town(), m);
    }

    private static int someWalker(Model m) {
        return some(Math.max(0, m.people.size() - 1));
    }

    private static int someStreet(Model m) {
        return some(Math.max(0, m.streets.size() - 1));
    }

    /** Mostly a place with a street. */
    private static int somePlace(Model m) {
        if (m.streets.isEmpty() || random.nextInt(4) == 0) {
            return some(6);
        }
        Street t = m.streets.get(random.nextInt(m.streets.size()));
        return random.nextBoolean() ? t.first() : t.second();
    }

    /** Mostly a street at the place of the walker. */
    private static int someStreetOf(Model m, int w) {
        int s = someStreet(m);
        for (int i = 0; i < 20 && m.may(w, s) == NONE; i++) {
            s = someStreet(m);
        }
        return s;
    }

    private static void callOfTownOrWalkers(FootByGate x, Model m) {
        int w = someWalker(m);
        int s = random.nextInt(4) == 0 ? someStreet(m) : someStreetOf(m, w);
        int p = some(6);
        int what = some(6);
        switch (random.nextInt(12)) {
            case 0:
                long letters = random.nextBoolean() ? random.nextLong() : random.nextInt(127) << 8 * random.nextInt(3);
                check("letters(" + letters + ")", x.letters(letters), m.letters(letters), m);
                break;
            case 1: check("fault()", x.fault(), m.fault(), m); break;
            case 2: check("street(" + s + ", " + what % 5 + ")", x.street(s, what % 5), m.street(s, what % 5), m); break;
            case 3:
                int v = some(9);
                check("repave(" + s + ", " + v + ")", x.repave(s, v), m.repave(s, v), m);
                break;
            case 4:
                int kind = some(4);
                int foot = some(1);
                check("walker(" + kind + ", " + p + ", " + foot + ")", x.walker(kind, p, foot), m.walker(kind, p, foot), m);
                break;
            case 5: check("about(" + w + ", " + what + ")", x.about(w, what), m.about(w, what), m); break;
            case 6: check("as(" + w + ", " + p + ")", x.as(w, p), m.as(w, p), m); break;
            case 7: check("steps(" + w + ", " + s + ")", x.steps(w, s), m.steps(w, s), m); break;
            case 8: check("may(" + w + ", " + s + ")", x.may(w, s), m.may(w, s), m); break;
            case 9: check("skip(" + w + ")", x.skip(w), m.skip(w), m); break;
            default: check("go(" + w + ", " + s + ")", x.go(w, s), m.go(w, s), m); break;
        }
    }

    private static void callOfWays(FootByGate x, Model m) {
        int w = someWalker(m);
        int p = somePlace(m);
        int what = some(1);
        switch (random.nextInt(8)) {
            case 0:
                check("fewest(" + w + ", " + p + ", " + what + ")", x.fewest(w, p, what), m.fewest(w, p, what), m);
                break;
            case 1:
                check("skips(" + w + ", " + p + ", " + what + ")", x.skips(w, p, what), m.skips(w, p, what), m);
                break;
            case 2: check("shut(" + w + ")", x.shut(w), m.shut(w), m); break;
            case 3: check("round(" + w + ", " + what + ")", x.round(w, what), m.round(w, what), m); break;
            case 4:
                check("stones(" + w + ", " + p + ", " + what + ")", x.stones(w, p, what), m.stones(w, p, what), m);
                break;
            case 5:
                int kind = some(4);
                check("even(" + kind + ", " + what + ")", x.even(kind, what), m.even(kind, what), m);
                break;
            case 6:
                int b = someWalker(m);
                check("both(" + w + ", " + b + ", " + p + ")", x.both(w, b, p), m.both(w, b, p), m);
                break;
            default:
                int s = someStreet(m);
                int v = some(9);
                check("change(" + s + ", " + v + ")", x.change(s, v), m.change(s, v), m);
                break;
        }
    }

    private static void callOfPrintsOrAll(FootByGate x, Model m) {
        switch (random.nextInt(12)) {
            case 0:
            case 1:
            case 2:
                int gate = some(Math.max(0, m.gates() - 1));
                int way = some(1);
                int foot = some(1);
                check("print(" + gate + ", " + way + ", " + foot + ")", x.print(gate, way, foot),
                        m.print(gate, way, foot), m);
                break;
            case 3: check("wipe()", x.wipe(), m.wipe(), m); break;
            case 4:
            case 5:
            case 6: check("who()", x.who(), m.who(), m); break;
            case 7:
                int w = someWalker(m);
                int turns = some(60);
                int seed = random.nextInt(8) == 0 ? random.nextInt() : random.nextInt(1 << 31 - 1 - random.nextInt(20));
                int what = some(3);
                check("walk(" + w + ", " + turns + ", " + seed + ", " + what + ")", x.walk(w, turns, seed, what),
                        m.walk(w, turns, seed, what), m);
                break;
            case 8: check("image()", x.image(), m.image(), m); break;
            case 9: check("restore()", x.restore(), m.restore(), m); break;
            case 10:
                int of = some(7);
                check("count(" + of + ")", x.count(of), m.count(of), m);
                break;
            default: check("digest()", x.digest(), m.digest(), m); break;
        }
    }

    /** Prints that a walk of one of them would leave, so that who() has someone to tell. */
    private static void leavePrints(FootByGate x, Model m) {
        if (m.people.isEmpty()) {
            return;
        }
        if (random.nextInt(3) != 0) {
            check("wipe()", x.wipe(), m.wipe(), m);
        }
        Person p = m.people.get(random.nextInt(m.people.size())).copy();
        for (int i = 0; i < 12; i++) {
            Street t = m.streets.get(random.nextInt(m.streets.size()));
            At next = m.through(p.at, p.kind, t);
            if (next != null) {
                if (t.gate() != NONE) {
                    int way = p.at.place() == t.first() ? 0 : 1;
                    check("print()", x.print(t.gate(), way, next.foot()), m.print(t.gate(), way, next.foot()), m);
                    check("who()", x.who(), m.who(), m);
                }
                p.at = next;
            }
        }
    }

    /** Some of them together, so that both() has two in the same place. */
    private static void addWalkers(FootByGate x, Model m, int places) {
        int meeting = random.nextInt(places);
        for (int i = 0; i < 4; i++) {
            int kind = random.nextInt(5);
            int place = random.nextBoolean() ? meeting : random.nextInt(places);
            int foot = random.nextInt(2);
            check("walker()", x.walker(kind, place, foot), m.walker(kind, place, foot), m);
        }
    }

    private static void run(int streets, int places, int calls) {
        FootByGate x = new FootByGate();
        Model m = new Model();
        for (int i = 0; i < 3; i++) {
            callOfTownOrWalkers(x, m);
            callOfWays(x, m);
            callOfPrintsOrAll(x, m);
        }
        readTown(x, m, streets, places);
        addWalkers(x, m, places);
        for (int i = 0; i < calls; i++) {
            switch (random.nextInt(60)) {
                case 0:
                    readTown(x, m, streets, places);
                    addWalkers(x, m, places);
                    break;
                case 1:
                case 2: leavePrints(x, m); break;
                default:
                    switch (random.nextInt(4)) {
                        case 0: callOfWays(x, m); break;
                        case 1: callOfPrintsOrAll(x, m); break;
                        default: callOfTownOrWalkers(x, m); break;
                    }
            }
        }
        check("digest()", x.digest(), m.digest(), m);
    }

    /** Gates one behind another, and rounds of two streets beside them: there the marks of now decide. */
    private static String deepTown() {
        List<String> streets = new ArrayList<>();
        int deep = 1 + random.nextInt(3);
        for (int i = 0; i < deep; i++) {
            streets.add("" + i + (i + 1) + random.nextInt(3) + "!");
        }
        for (int spare = deep + 1; spare < 7 && streets.size() < 9; spare++) {
            int beside = random.nextInt(spare);
            streets.add("" + beside + spare + random.nextInt(5));
            if (random.nextInt(3) != 0) {
                streets.add("" + spare + beside + random.nextInt(5));
            }
        }
        java.util.Collections.shuffle(streets, random);
        return String.join(",", streets) + (random.nextInt(5) == 0 ? ";f" : "");
    }

    /** Two come in arm in arm, skipping now and then, and want to come out again. */
    private static void deepRun() {
        FootByGate x = new FootByGate();
        Model m = new Model();
        write(x, m, deepTown());
        check("town()", x.town(), m.town(), m);
        for (int i = 0; i < 2; i++) {
            int kind = random.nextInt(5);
            check("walker()", x.walker(kind, 0, 0), m.walker(kind, 0, 0), m);
        }
        for (int i = 0; i < 40; i++) {
            int s = random.nextInt(m.streets.size());
            if (m.may(0, s) == 1 && m.may(1, s) == 1 && (m.people.get(0).at.place() == m.streets.get(s).first()
                    || random.nextInt(3) == 0)) {
                check("go(0, " + s + ")", x.go(0, s), m.go(0, s), m);
                check("go(1, " + s + ")", x.go(1, s), m.go(1, s), m);
            }
            int w = random.nextInt(8);
            if (w < 2) {
                check("skip(" + w + ")", x.skip(w), m.skip(w), m);
            }
        }
        for (int p = 0; p < 7; p++) {
            check("both(0, 1, " + p + ")", x.both(0, 1, p), m.both(0, 1, p), m);
            for (int w = 0; w < 2; w++) {
                check("fewest(" + w + ", " + p + ", 0)", x.fewest(w, p, 0), m.fewest(w, p, 0), m);
                check("fewest(" + w + ", " + p + ", 1)", x.fewest(w, p, 1), m.fewest(w, p, 1), m);
                check("skips(" + w + ", " + p + ", 0)", x.skips(w, p, 0), m.skips(w, p, 0), m);
                check("skips(" + w + ", " + p + ", 1)", x.skips(w, p, 1), m.skips(w, p, 1), m);
            }
        }
        int w = random.nextInt(2);
        check("shut(" + w + ")", x.shut(w), m.shut(w), m);
        check("stones(" + w + ", 0, 1)", x.stones(w, 0, 1), m.stones(w, 0, 1), m);
        check("round(" + w + ", 1)", x.round(w, 1), m.round(w, 1), m);
        int s = random.nextInt(m.streets.size());
        int v = random.nextInt(10);
        check("change(" + s + ", " + v + ")", x.change(s, v), m.change(s, v), m);
    }

    public static void main(String[] args) {
        int runs = args.length > 0 ? Integer.parseInt(args[0]) : 300;
        for (int i = 0; i < runs; i++) {
            int streets = i % 10 == 0 ? 7 + random.nextInt(4) : 1 + random.nextInt(7);
            run(streets, 2 + random.nextInt(Math.min(6, streets + 1)), 160);
        }
        for (int i = 0; i < 3 * runs; i++) {
            deepRun();
        }
        if (args.length > 0) {
            System.out.println(seen);
        }
        System.out.println(wrong == 0 ? "all runs are as the model's" : wrong + " answers are not the model's");
        if (wrong != 0) {
            System.exit(1);
        }
    }
}
