import java.util.ArrayList;
import java.util.Arrays;
import java.util.List;

/**
 * Every call with arguments at and beyond each edge, in towns that are empty, full and between: which refusal is
 * told, that of several the first is, that what is not refused is answered, and that a refused call changes nothing.
 */
public final class RefusalsTest {
    private static final int NONE = -1, UNKNOWN = -101, OUTSIDE = -102, STATE = -103, FULL = -104;
    private static final int ANSWERED = 0;
    /** An object is used for at most 512 calls: some are left to make it, and to ask it behind these. */
    private static final int BATCH = 200;

    private static final int[] EDGES = {Integer.MIN_VALUE, -104, -103, -102, -101, -2, -1, 0, 1, 2, 3, 4, 5, 6, 7, 8, 9, 10,
        11, 61, Integer.MAX_VALUE};
    /** For walk(), which has four: turns and seeds have edges of their own. */
    private static final int[] SMALL = {Integer.MIN_VALUE, -1, 0, 1, 3, 4, 5, 59, 60, 61, Integer.MAX_VALUE};
    private static final long[] WORDS = {0, 1, 126, 127, 128, 255, 0x100, 0x7E00, 0x7F00, 0x300030, 0x3030, 0x303030,
        0x7E7E7E7E7E7E7E7EL, 0x7F7E7E7E7E7E7E7EL, 0x7E7E7E7E7E7E7E7FL, 0x7E007E7E7E7E7E7EL, 0x7E00000000000000L,
        0x007E7E7E7E7E7E7EL, 0x0101010101010101L, Long.MIN_VALUE, Long.MAX_VALUE, -1L};

    private static int wrong = 0;
    private static int refusedCalls = 0;
    private static int answeredCalls = 0;

    private static void fault(String words) {
        if (wrong++ < 40) {
            System.out.println(words);
        }
    }

    // ---- what the document tells of refusals, by what an object holds

    /** What there is, told by the one who made it; what calls that change nothing tell is asked of the object itself. */
    record Held(boolean town, int streets, int gates, int walkers, int prints, int done, boolean image, String page) {
        boolean noStreet(int s) {
            return s < 0 || s >= streets;
        }

        boolean noWalker(int w) {
            return w < 0 || w >= walkers;
        }

        static boolean noPlace(int p) {
            return p < 0 || p > 6;
        }

        static boolean beyond(int v, int most) {
            return v < 0 || v > most;
        }
    }

    private static final String[] CALLS = {"letters", "blank", "fault", "town", "street", "repave", "walker", "about", "as",
        "steps", "may", "go", "skip", "fewest", "skips", "shut", "round", "stones", "even", "both", "change", "print",
        "wipe", "who", "walk", "image", "restore", "count", "digest"};

    private static int parameters(String call) {
        switch (call) {
            case "blank": case "fault": case "town": case "wipe": case "who": case "image": case "restore": case "digest":
                return 0;
            case "letters": case "skip": case "shut": case "count":
                return 1;
            case "street": case "repave": case "about": case "as": case "steps": case "may": case "go": case "round":
            case "even": case "change":
                return 2;
            case "walk":
                return 4;
            default:
                return 3;
        }
    }

    private static int refusal(String call, int[] a, Held h, FootByGate twin) {
        switch (call) {
            case "letters": return lettersRefusal(WORDS[a[0]], h);
            case "town": return h.page.equals("whole") ? ANSWERED : STATE;
            case "street": return h.noStreet(a[0]) ? UNKNOWN : Held.beyond(a[1], 3) ? OUTSIDE : ANSWERED;
            case "repave": case "change": return h.noStreet(a[0]) ? UNKNOWN : Held.beyond(a[1], 9) ? OUTSIDE : ANSWERED;
            case "walker":
                return Held.noPlace(a[1]) ? UNKNOWN : Held.beyond(a[0], 4) || Held.beyond(a[2], 1) ? OUTSIDE
                        : !h.town ? STATE : h.walkers == 5 ? FULL : ANSWERED;
            case "about": return h.noWalker(a[0]) ? UNKNOWN : Held.beyond(a[1], 6) ? OUTSIDE : ANSWERED;
            case "as": return h.noWalker(a[0]) ? UNKNOWN : Held.beyond(a[1], 4) ? OUTSIDE : ANSWERED;
            case "steps": case "may": return h.noWalker(a[0]) || h.noStreet(a[1]) ? UNKNOWN : ANSWERED;
            case "go":
                return h.noWalker(a[0]) || h.noStreet(a[1]) ? UNKNOWN : twin.may(a[0], a[1]) != 1 ? STATE : ANSWERED;
            case "skip": return h.noWalker(a[0]) ? UNKNOWN : twin.about(a[0], 0) == 3 ? STATE : ANSWERED;
            case "fewest": case "skips":
                return h.noWalker(a[0]) || Held.noPlace(a[1]) ? UNKNOWN : Held.beyond(a[2], 1) ? OUTSIDE : ANSWERED;
            case "shut": return h.noWalker(a[0]) ? UNKNOWN : ANSWERED;
            case "round":
                return h.noWalker(a[0]) ? UNKNOWN : Held.beyond(a[1], 1) ? OUTSIDE : h.done == 40 ? STATE : ANSWERED;
            case "stones":
                return h.noWalker(a[0]) || Held.noPlace(a[1]) ? UNKNOWN : Held.beyond(a[2], 1) ? OUTSIDE
                        : h.done == 40 ? STATE : ANSWERED;
            case "even": return Held.beyond(a[0], 4) || Held.beyond(a[1], 1) ? OUTSIDE : !h.town ? STATE : ANSWERED;
            case "both":
                return h.noWalker(a[0]) || h.noWalker(a[1]) || a[0] == a[1] || Held.noPlace(a[2]) ? UNKNOWN
                        : twin.about(a[0], 1) != twin.about(a[1], 1) ? STATE : ANSWERED;
            case "print":
                return Held.beyond(a[0], h.gates - 1) ? UNKNOWN : Held.beyond(a[1], 1) || Held.beyond(a[2], 1) ? OUTSIDE
                        : h.prints == 6 ? FULL : ANSWERED;
            case "walk":
                return h.noWalker(a[0]) ? UNKNOWN
                        : a[1] < 1 || a[1] > 60 || a[2] < 0 || Held.beyond(a[3], 3) ? OUTSIDE : ANSWERED;
            case "image": return h.town ? ANSWERED : STATE;
            case "restore": return h.image ? ANSWERED : STATE;
            case "count": return Held.beyond(a[0], 7) ? OUTSIDE : ANSWERED;
            default: return ANSWERED;
        }
    }

    private static int lettersRefusal(long w, Held h) {
        int many = 0;
        boolean ended = false;
        for (int i = 0; i < 8; i++) {
            long code = w >>> 8 * i & 255;
            if (code > 126 || ended && code != 0) {
                return OUTSIDE;
            }
            ended |= code == 0;
            many += code == 0 ? 0 : 1;
        }
        int had = h.page.equals("full") ? 50 : h.page.equals("almost full") ? 43 : 0;
        return had + many > 50 ? FULL : ANSWERED;
    }

    private static long made(FootByGate x, String call, int[] a) {
        switch (call) {
            case "letters": return x.letters(WORDS[a[0]]);
            case "blank": return x.blank();
            case "fault": return x.fault();
            case "town": return x.town();
            case "street": return x.street(a[0], a[1]);
            case "repave": return x.repave(a[0], a[1]);
            case "walker": return x.walker(a[0], a[1], a[2]);
            case "about": return x.about(a[0], a[1]);
            case "as": return x.as(a[0], a[1]);
            case "steps": return x.steps(a[0], a[1]);
            case "may": return x.may(a[0], a[1]);
            case "go": return x.go(a[0], a[1]);
            case "skip": return x.skip(a[0]);
            case "fewest": return x.fewest(a[0], a[1], a[2]);
            case "skips": return x.skips(a[0], a[1], a[2]);
            case "shut": return x.shut(a[0]);
            case "round": return x.round(a[0], a[1]);
            case "stones": return x.stones(a[0], a[1], a[2]);
            case "even": return x.even(a[0], a[1]);
            case "both": return x.both(a[0], a[1], a[2]);
            case "change": return x.change(a[0], a[1]);
            case "print": return x.print(a[0], a[1], a[2]);
            case "wipe": return x.wipe();
            case "who": return x.who();
            case "walk": return x.walk(a[0], a[1], a[2], a[3]);
            case "image": return x.image();
            case "restore": return x.restore();
            case "count": return x.count(a[0]);
            default: return x.digest();
        }
    }

    /** Calls that tell, and neither change anything nor count as done. */
    private static boolean tellsOnly(String call) {
        switch (call) {
            case "fault": case "street": case "about": case "as": case "steps": case "may": case "fewest": case "skips":
            case "shut": case "even": case "both": case "change": case "who": case "walk": case "count": case "digest":
                return true;
            default:
                return false;
        }
    }

    // ---- objects to call

    private static void write(FootByGate x, String text) {
        for (int i = 0; i < text.length(); i += 8) {
            long w = 0;
            for (int k = Math.min(text.length(), i + 8) - 1; k >= i; k--) {
                w = w << 8 | text.charAt(k);
            }
            x.letters(w);
        }
    }

    private static void read(FootByGate x, String text) {
        write(x, text);
        x.town();
    }

    private static void page(FootByGate x, String page) {
        switch (page) {
            case "full": write(x, "012,".repeat(12)); write(x, "01"); break;
            case "almost full": write(x, "012,".repeat(10)); write(x, "012"); break;
            case "whole": write(x, "123!,234;f"); break;
            case "begun": write(x, "012!,"); break;
            default: break;
        }
    }

    private static void walkers(FootByGate x, int many) {
        int[] places = {0, 0, 2, 1, 2};
        for (int i = 0; i < many; i++) {
            x.walker((i + 1) % 5, places[i], i % 2);
        }
    }

    private static void prints(FootByGate x, int many, int gates) {
        for (int i = 0; i < many; i++) {
            x.print(i % gates, i % 2, i / 2 % 2);
        }
    }

    private static void rounds(FootByGate x, int many) {
        for (int i = 0; i < many; i++) {
            x.round(0, 0);
        }
    }

    private static final Held[] ALL_HELD = {
        new Held(false, 0, 0, 0, 0, 0, false, ""),
        new Held(false, 0, 0, 0, 0, 0, false, "begun"),
        new Held(false, 0, 0, 0, 0, 0, false, "full"),
        new Held(true, 1, 0, 0, 0, 0, false, "almost full"),
        new Held(true, 3, 1, 1, 5, 39, true, "whole"),
        new Held(true, 10, 3, 5, 6, 40, true, "full"),
        new Held(true, 9, 2, 4, 0, 40, false, ""),
        new Held(true, 10, 3, 5, 6, 3, false, "begun"),
    };
    private static final String[] TOWNS = {"", "", "", "012", "012,121!,232",
        "011!,122!,203!,344,455,566,607,138,249,350;f", "011,122!,203,344,455,566,607,138,249!",
        "011,122,203,344,455,566,607,138!,249!,350!"};

    private static FootByGate object(int which) {
        Held h = ALL_HELD[which];
        FootByGate x = new FootByGate();
        if (h.town && !h.image && which != 3) {
            read(x, "012!,120");
            x.walker(4, 1, 1);
            x.image();
        }
        if (h.town) {
            read(x, TOWNS[which]);
            walkers(x, h.walkers);
            prints(x, h.prints, Math.max(1, h.gates));
            rounds(x, h.done);
        }
        if (h.image) {
            for (int i = 0; i < h.walkers; i++) {
                x.go(i, 0);
                x.skip(i);
            }
            x.image();
            x.repave(0, 9);
            x.skip(0);
            x.go(0, 0);
        }
        page(x, h.page);
        return x;
    }

    /** All that can be told, and what comes of it by calls that change something. */
    private static List<Long> told(FootByGate x) {
        List<Long> all = new ArrayList<>();
        tell(x, all);
        all.add((long) x.restore());
        tell(x, all);
        all.add((long) x.letters(48));
        all.add((long) x.blank());
        all.add((long) x.round(0, 1));
        all.add((long) x.wipe());
        all.add((long) x.walker(1, 1, 1));
        all.add(x.digest());
        return all;
    }

    private static void tell(FootByGate x, List<Long> all) {
        all.add(x.digest());
        all.add((long) x.fault());
        for (int s = 0; s < 10; s++) {
            all.add((long) x.street(s, 2));
        }
        for (int w = 0; w < 5; w++) {
            for (int what = 0; what <= 6; what++) {
                all.add((long) x.about(w, what));
            }
        }
        for (int what = 0; what <= 7; what++) {
            all.add((long) x.count(what));
        }
        all.add((long) x.who());
        all.add((long) x.even(0, 1));
    }

    // ---- the test

    private static void heldAsTold(int which) {
        Held h = ALL_HELD[which];
        FootByGate x = object(which);
        int[] page = {h.page.equals("full") ? 50 : h.page.equals("almost full") ? 43 : h.page.equals("whole") ? 10
            : h.page.equals("begun") ? 5 : 0};
        int[] due = {h.streets, h.gates, h.walkers, h.prints, TOWNS[which].endsWith("f") ? 1 : 0, page[0]};
        for (int what = 0; what <= 5; what++) {
            if (x.count(what) != due[what]) {
                fault("object " + which + ": count(" + what + ") is " + x.count(what) + ", due is " + due[what]);
            }
        }
        if (x.count(7) != h.done) {
            fault("object " + which + ": done " + x.count(7) + ", due is " + h.done);
        }
    }

    private static int[] valuesOf(String call) {
        if (call.equals("letters")) {
            int[] all = new int[WORDS.length];
            for (int i = 0; i < all.length; i++) {
                all[i] = i;
            }
            return all;
        }
        return call.equals("walk") ? SMALL : EDGES;
    }

    private static List<int[]> argumentsOf(String call) {
        List<int[]> all = new ArrayList<>();
        all.add(new int[0]);
        for (int i = 0; i < parameters(call); i++) {
            List<int[]> longer = new ArrayList<>();
            for (int[] ahead : all) {
                for (int v : valuesOf(call)) {
                    int[] a = Arrays.copyOf(ahead, i + 1);
                    a[i] = v;
                    longer.add(a);
                }
            }
            all = longer;
        }
        return all;
    }

    private static void refusals(int which, String call) {
        Held h = ALL_HELD[which];
        FootByGate twin = object(which);
        List<Long> due = told(object(which));
        FootByGate x = object(which);
        int calls = 0;
        int twinCalls = 0;
        for (int[] a : argumentsOf(call)) {
            int refused = refusal(call, a, h, twin);
            twinCalls += 2;
            if (refused == ANSWERED) {
                answered(which, call, a, due);
                continue;
            }
            refusedCalls++;
            long got = made(x, call, a);
            calls++;
            if (got != refused) {
                fault("object " + which + ": " + call + Arrays.toString(a) + " answered " + got + ", due is " + refused);
            }
            if (calls == BATCH) {
                unchanged(which, call, x, due);
                x = object(which);
                calls = 0;
            }
            if (twinCalls >= BATCH) {
                twin = object(which);
                twinCalls = 0;
            }
        }
        unchanged(which, call, x, due);
    }

    private static void unchanged(int which, String call, FootByGate x, List<Long> due) {
        if (!told(x).equals(due)) {
            fault("object " + which + ": refused calls of " + call + " changed something");
        }
    }

    private static void answered(int which, String call, int[] a, List<Long> due) {
        answeredCalls++;
        FootByGate x = object(which);
        long got = made(x, call, a);
        if (got < NONE && !call.equals("digest")) {
            fault("object " + which + ": " + call + Arrays.toString(a) + " answered " + got + ", and is not refused");
        }
        if (tellsOnly(call)) {
            unchanged(which, call + Arrays.toString(a) + ", which tells only,", x, due);
        }
    }

    public static void main(String[] args) {
        for (int which = 0; which < ALL_HELD.length; which++) {
            heldAsTold(which);
            for (String call : CALLS) {
                refusals(which, call);
            }
        }
        if (refusedCalls < 10_000 || answeredCalls < 1_000) {
            fault("too few calls: " + refusedCalls + " refused, " + answeredCalls + " answered");
        }
        System.out.println(wrong == 0 ? "all refusals are as told, of " + refusedCalls + " calls, beside " + answeredCalls
                + " answered" : wrong + " refusals are not as told");
        if (wrong != 0) {
            System.exit(1);
        }
    }
}
