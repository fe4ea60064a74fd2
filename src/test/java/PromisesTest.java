/** Each promise of the document by hand: ordinary inputs, the edges it names, wrong inputs. */
public final class PromisesTest {
    private static final int NONE = -1, UNKNOWN = -101, OUTSIDE = -102, STATE = -103, FULL = -104;
    private static int wrong = 0;
    private static int promise = 0;

    private static void due(String call, long got, long want) {
        if (got != want) {
            wrong++;
            System.out.println("promise " + promise + ": " + call + " answered " + got + ", due is " + want);
        }
    }

    private static long bytes(String text) {
        long w = 0;
        for (int i = text.length() - 1; i >= 0; i--) {
            w = w << 8 | text.charAt(i);
        }
        return w;
    }

    private static void write(FootByGate x, String text) {
        for (int i = 0; i < text.length(); i += 8) {
            x.letters(bytes(text.substring(i, Math.min(text.length(), i + 8))));
        }
    }

    private static FootByGate paged(String text) {
        FootByGate x = new FootByGate();
        write(x, text);
        return x;
    }

    private static FootByGate in(String text) {
        FootByGate x = paged(text);
        if (x.town() <= 0) {
            wrong++;
            System.out.println("promise " + promise + ": " + text + " is no town");
        }
        return x;
    }

    public static void main(String[] args) {
        promise = 1; aNewObject();
        promise = 2; letters();
        promise = 3; blank();
        promise = 4; fault();
        promise = 5; town();
        promise = 6; street();
        promise = 7; repave();
        promise = 8; walker();
        promise = 9; about();
        promise = 10; as();
        promise = 11; steps();
        promise = 12; may();
        promise = 13; go();
        promise = 14; skip();
        promise = 15; fewest();
        promise = 16; skips();
        promise = 17; shut();
        promise = 18; round();
        promise = 19; stones();
        promise = 20; even();
        promise = 21; both();
        promise = 22; change();
        promise = 23; print();
        promise = 24; wipe();
        promise = 25; who();
        promise = 26; walk();
        promise = 27; image();
        promise = 28; restore();
        promise = 29; count();
        promise = 30; digest();
        System.out.println(wrong == 0 ? "all promises stand" : wrong + " answers are not as due");
        if (wrong != 0) {
            System.exit(1);
        }
    }

    private static void aNewObject() {
        FootByGate x = new FootByGate();
        for (int what = 0; what <= 7; what++) {
            due("count(" + what + ")", x.count(what), 0);
        }
        due("street(0, 0)", x.street(0, 0), UNKNOWN);
        due("walker(0, 0, 0)", x.walker(0, 0, 0), STATE);
        due("even(0, 0)", x.even(0, 0), STATE);
        due("image()", x.image(), STATE);
        due("restore()", x.restore(), STATE);
        due("who()", x.who(), 0);
        due("town()", x.town(), STATE);
        due("NONE", FootByGate.NONE, NONE);
        due("UNKNOWN", FootByGate.UNKNOWN, UNKNOWN);
        due("OUTSIDE", FootByGate.OUTSIDE, OUTSIDE);
        due("STATE", FootByGate.STATE, STATE);
        due("FULL", FootByGate.FULL, FULL);
        FootByGate other = in("012");
        due("another object's town", other.count(0), 1);
        due("count(0) of the first", x.count(0), 0);
    }

    private static void letters() {
        FootByGate x = new FootByGate();
        due("no letters", x.letters(0), 0);
        due("one", x.letters(bytes("0")), 1);
        due("eight", x.letters(bytes("12,123!,")), 9);
        due("codes 1 and 126", x.letters(126L << 8 | 1), 11);
        long before = x.digest();
        due("code 127", x.letters(127), OUTSIDE);
        due("code 255 last", x.letters(-1L << 56 | bytes("0123456")), OUTSIDE);
        due("all 255", x.letters(-1L), OUTSIDE);
        due("one behind a 0", x.letters(48L << 16 | 48), OUTSIDE);
        due("a 0 first", x.letters(48L << 8), OUTSIDE);
        due("a 0 ahead of the last", x.letters(48L << 56), OUTSIDE);
        due("digest()", x.digest(), before);
        x.blank();
        for (int i = 1; i <= 6; i++) {
            due("eight more", x.letters(bytes("AAAAAAAA")), 8 * i);
        }
        before = x.digest();
        due("51", x.letters(bytes("AAA")), FULL);
        due("of several OUTSIDE first", x.letters(127L << 16 | bytes("AA")), OUTSIDE);
        due("digest() then", x.digest(), before);
        due("50", x.letters(bytes("AA")), 50);
        due("51 by one", x.letters(bytes("A")), FULL);
        due("none more", x.letters(0), 50);
    }

    private static void blank() {
        FootByGate x = new FootByGate();
        due("blank() of none", x.blank(), 0);
        write(x, "012,12");
        due("blank()", x.blank(), 6);
        due("count(5)", x.count(5), 0);
        due("blank() again", x.blank(), 0);
        write(x, "345");
        due("the page begins anew", x.town(), 1);
        due("street(0, 0)", x.street(0, 0), 3);
    }

    private static void faultOf(String text, int at) {
        FootByGate x = paged(text);
        long before = x.digest();
        due("fault() of " + text, x.fault(), at);
        due("digest() behind it", x.digest(), before);
    }

    private static void fault() {
        faultOf("", 0);
        faultOf("0", 1);
        faultOf("7", 0);
        faultOf("/", 0);
        faultOf(",", 0);
        faultOf("01", 2);
        faultOf("00", 1);
        faultOf("07", 1);
        faultOf("0!", 1);
        faultOf("01:", 2);
        faultOf("01/", 2);
        faultOf("019", 3);
        faultOf("0199", 3);
        faultOf("019!", 4);
        faultOf("019!!", 4);
        faultOf("019,", 4);
        faultOf("019,,", 4);
        faultOf("019;", 4);
        faultOf("019;F", 4);
        faultOf("019;f", 5);
        faultOf("019!;f", 6);
        faultOf("019;f;", 5);
        faultOf("019;f,", 5);
        faultOf("019;!f", 4);
        faultOf(";f", 0);
        faultOf("019!,012!,023!,034", 18);
        faultOf("019!,012!,023!,034!", 18);
        faultOf("010,010,010,010,010,010,010,010,010,010", 39);
        faultOf("010,010,010,010,010,010,010,010,010,010,", 39);
        faultOf("010,010,010,010,010,010,010,010,010,010;f", 41);
        faultOf("010!,010!,010!,010,010,010,010,010,010,010;f", 44);
        faultOf("010!,010!,010!,010,010,010,010,010,010,010;fff", 44);
    }

    private static void noTown(String text) {
        FootByGate x = in("012!");
        x.walker(1, 2, 1);
        x.print(0, 1, 1);
        write(x, text);
        long before = x.digest();
        due("town() of " + text, x.town(), STATE);
        due("digest() behind it", x.digest(), before);
    }

    private static void town() {
        noTown("");
        noTown("0");
        noTown("01");
        noTown("012,");
        noTown("012;");
        noTown("012!,");
        noTown("012;f ");
        noTown("012!!");
        noTown("112");
        noTown("172");
        noTown("012 ");
        noTown("010,010,010,010,010,010,010,010,010,010,010");
        noTown("010!,010!,010!,010!");
        FootByGate x = paged("650;f");
        due("town()", x.town(), 1);
        due("count(5): the page is empty", x.count(5), 0);
        due("count(4)", x.count(4), 1);
        due("street(0, 0)", x.street(0, 0), 6);
        due("street(0, 1)", x.street(0, 1), 5);
        x.walker(0, 0, 0);
        write(x, "010!,019!,109!,012,210,345,456,566,607,018;f");
        due("town() of ten", x.town(), 10);
        due("walkers are gone", x.count(2), 0);
        due("count(1)", x.count(1), 3);
        x.print(0, 0, 0);
        write(x, "019!,103");
        due("town() of two", x.town(), 2);
        due("prints are gone", x.count(3), 0);
        due("free no more", x.count(4), 0);
        due("count(6)", x.count(6), 3);
        due("street(2, 0)", x.street(2, 0), UNKNOWN);
        due("its gate", x.street(0, 3), 0);
        due("no gate", x.street(1, 3), NONE);
        x.walker(0, 0, 0);
        due("a walker has no marks of another town", x.about(0, 4), NONE);
    }

    private static void street() {
        FootByGate x = in("013,214!,650,056!,430!");
        due("street(0, 0)", x.street(0, 0), 0);
        due("street(0, 1)", x.street(0, 1), 1);
        due("street(0, 2)", x.street(0, 2), 3);
        due("street(0, 3)", x.street(0, 3), NONE);
        due("street(1, 0)", x.street(1, 0), 2);
        due("street(1, 1)", x.street(1, 1), 1);
        due("street(1, 2)", x.street(1, 2), 4);
        due("street(1, 3)", x.street(1, 3), 0);
        due("street(3, 3)", x.street(3, 3), 1);
        due("street(4, 3)", x.street(4, 3), 2);
        due("street(-1, 0)", x.street(-1, 0), UNKNOWN);
        due("street(5, 0)", x.street(5, 0), UNKNOWN);
        due("street(5, 4)", x.street(5, 4), UNKNOWN);
        due("street(0, 4)", x.street(0, 4), OUTSIDE);
        due("street(0, -1)", x.street(0, -1), OUTSIDE);
        due("street(MAX, 0)", x.street(Integer.MAX_VALUE, 0), UNKNOWN);
        due("street(MIN, 0)", x.street(Integer.MIN_VALUE, 0), UNKNOWN);
    }

    private static void repave() {
        FootByGate x = in("013,124!");
        due("repave(0, 9)", x.repave(0, 9), 3);
        due("repave(0, 0)", x.repave(0, 0), 9);
        due("street(0, 2)", x.street(0, 2), 0);
        due("street(1, 2)", x.street(1, 2), 4);
        long before = x.digest();
        due("repave(0, 10)", x.repave(0, 10), OUTSIDE);
        due("repave(0, -1)", x.repave(0, -1), OUTSIDE);
        due("repave(2, 0)", x.repave(2, 0), UNKNOWN);
        due("repave(-1, 10)", x.repave(-1, 10), UNKNOWN);
        due("digest()", x.digest(), before);
        due("repave without a town", new FootByGate().repave(0, 1), UNKNOWN);
    }

    private static void walker() {
        FootByGate none = new FootByGate();
        due("place 7 without a town", none.walker(5, 7, 0), UNKNOWN);
        due("kind 5 without a town", none.walker(5, 0, 0), OUTSIDE);
        due("without a town", none.walker(0, 6, 1), STATE);
        FootByGate x = in("013!");
        due("place -1", x.walker(0, -1, 0), UNKNOWN);
        due("place 7", x.walker(-1, 7, 2), UNKNOWN);
        due("kind -1", x.walker(-1, 0, 0), OUTSIDE);
        due("kind 5", x.walker(5, 0, 0), OUTSIDE);
        due("foot -1", x.walker(0, 0, -1), OUTSIDE);
        due("foot 2", x.walker(0, 0, 2), OUTSIDE);
        due("count(2)", x.count(2), 0);
        for (int i = 0; i < 5; i++) {
            due("walker " + i, x.walker(4 - i, i + 2, i % 2), i);
        }
        long before = x.digest();
        due("a sixth", x.walker(0, 0, 0), FULL);
        due("a sixth of kind 5", x.walker(5, 0, 0), OUTSIDE);
        due("a sixth at 7", x.walker(0, 7, 0), UNKNOWN);
        due("digest()", x.digest(), before);
    }

    private static void about() {
        FootByGate x = in("013!,122!,234!");
        x.walker(0, 0, 1);
        x.walker(3, 1, 0);
        x.skip(0);
        x.skip(0);
        x.skip(0);
        x.go(0, 0);
        x.go(0, 1);
        int[] first = {0, 2, 1, 3, 1, 1, NONE};
        int[] second = {3, 1, 0, 0, NONE, NONE, NONE};
        for (int what = 0; what <= 6; what++) {
            due("about(0, " + what + ")", x.about(0, what), first[what]);
            due("about(1, " + what + ")", x.about(1, what), second[what]);
        }
        due("about(2, 0)", x.about(2, 0), UNKNOWN);
        due("about(-1, 9)", x.about(-1, 9), UNKNOWN);
        due("about(0, 7)", x.about(0, 7), OUTSIDE);
        due("about(0, -1)", x.about(0, -1), OUTSIDE);
    }

    private static void as() {
        FootByGate x = in("013");
        boolean[][] is = {
            {true, false, false, false, false},
            {true, true, false, false, false},
            {true, false, true, false, false},
            {true, false, false, true, false},
            {true, false, true, false, true},
        };
        for (int kind = 0; kind < 5; kind++) {
            x.walker(kind, 0, 0);
        }
        for (int i = 0; i < 5; i++) {
            for (int kind = 0; kind < 5; kind++) {
                due("as(" + i + ", " + kind + ")", x.as(i, kind), is[i][kind] ? i : NONE);
            }
        }
        due("as(5, 0)", x.as(5, 0), UNKNOWN);
        due("as(-1, 5)", x.as(-1, 5), UNKNOWN);
        due("as(0, 5)", x.as(0, 5), OUTSIDE);
        due("as(0, -1)", x.as(0, -1), OUTSIDE);
    }

    private static void steps() {
        int[][] steps = {
            {0, 1, 2, 3, 4, 5, 6, 7, 8, 9},
            {0, 1, 3, 4, 6, 7, 9, 10, 12, 13},
            {0, 1, 1, 2, 2, 3, 3, 4, 4, 5},
            {0, 1, 2, 3, 4, 5, 6, 7, 8, 9},
            {1, 2, 2, 3, 3, 4, 4, 5, 5, 6},
        };
        FootByGate x = in("340");
        for (int kind = 0; kind < 5; kind++) {
            x.walker(kind, 0, 0);
        }
        for (int paces = 0; paces <= 9; paces++) {
            x.repave(0, paces);
            for (int kind = 0; kind < 5; kind++) {
                due("steps of kind " + kind + " for " + paces, x.steps(kind, 0), steps[kind][paces]);
            }
        }
        due("steps(5, 0)", x.steps(5, 0), UNKNOWN);
        due("steps(0, 1)", x.steps(0, 1), UNKNOWN);
        due("steps(-1, 0)", x.steps(-1, 0), UNKNOWN);
        due("steps(0, -1)", x.steps(0, -1), UNKNOWN);
    }

    private static void may() {
        FootByGate x = in("013!,122,013");
        x.walker(0, 0, 0);
        x.walker(0, 1, 0);
        x.walker(3, 0, 0);
        due("in by a gate", x.may(0, 0), 1);
        due("a street elsewhere", x.may(0, 1), NONE);
        due("out without a mark", x.may(1, 0), 0);
        due("no gate", x.may(1, 2), 1);
        x.go(0, 0);
        due("out on the other foot", x.may(0, 0), 0);
        x.skip(0);
        due("out on the foot of the mark", x.may(0, 0), 1);
        x.go(2, 0);
        due("a lame out", x.may(2, 0), 1);
        FootByGate free = in("013!;f");
        free.walker(0, 1, 0);
        due("out without a mark in a free town", free.may(0, 0), 1);
        free.go(0, 0);
        free.go(0, 0);
        due("out with another mark in a free town", free.may(0, 0), 0);
        due("may(3, 0)", x.may(3, 0), UNKNOWN);
        due("may(0, 3)", x.may(0, 3), UNKNOWN);
        due("may(-1, -1)", x.may(-1, -1), UNKNOWN);
    }

    private static void go() {
        FootByGate x = in("013!,122,020!");
        x.walker(0, 0, 0);
        x.walker(3, 0, 1);
        x.walker(2, 0, 0);
        due("go(0, 0)", x.go(0, 0), 1);
        due("foot of odd steps", x.about(0, 2), 1);
        due("mark", x.about(0, 4), 1);
        long before = x.digest();
        due("it may not", x.go(0, 0), STATE);
        due("not at its place", x.go(0, 2), STATE);
        due("go(0, 3)", x.go(0, 3), UNKNOWN);
        due("go(0, -1)", x.go(0, -1), UNKNOWN);
        due("go(3, 0)", x.go(3, 0), UNKNOWN);
        due("go(-1, 0)", x.go(-1, 0), UNKNOWN);
        due("digest()", x.digest(), before);
        due("go(0, 1)", x.go(0, 1), 2);
        due("foot of even steps", x.about(0, 2), 1);
        due("out without a mark", x.go(0, 2), STATE);
        due("go(0, 1) back", x.go(0, 1), 1);
        x.skip(0);
        due("out on its mark", x.go(0, 0), 0);
        due("foot then", x.about(0, 2), 1);
        due("the mark stays", x.about(0, 4), 1);
        due("a lame in", x.go(1, 0), 1);
        due("a lame's foot", x.about(1, 2), 1);
        due("a lame's mark", x.about(1, 4), 1);
        due("a lame out", x.go(1, 0), 0);
        due("a horse in", x.go(2, 0), 1);
        due("a horse's foot of two steps", x.about(2, 2), 0);
        due("a horse out", x.go(2, 0), 0);
        due("by the other gate", x.go(2, 2), 2);
        due("its mark", x.about(2, 5), 0);
        due("the first gate's mark", x.about(2, 4), 0);
    }

    private static void skip() {
        FootByGate x = in("013");
        x.walker(0, 6, 0);
        x.walker(3, 6, 0);
        due("skip(0)", x.skip(0), 1);
        due("skip(0) again", x.skip(0), 0);
        due("how often", x.about(0, 3), 2);
        due("its place", x.about(0, 1), 6);
        long before = x.digest();
        due("a lame", x.skip(1), STATE);
        due("skip(2)", x.skip(2), UNKNOWN);
        due("skip(-1)", x.skip(-1), UNKNOWN);
        due("digest()", x.digest(), before);
    }

    private static void fewest() {
        FootByGate x = in("015,022,212,344");
        x.walker(0, 0, 0);
        x.walker(1, 0, 0);
        due("fewest(0, 1, 0)", x.fewest(0, 1, 0), 4);
        due("fewest(0, 1, 1)", x.fewest(0, 1, 1), 1);
        due("it is there", x.fewest(0, 0, 0), 0);
        due("it is there, street", x.fewest(0, 0, 1), NONE);
        due("it can't", x.fewest(0, 3, 0), NONE);
        due("it can't, street", x.fewest(0, 3, 1), NONE);
        due("a child", x.fewest(1, 1, 0), 6);
        x.repave(0, 4);
        due("of like ways the least street", x.fewest(0, 1, 1), 0);
        due("fewest(2, 0, 0)", x.fewest(2, 0, 0), UNKNOWN);
        due("fewest(0, 7, 0)", x.fewest(0, 7, 0), UNKNOWN);
        due("fewest(0, -1, 2)", x.fewest(0, -1, 2), UNKNOWN);
        due("fewest(0, 0, 2)", x.fewest(0, 0, 2), OUTSIDE);
        due("fewest(0, 0, -1)", x.fewest(0, 0, -1), OUTSIDE);
        FootByGate turn = in("011!,121,232,314");
        turn.walker(0, 0, 0);
        turn.go(0, 0);
        due("out on the mark's foot by a detour", turn.fewest(0, 0, 0), 1 + 2 + 4 + 1);
        FootByGate back = in("020,013");
        back.walker(0, 0, 0);
        due("a way may come back first", back.fewest(0, 1, 1), 0);
        due("and is no longer", back.fewest(0, 1, 0), 3);
    }

    private static void skips() {
        FootByGate x = in("013!,122");
        x.walker(0, 0, 0);
        x.walker(3, 1, 0);
        x.go(0, 0);
        due("skips(0, 2, 0)", x.skips(0, 2, 0), 0);
        due("skips(0, 2, 1)", x.skips(0, 2, 1), 2);
        due("skips(0, 0, 0)", x.skips(0, 0, 0), 1);
        due("skips(0, 0, 1)", x.skips(0, 0, 1), 3);
        due("it is there", x.skips(0, 1, 0), 0);
        due("it is there, steps", x.skips(0, 1, 1), 0);
        due("by none", x.skips(0, 3, 0), NONE);
        due("by none, steps", x.skips(0, 3, 1), NONE);
        due("a lame can't", x.skips(1, 0, 0), NONE);
        due("skips change nothing", x.about(0, 3), 0);
        due("skips(2, 0, 0)", x.skips(2, 0, 0), UNKNOWN);
        due("skips(0, 7, 0)", x.skips(0, 7, 0), UNKNOWN);
        due("skips(0, 0, 2)", x.skips(0, 0, 2), OUTSIDE);
        due("skips(0, 0, -1)", x.skips(0, 0, -1), OUTSIDE);
        FootByGate far = in("011!,129,239,310");
        far.walker(0, 0, 0);
        far.go(0, 0);
        due("no skip is fewer, if the way is long", far.skips(0, 0, 0), 1);
        far.repave(1, 8);
        due("now round about", far.skips(0, 0, 0), 0);
        due("with so many steps", far.skips(0, 0, 1), 18);
        due("two gates of unlike feet want two skips", twoGates().skips(0, 0, 0), 2);
        due("with so few steps", twoGates().skips(0, 0, 1), 2);
    }

    private static FootByGate twoGates() {
        FootByGate x = in("011!,121!");
        x.walker(0, 0, 0);
        x.go(0, 0);
        x.skip(0);
        x.go(0, 1);
        return x;
    }

    private static void shut() {
        FootByGate x = in("013!,122,340");
        x.walker(0, 0, 0);
        x.walker(0, 2, 0);
        x.walker(3, 0, 0);
        x.walker(0, 6, 0);
        due("shut(0)", x.shut(0), 0b1111000);
        due("out without a mark", x.shut(1), 0b1111001);
        due("a lame", x.shut(2), 0b1111000);
        due("alone", x.shut(3), 0b0111111);
        x.go(0, 0);
        due("on the wrong foot", x.shut(0), 0b1111001);
        x.skip(0);
        due("on the right foot", x.shut(0), 0b1111000);
        FootByGate turned = in("011!,121!,231,322");
        turned.walker(0, 0, 0);
        turned.go(0, 0);
        due("in by one gate and out of it on its new mark, then by the other", turned.shut(0), 0b1110000);
        due("shut(4)", x.shut(4), UNKNOWN);
        due("shut(-1)", x.shut(-1), UNKNOWN);
    }

    private static void round() {
        FootByGate x = in("011,121,201");
        x.walker(0, 0, 0);
        x.walker(0, 4, 0);
        due("round(0, 0)", x.round(0, 0), 1);
        due("round(0, 1)", x.round(0, 1), 0);
        due("not at its place", x.round(1, 0), 0);
        due("not at its place, street", x.round(1, 1), NONE);
        due("round(2, 0)", x.round(2, 0), UNKNOWN);
        due("round(-1, 2)", x.round(-1, 2), UNKNOWN);
        due("round(0, 2)", x.round(0, 2), OUTSIDE);
        due("round(0, -1)", x.round(0, -1), OUTSIDE);
        due("count(7)", x.count(7), 4);
        FootByGate gated = in("101!,121,021");
        gated.walker(0, 0, 0);
        due("a gate just in", gated.round(0, 1), 2);
        FootByGate two = in("012!,012!");
        two.walker(0, 1, 0);
        due("two gates, out without a mark", two.round(0, 0), 0);
        two = in("012!,012!;f");
        two.walker(0, 1, 0);
        due("out of a free town, in again", two.round(0, 1), 0);
        FootByGate marked = in("011!,010");
        marked.walker(0, 0, 0);
        marked.go(0, 0);
        due("in by another street, out is the wrong foot", marked.round(0, 0), 1);
        due("just the way in helps", marked.round(0, 1), 1);
        FootByGate open = in("011,121");
        open.walker(0, 0, 0);
        due("no way back", open.round(0, 0), 0);
        FootByGate parts = in("011,010,231,230");
        parts.walker(0, 0, 0);
        due("two parts", parts.round(0, 0), 0);
        limit();
    }

    private static void limit() {
        FootByGate x = in("011,010");
        x.walker(0, 0, 0);
        for (int i = 0; i < 40; i++) {
            due("done " + i, i % 2 == 0 ? x.round(0, 0) : x.stones(0, 1, 0), i % 2 == 0 ? 1 : 0);
        }
        long before = x.digest();
        due("round() 41", x.round(0, 0), STATE);
        due("stones() 41", x.stones(0, 1, 0), STATE);
        due("round(1, 0) 41", x.round(1, 0), UNKNOWN);
        due("round(0, 2) 41", x.round(0, 2), OUTSIDE);
        due("stones(0, 7, 0) 41", x.stones(0, 7, 0), UNKNOWN);
        due("stones(0, 0, 2) 41", x.stones(0, 0, 2), OUTSIDE);
        due("count(7)", x.count(7), 40);
        due("digest()", x.digest(), before);
        write(x, "011");
        x.town();
        x.walker(0, 0, 0);
        due("another town does not help", x.round(0, 0), STATE);
    }

    private static void stones() {
        FootByGate x = in("011!,122,123");
        x.walker(0, 0, 0);
        x.walker(3, 1, 0);
        x.walker(2, 0, 0);
        due("none is needed", x.stones(0, 1, 0), 0);
        due("none is needed, bits", x.stones(0, 1, 1), 0);
        x.go(0, 0);
        due("out by the streets as they are", x.stones(0, 0, 0), 0);
        x.repave(2, 2);
        due("one stone", x.stones(0, 0, 0), 1);
        due("on the least of three", x.stones(0, 0, 1), 1);
        due("by none", x.stones(0, 5, 0), NONE);
        due("by none, bits", x.stones(0, 5, 1), NONE);
        due("a lame without a mark", x.stones(1, 0, 0), NONE);
        due("stones(3, 0, 0)", x.stones(3, 0, 0), UNKNOWN);
        due("stones(-1, 0, 0)", x.stones(-1, 0, 0), UNKNOWN);
        due("stones(0, 7, 0)", x.stones(0, 7, 0), UNKNOWN);
        due("stones(0, -1, 2)", x.stones(0, -1, 2), UNKNOWN);
        due("stones(0, 0, 2)", x.stones(0, 0, 2), OUTSIDE);
        due("stones(0, 0, -1)", x.stones(0, 0, -1), OUTSIDE);
        due("paces are as they were", x.street(0, 2), 1);
        x.go(2, 0);
        due("a horse's pace of 1 more turns nothing", x.stones(2, 0, 1), 2);
        FootByGate nine = in("019!");
        nine.walker(0, 0, 0);
        nine.go(0, 0);
        due("ten paces are even", nine.stones(0, 0, 1), 1);
        due("a stone at each gate", twoGates().stones(0, 0, 0), 2);
        due("a stone at each gate, bits", twoGates().stones(0, 0, 1), 3);
    }

    private static void even() {
        FootByGate x = in("011,122,204");
        due("one odd", x.even(0, 0), 1);
        due("on the least", x.even(0, 1), 1);
        due("of a lame as of a walker", x.even(3, 1), 1);
        due("a child: 1, 3, 6", x.even(1, 0), 0);
        due("a child: 1, 3, 6, bits", x.even(1, 1), 0);
        due("a horse: 1, 1, 2", x.even(2, 1), 0);
        due("a pony: 2, 2, 3", x.even(4, 1), 2);
        x.repave(1, 3);
        x.repave(2, 3);
        due("a horse: 1, 2, 2 of odd paces", x.even(2, 0), NONE);
        due("a horse: 1, 2, 2 of odd paces, bits", x.even(2, 1), NONE);
        due("even(5, 0)", x.even(5, 0), OUTSIDE);
        due("even(-1, 0)", x.even(-1, 0), OUTSIDE);
        due("even(0, 2)", x.even(0, 2), OUTSIDE);
        due("even(0, -1)", x.even(0, -1), OUTSIDE);
        due("even(5, 0) without a town", new FootByGate().even(5, 0), OUTSIDE);
        due("even(0, 2) without a town", new FootByGate().even(0, 2), OUTSIDE);
        due("even(0, 0) without a town", new FootByGate().even(0, 0), STATE);
        due("gates do not matter", in("011!,122!,204!").even(0, 1), 1);
        due("a street alone is even there and back", in("011").even(0, 0), 0);
        due("nine and one more", in("019,010").even(0, 1), 1);
        due("two parts", in("011,010,561,560,125").even(0, 1), 5);
        due("it does not count as done", x.count(7), 0);
    }

    private static void both() {
        FootByGate x = in("013!,122,340;f");
        x.walker(0, 0, 0);
        x.walker(4, 0, 1);
        x.walker(3, 2, 0);
        due("both(0, 1, 2)", x.both(0, 1, 2), 3 + 2 + 3 + 2);
        due("both(1, 0, 2)", x.both(1, 0, 2), 10);
        due("they are there", x.both(0, 1, 0), 0);
        due("they can't", x.both(0, 1, 3), NONE);
        due("not in the same place", x.both(0, 2, 1), STATE);
        due("the same", x.both(0, 0, 1), UNKNOWN);
        due("both(3, 0, 1)", x.both(3, 0, 1), UNKNOWN);
        due("both(0, 3, 1)", x.both(0, 3, 1), UNKNOWN);
        due("both(-1, 0, 1)", x.both(-1, 0, 1), UNKNOWN);
        due("both(0, 2, 7)", x.both(0, 2, 7), UNKNOWN);
        due("both(0, 1, -1)", x.both(0, 1, -1), UNKNOWN);
        FootByGate apart = in("011!,121,211");
        apart.walker(0, 0, 0);
        apart.walker(0, 0, 0);
        apart.go(0, 0);
        apart.go(1, 0);
        apart.skip(1);
        due("one may, the other may not", apart.both(0, 1, 0), NONE);
        apart.repave(2, 2);
        due("never both", apart.both(0, 1, 0), NONE);
        apart.skip(1);
        due("both by the detour", apart.both(0, 1, 0), 2 * 1 + 2 * 2 + 2 * 1);
        FootByGate turned = in("011!,121!,231,322");
        turned.walker(0, 0, 0);
        turned.walker(0, 0, 1);
        turned.go(0, 0);
        turned.go(1, 0);
        due("both out on new marks", turned.both(0, 1, 0), 2 * (1 + 1 + 2 + 1 + 1));
        apart.walker(3, 1, 0);
        due("a lame without a mark", apart.both(0, 2, 0), NONE);
        due("nothing changes", apart.about(0, 1), 1);
    }

    private static void change() {
        FootByGate x = in("011!,122,121");
        x.walker(0, 0, 0);
        x.walker(3, 0, 0);
        x.walker(1, 0, 1);
        x.go(0, 0);
        x.go(1, 0);
        x.go(2, 0);
        due("change(2, 2)", x.change(2, 2), 1);
        due("change(2, 1)", x.change(2, 1), 0);
        due("change(0, 1)", x.change(0, 1), 0);
        due("paces are as they were", x.street(2, 2), 1);
        x.repave(2, 2);
        due("the child comes out now by an even gate", x.change(0, 0), 5);
        due("change(3, 0)", x.change(3, 0), UNKNOWN);
        due("change(-1, 10)", x.change(-1, 10), UNKNOWN);
        due("change(0, 10)", x.change(0, 10), OUTSIDE);
        due("change(0, -1)", x.change(0, -1), OUTSIDE);
        due("without a town", new FootByGate().change(0, 0), UNKNOWN);
    }

    private static void print() {
        FootByGate x = in("011!,122,121!");
        due("print(0, 0, 0)", x.print(0, 0, 0), 1);
        due("print(1, 1, 1)", x.print(1, 1, 1), 2);
        long before = x.digest();
        due("print(2, 0, 0)", x.print(2, 0, 0), UNKNOWN);
        due("print(-1, 2, 0)", x.print(-1, 2, 0), UNKNOWN);
        due("print(0, 2, 0)", x.print(0, 2, 0), OUTSIDE);
        due("print(0, -1, 0)", x.print(0, -1, 0), OUTSIDE);
        due("print(0, 0, 2)", x.print(0, 0, 2), OUTSIDE);
        due("print(0, 0, -1)", x.print(0, 0, -1), OUTSIDE);
        due("digest()", x.digest(), before);
        for (int i = 3; i <= 6; i++) {
            due("print " + i, x.print(i % 2, 0, 1), i);
        }
        before = x.digest();
        due("a seventh", x.print(0, 0, 0), FULL);
        due("a seventh of no gate", x.print(2, 0, 0), UNKNOWN);
        due("a seventh of no way", x.print(0, 2, 0), OUTSIDE);
        due("digest() then", x.digest(), before);
        due("without a town", new FootByGate().print(0, 0, 0), UNKNOWN);
        due("without a gate", in("011").print(0, 0, 0), UNKNOWN);
    }

    private static void wipe() {
        FootByGate x = in("011!");
        due("wipe() of none", x.wipe(), 0);
        for (int i = 0; i < 6; i++) {
            x.print(0, 0, 0);
        }
        due("wipe()", x.wipe(), 6);
        due("count(3)", x.count(3), 0);
        due("one again", x.print(0, 1, 0), 1);
        due("wipe() again", x.wipe(), 1);
    }

    private static void who() {
        FootByGate x = in("011!,122,202,342");
        due("no walkers", x.who(), 0);
        x.walker(0, 0, 0);
        x.walker(0, 0, 1);
        x.walker(3, 2, 1);
        x.walker(0, 3, 0);
        x.walker(4, 1, 0);
        due("no prints: all", x.who(), 31);
        x.print(0, 0, 1);
        due("in, on the right foot", x.who(), 1 | 4);
        x.print(0, 1, 0);
        due("out on another foot than the mark", x.who(), 0);
        x.wipe();
        x.print(0, 1, 0);
        due("out without a mark", x.who(), 0);
        x.wipe();
        x.go(0, 0);
        x.skip(0);
        x.print(0, 1, 1);
        due("out on its mark", x.who(), 1);
        x.print(0, 0, 0);
        due("and in again", x.who(), 1);
        x.print(0, 0, 1);
        due("and again", x.who(), 1);
        x.print(0, 1, 0);
        due("out on the older mark", x.who(), 0);
        FootByGate free = in("011!,232!,122;f");
        free.walker(0, 1, 0);
        free.print(1, 0, 0);
        due("past no other gate", free.who(), 1);
        free.wipe();
        free.walker(0, 0, 1);
        free.print(1, 0, 0);
        due("through no gate between", free.who(), 1);
        free.wipe();
        free.print(0, 0, 0);
        free.print(1, 0, 0);
        due("one gate, then the other", free.who(), 2);
    }

    private static void walk() {
        FootByGate x = in("011!,122,121");
        x.walker(0, 0, 0);
        x.walker(0, 5, 1);
        x.walker(0, 1, 0);
        long before = x.digest();
        due("one turn, its place", x.walk(0, 1, 0, 0), 1);
        due("one turn, its foot", x.walk(0, 1, 0, 1), 1);
        due("one turn, stayed", x.walk(0, 1, 0, 2), 0);
        due("one turn, the seed", x.walk(0, 1, 0, 3), 12345);
        due("no street, place", x.walk(1, 60, 77, 0), 5);
        due("no street, foot", x.walk(1, 60, 77, 1), 1);
        due("no street, stayed", x.walk(1, 60, 77, 2), 0);
        due("no street: nothing is drawn", x.walk(1, 60, 77, 3), 77);
        due("of three streets the first: it may not", x.walk(2, 1, 0, 2), 1);
        due("it stays", x.walk(2, 1, 0, 0), 1);
        long seed = 2147483647;
        for (int i = 0; i < 60; i++) {
            seed = (1103515245L * seed + 12345) % 2147483648L;
        }
        due("the seed of 60", x.walk(0, 60, 2147483647, 3), seed);
        due("digest()", x.digest(), before);
        due("walk(3, 1, 0, 0)", x.walk(3, 1, 0, 0), UNKNOWN);
        due("walk(-1, 0, -1, 4)", x.walk(-1, 0, -1, 4), UNKNOWN);
        due("no turns", x.walk(0, 0, 0, 0), OUTSIDE);
        due("61 turns", x.walk(0, 61, 0, 0), OUTSIDE);
        due("seed -1", x.walk(0, 1, -1, 0), OUTSIDE);
        due("what -1", x.walk(0, 1, 0, -1), OUTSIDE);
        due("what 4", x.walk(0, 1, 0, 4), OUTSIDE);
    }

    private static void image() {
        FootByGate x = in("011!");
        due("of none", x.image(), 0);
        x.walker(0, 0, 0);
        x.walker(0, 0, 0);
        due("of two", x.image(), 2);
        due("the latest is kept", x.restore(), 2);
        long before = x.digest();
        x.image();
        due("digest()", x.digest(), before);
        due("without a town", new FootByGate().image(), STATE);
    }

    private static void restore() {
        FootByGate x = in("011!,122");
        due("none was kept", x.restore(), STATE);
        x.walker(0, 0, 0);
        x.walker(2, 1, 1);
        x.go(0, 0);
        x.skip(0);
        x.print(0, 1, 1);
        x.print(0, 0, 1);
        write(x, "01");
        due("image()", x.image(), 2);
        long before = x.digest();
        x.go(0, 0);
        x.go(0, 0);
        x.skip(1);
        x.repave(0, 9);
        x.repave(1, 0);
        x.wipe();
        x.print(0, 0, 0);
        x.walker(3, 3, 0);
        due("restore()", x.restore(), 2);
        due("digest()", x.digest(), before);
        due("walkers since are gone", x.about(2, 0), UNKNOWN);
        due("another in its stead", x.walker(1, 2, 1), 2);
        due("its kind", x.about(2, 0), 1);
        due("its skips", x.about(2, 3), 0);
        x.letters(bytes("2"));
        x.round(0, 0);
        due("restore() again", x.restore(), 2);
        due("the page is not kept", x.count(5), 3);
        due("nor how often round() was done", x.count(7), 1);
        x.letters(bytes("?"));
        due("no town", x.town(), STATE);
        due("restore() in the same town", x.restore(), 2);
        x.blank();
        write(x, "011!,122");
        x.town();
        before = x.digest();
        due("another town", x.restore(), STATE);
        due("digest() then", x.digest(), before);
        due("image() of it", x.image(), 0);
        due("restore() of it", x.restore(), 0);
    }

    private static void count() {
        FootByGate x = in("011!,122,231!;f");
        x.walker(0, 0, 0);
        x.print(0, 0, 0);
        x.print(0, 0, 0);
        write(x, "0123");
        x.round(0, 0);
        x.stones(0, 0, 0);
        x.stones(0, 1, 0);
        int[] counts = {3, 2, 1, 2, 1, 4, 1, 3};
        for (int what = 0; what <= 7; what++) {
            due("count(" + what + ")", x.count(what), counts[what]);
        }
        due("count(8)", x.count(8), OUTSIDE);
        due("count(-1)", x.count(-1), OUTSIDE);
        due("count(MIN)", x.count(Integer.MIN_VALUE), OUTSIDE);
    }

    private static long folded(long... numbers) {
        long h = 619;
        for (long n : numbers) {
            h = 31 * h + n;
        }
        return h;
    }

    private static void digest() {
        FootByGate x = new FootByGate();
        due("of a new object", x.digest(), folded(0, 0, 0, 0, 0, 0, 0, 0, 0));
        write(x, "a~");
        due("of letters", x.digest(), folded(0, 97, 126, 0, 0, 0, 0, 0, 2, 0, 0));
        x = in("061!,012,020,121;f");
        x.walker(0, 0, 1);
        x.walker(3, 5, 0);
        x.skip(0);
        x.print(0, 0, 1);
        x.stones(0, 0, 0);
        due("of all", x.digest(), folded(
                0, 6, 1, 0, 0, 1, 2, -1, 0, 2, 0, -1, 1, 2, 1, -1,
                0, 0, 0, 1, -1, -1, -1, 0b0111000, 1, 0, 0, 1,
                3, 5, 0, 0, -1, -1, -1, 0b1011111, -1, -1, -1, -1,
                1, 2,
                0, 0, 1,
                1,
                4, 1, 2, 1, 1, 0, 1, 1));
    }
}
