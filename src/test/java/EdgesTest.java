import java.util.ArrayList;
import java.util.List;

/**
 * Each sentence of the document that names a boundary case, with objects of its own: too small, too large, empty,
 * full, a wrap-around, and what stands just beside them. That refused calls change nothing is RefusalsTest's.
 */
public final class EdgesTest {
    private static final int NONE = -1, UNKNOWN = -101, OUTSIDE = -102, STATE = -103, FULL = -104;
    private static final int WALKER = 0, CHILD = 1, HORSE = 2, LAME = 3, PONY = 4;
    private static final int LEFT = 0, RIGHT = 1, IN = 0, OUT = 1;
    private static final String TEN = "010,121,232,343,454,565,606,027,138,249";

    private static int wrong = 0;
    private static int sentences = 0;
    private static int asked = 0;
    private static String sentence = "";

    private static void sentence(int promise, String words) {
        endOfSentence();
        sentences++;
        asked = 0;
        sentence = "promise " + promise + ", \"" + words + "\"";
    }

    private static void endOfSentence() {
        if (sentences > 0 && asked == 0) {
            wrong++;
            System.out.println(sentence + " is not tested");
        }
    }

    private static void due(String call, long got, long want) {
        asked++;
        if (got != want) {
            wrong++;
            System.out.println(sentence + ": " + call + " answered " + got + ", due is " + want);
        }
    }

    private static long bytes(String text) {
        long w = 0;
        for (int i = text.length() - 1; i >= 0; i--) {
            w = w << 8 | text.charAt(i);
        }
        return w;
    }

    private static FootByGate write(FootByGate x, String text) {
        for (int i = 0; i < text.length(); i += 8) {
            x.letters(bytes(text.substring(i, Math.min(text.length(), i + 8))));
        }
        return x;
    }

    private static FootByGate paged(String text) {
        return write(new FootByGate(), text);
    }

    private static FootByGate in(String text) {
        FootByGate x = paged(text);
        if (x.town() <= 0) {
            wrong++;
            System.out.println(sentence + ": " + text + " is no town");
        }
        return x;
    }

    /** A town with one walker in it, number 0. */
    private static FootByGate with(String text, int kind, int place, int foot) {
        FootByGate x = in(text);
        due("walker(" + kind + ", " + place + ", " + foot + ")", x.walker(kind, place, foot), 0);
        return x;
    }

    private static void goes(FootByGate x, int walker, int... streets) {
        for (int s : streets) {
            if (x.go(walker, s) < 0) {
                wrong++;
                System.out.println(sentence + ": walker " + walker + " may not go through street " + s);
            }
        }
    }

    private static long folded(int... numbers) {
        long h = 619;
        for (int n : numbers) {
            h = 31 * h + n;
        }
        return h;
    }

    public static void main(String[] args) {
        aNewObject();
        letters();
        lettersRefused();
        blank();
        faultByLetter();
        faultByPlace();
        townOfLimits();
        townOfNone();
        townAnew();
        street();
        repave();
        walker();
        walkerFull();
        about();
        as();
        steps();
        may();
        mayOutOfGates();
        go();
        skip();
        fewest();
        skips();
        shut();
        round();
        doneFortyTimes();
        stones();
        even();
        both();
        bothByMarksOfTheWay();
        bothRefused();
        change();
        print();
        wipe();
        who();
        whoByMarks();
        walk();
        walkDraws();
        image();
        restore();
        restoreRefused();
        count();
        digest();
        endOfSentence();
        System.out.println(wrong == 0 ? "all edges hold, of " + sentences + " sentences" : wrong + " answers are not as due");
        if (wrong != 0) {
            System.exit(1);
        }
    }

    // ---- the town

    private static void aNewObject() {
        sentence(1, "No TOWN: nothing is there");
        for (int what = 0; what <= 7; what++) {
            due("count(" + what + ")", new FootByGate().count(what), 0);
        }
        due("blank()", new FootByGate().blank(), 0);
        due("fault()", new FootByGate().fault(), 0);
        due("wipe()", new FootByGate().wipe(), 0);
        due("who()", new FootByGate().who(), 0);

        sentence(1, "No TOWN: nothing is named by a number");
        FootByGate x = new FootByGate();
        due("street(0, 0)", x.street(0, 0), UNKNOWN);
        due("repave(0, 0)", x.repave(0, 0), UNKNOWN);
        due("about(0, 0)", x.about(0, 0), UNKNOWN);
        due("as(0, 0)", x.as(0, 0), UNKNOWN);
        due("steps(0, 0)", x.steps(0, 0), UNKNOWN);
        due("may(0, 0)", x.may(0, 0), UNKNOWN);
        due("go(0, 0)", x.go(0, 0), UNKNOWN);
        due("skip(0)", x.skip(0), UNKNOWN);
        due("fewest(0, 0, 0)", x.fewest(0, 0, 0), UNKNOWN);
        due("skips(0, 0, 0)", x.skips(0, 0, 0), UNKNOWN);
        due("shut(0)", x.shut(0), UNKNOWN);
        due("round(0, 0)", x.round(0, 0), UNKNOWN);
        due("stones(0, 0, 0)", x.stones(0, 0, 0), UNKNOWN);
        due("both(0, 1, 0)", x.both(0, 1, 0), UNKNOWN);
        due("change(0, 0)", x.change(0, 0), UNKNOWN);
        due("print(0, 0, 0)", x.print(0, 0, 0), UNKNOWN);
        due("walk(0, 1, 0, 0)", x.walk(0, 1, 0, 0), UNKNOWN);

        sentence(1, "No TOWN: the calls that want one");
        due("town()", x.town(), STATE);
        due("walker(0, 0, 0)", x.walker(0, 0, 0), STATE);
        due("even(0, 0)", x.even(0, 0), STATE);
        due("image()", x.image(), STATE);
        due("restore()", x.restore(), STATE);
    }

    private static void letters() {
        sentence(2, "until a byte that is 0: none at all");
        due("letters(0)", new FootByGate().letters(0), 0);
        due("letters(0) behind three", paged("012").letters(0), 3);

        sentence(2, "up to eight");
        for (int many = 1; many <= 8; many++) {
            due(many + " letters", new FootByGate().letters(bytes("AAAAAAAA".substring(8 - many))), many);
        }

        sentence(2, "the lowest byte first");
        FootByGate x = new FootByGate();
        x.letters(0x30L | 0x31L << 8 | 0x32L << 16 | 0x2CL << 24 | 0x33L << 32 | 0x34L << 40 | 0x35L << 48 | 0x21L << 56);
        due("town() of 012,345!", x.town(), 2);
        due("the first", x.street(0, 0), 0);
        due("the last", x.street(1, 3), 0);

        sentence(2, "Letters come behind THE PAGE");
        x = paged("012");
        x.letters(bytes(",340"));
        due("town() of both", x.town(), 2);
        due("the second", x.street(1, 0), 3);

        sentence(2, "by their codes: 1 and 126 are letters, too");
        for (int i = 0; i < 8; i++) {
            long all = 0x0101010101010101L >>> 8 * (7 - i);
            due((i + 1) + " of code 1", new FootByGate().letters(all), i + 1);
            due((i + 1) + " of code 126", new FootByGate().letters(126 * all), i + 1);
        }

        sentence(2, "FULL: above 50; just 50 are not");
        x = new FootByGate();
        for (int i = 1; i <= 6; i++) {
            due("eight more", x.letters(bytes("AAAAAAAA")), 8 * i);
        }
        due("50", x.letters(bytes("AA")), 50);
        due("none behind 50", x.letters(0), 50);
        due("51", x.letters(bytes("A")), FULL);
        due("58", x.letters(bytes("AAAAAAAA")), FULL);
        due("50 still", x.count(5), 50);
        due("blank() of 50", x.blank(), 50);
        due("one again", x.letters(bytes("A")), 1);

        sentence(2, "FULL: above 50, by several at once: none of them comes");
        x = paged("A".repeat(49));
        due("51 by two", x.letters(bytes("AA")), FULL);
        due("49 still", x.count(5), 49);
        due("50 by one", x.letters(bytes("A")), 50);
        x = paged("A".repeat(43));
        due("51 by eight", x.letters(bytes("AAAAAAAA")), FULL);
        due("50 by seven", x.letters(bytes("AAAAAAA")), 50);
    }

    private static void lettersRefused() {
        sentence(2, "OUTSIDE: a byte above 126, at each of the eight");
        for (int i = 0; i < 8; i++) {
            long ahead = bytes("AAAAAAAA".substring(8 - i));
            for (int code : new int[] {127, 128, 129, 254, 255}) {
                FootByGate x = new FootByGate();
                due("code " + code + " behind " + i, x.letters(ahead | (long) code << 8 * i), OUTSIDE);
                due("count(5)", x.count(5), 0);
            }
        }
        due("all bytes 255", new FootByGate().letters(-1L), OUTSIDE);
        due("the least long", new FootByGate().letters(Long.MIN_VALUE), OUTSIDE);
        due("the greatest long", new FootByGate().letters(Long.MAX_VALUE), OUTSIDE);

        sentence(2, "OUTSIDE: one behind a 0 that is not 0");
        for (int zero = 0; zero < 7; zero++) {
            long ahead = bytes("AAAAAAAA".substring(8 - zero));
            for (int i = zero + 1; i < 8; i++) {
                for (long code : new long[] {1, 65, 126, 200}) {
                    FootByGate x = new FootByGate();
                    due("0 at " + zero + ", " + code + " at " + i, x.letters(ahead | code << 8 * i), OUTSIDE);
                    due("count(5)", x.count(5), 0);
                }
            }
        }

        sentence(2, "of several the first as told: OUTSIDE, FULL");
        FootByGate x = paged("A".repeat(50));
        due("code 127 on a full page", x.letters(127), OUTSIDE);
        due("one behind a 0 on a full page", x.letters(65L << 8), OUTSIDE);
        due("a letter on a full page", x.letters(65), FULL);
    }

    private static void blank() {
        sentence(3, "how many letters it had: none");
        due("blank()", new FootByGate().blank(), 0);
        sentence(3, "how many letters it had: 50");
        FootByGate x = paged("7".repeat(50));
        due("blank()", x.blank(), 50);
        sentence(3, "THE PAGE is empty");
        due("blank() again", x.blank(), 0);
        due("count(5)", x.count(5), 0);
        due("fault()", x.fault(), 0);
        due("letters()", x.letters(bytes("012")), 3);
        due("town() of what came then", x.town(), 1);
        sentence(3, "THE PAGE alone is empty: the TOWN stands");
        x = with("012!", WALKER, 0, LEFT);
        x.print(0, IN, LEFT);
        write(x, "01");
        due("blank()", x.blank(), 2);
        due("count(0)", x.count(0), 1);
        due("count(2)", x.count(2), 1);
        due("count(3)", x.count(3), 1);
    }

    /** Behind the text just these letters of all 126 may come. */
    private static void mayFollow(String text, String letters) {
        for (int code = 1; code <= 126; code++) {
            boolean fits = letters.indexOf(code) >= 0;
            FootByGate x = paged(text);
            x.letters(code);
            due("fault() of " + text + " and code " + code, x.fault(), fits ? text.length() + 1 : text.length());
        }
    }

    private static void faultByLetter() {
        sentence(4, "no TOWN has there: a digit of a PLACE first (0 to 6)");
        mayFollow("", "0123456");
        mayFollow("012,", "0123456");
        mayFollow("012!,", "0123456");
        sentence(4, "no TOWN has there: two unlike digits");
        for (int place = 0; place <= 6; place++) {
            mayFollow("" + place, "0123456".replace("" + place, ""));
        }
        mayFollow("012,6", "012345");
        sentence(4, "no TOWN has there: PACES, 0 to 9");
        mayFollow("01", "0123456789");
        mayFollow("012!,65", "0123456789");
        sentence(4, "no TOWN has there: perhaps \"!\", then \",\" or \";\"");
        mayFollow("010", "!,;");
        mayFollow("019", "!,;");
        mayFollow("010!", ",;");
        sentence(4, "no TOWN has there: \"f\" behind \";\", and nothing behind it");
        mayFollow("010;", "f");
        mayFollow("010!;", "f");
        mayFollow("010;f", "");
        mayFollow("010!;f", "");
        sentence(4, "no TOWN has there: ten STREETS at most");
        mayFollow(TEN.substring(0, 35), "!,;");
        mayFollow(TEN.substring(0, 36), "0123456");
        mayFollow(TEN, "!;");
        mayFollow(TEN + "!", ";");
        mayFollow(TEN + ";", "f");
        mayFollow(TEN + ";f", "");
        sentence(4, "no TOWN has there: three GATES at most");
        mayFollow("010!,010!,010", "!,;");
        mayFollow("010!,010!,010!", ",;");
        mayFollow("010!,010!,010!,010", ",;");
        mayFollow("010!,010!,010!,010,010", ",;");
    }

    private static void faultByPlace() {
        sentence(4, "how many letters it has, if there is none");
        String longest = "010!,010!,010!,010,010,010,010,010,010,010;f";
        for (int many = 0; many <= longest.length(); many++) {
            due("fault() of " + many, paged(longest.substring(0, many)).fault(), many);
        }
        sentence(4, "the first letter of THE PAGE that no TOWN has there: later ones do not matter");
        for (int at = 0; at < 44; at++) {
            String spoilt = longest.substring(0, at) + "?" + longest.substring(at + 1);
            due("fault() of " + spoilt, paged(spoilt).fault(), at);
            due("fault() of two such", paged(spoilt.substring(0, 43) + "?").fault(), Math.min(at, 43));
        }
        due("fault() of a full page", paged("7".repeat(50)).fault(), 0);
        due("fault() behind a whole town", paged(longest + "010,01").fault(), 44);
        sentence(4, "it tells only: asked twice it answers the same, and letters still come");
        FootByGate x = paged("012,");
        due("fault()", x.fault(), 4);
        due("fault() again", x.fault(), 4);
        x.letters(bytes("33"));
        due("fault() then", x.fault(), 5);
    }

    private static void townOfLimits() {
        sentence(5, "one to ten STREETS");
        for (int many = 1; many <= 10; many++) {
            due("town() of " + many, paged(TEN.substring(0, 4 * many - 1)).town(), many);
        }
        due("town() of eleven", paged(TEN + ",010").town(), STATE);
        due("town() of none", paged("").town(), STATE);
        due("town() of none, free", paged(";f").town(), STATE);

        sentence(5, "PLACES (0 to 6), two unlike digits");
        for (int first = 0; first <= 9; first++) {
            for (int second = 0; second <= 9; second++) {
                boolean is = first <= 6 && second <= 6 && first != second;
                FootByGate x = paged("" + first + second + "5");
                due("town() of " + first + second + "5", x.town(), is ? 1 : STATE);
                due("its first place", x.street(0, 0), is ? first : UNKNOWN);
                due("its second place", x.street(0, 1), is ? second : UNKNOWN);
            }
        }

        sentence(5, "PACES, 0 to 9");
        for (int paces = 0; paces <= 9; paces++) {
            due("its paces", in("01" + paces).street(0, 2), paces);
        }
        due("town() of :", paged("01:").town(), STATE);
        due("town() of /", paged("01/").town(), STATE);

        sentence(5, "three of them at most, numbered as they come");
        String[] gated = {"010,121,232", "010,121!,232", "010!,121,232!", "010!,121!,232!"};
        for (int gates = 0; gates <= 3; gates++) {
            FootByGate x = in(gated[gates]);
            due("count(1) of " + gated[gates], x.count(1), gates);
            int next = 0;
            for (int s = 0; s < 3; s++) {
                due("gate of " + s, x.street(s, 3), gated[gates].split(",")[s].endsWith("!") ? next++ : NONE);
            }
        }
        due("town() of four", paged("010!,121!,232!,343!").town(), STATE);
        FootByGate last = in("010,121,232,343,454,565,606,027!,138!,249!");
        due("the last gate of ten streets", last.street(9, 3), 2);

        sentence(5, "then perhaps \";f\" (FREE)");
        due("free", in("010;f").count(4), 1);
        due("free behind a gate", in("010!;f").count(4), 1);
        due("not free", in("010").count(4), 0);
        FootByGate most = paged("010!,121!,232!,343,454,565,606,027,138,249;f");
        due("town() of most letters", most.town(), 10);
        due("free, too", most.count(4), 1);
        due("its last street", most.street(9, 2), 9);
    }

    private static void townOfNone() {
        sentence(5, "STATE: it is none: what only begins as one");
        for (String text : new String[] {"", "0", "01", "012,", "012,3", "012,34", "012!,", "012;", "012!;",
            TEN + ";", TEN.substring(0, 36)}) {
            FootByGate x = paged(text);
            due("fault() of " + text, x.fault(), text.length());
            due("town() of " + text, x.town(), STATE);
            due("the page is as it was", x.count(5), text.length());
        }
        sentence(5, "STATE: it is none: what has a fault");
        for (String text : new String[] {"7", "00", "012 ", " 012", "012!!", "012,,", "012;f;", "012;f,013", "012;F",
            "012f", "01 2", "1-2", TEN + ",", "012\n"}) {
            FootByGate x = paged(text);
            due("town() of " + text, x.town(), STATE);
            due("the page is as it was", x.count(5), text.length());
        }
        sentence(5, "STATE: it is none: a full page");
        due("town() of 50 letters", paged("0".repeat(50)).town(), STATE);
        sentence(5, "STATE: it is none: it may become one by letters that come then");
        FootByGate x = paged("012,");
        due("town()", x.town(), STATE);
        x.letters(bytes("120"));
        due("town() then", x.town(), 2);
    }

    private static void townAnew() {
        sentence(5, "THE PAGE is empty then");
        FootByGate x = in("012!");
        due("count(5)", x.count(5), 0);
        due("fault()", x.fault(), 0);
        due("blank()", x.blank(), 0);
        due("town() of the empty page", x.town(), STATE);
        due("the town stands", x.count(0), 1);
        sentence(5, "another one is gone, with WALKERS, PRINTS");
        x = with("012!,121!,230!,343;f", WALKER, 0, LEFT);
        goes(x, 0, 0, 1, 2);
        x.skip(0);
        for (int i = 0; i < 6; i++) {
            x.print(i % 3, IN, LEFT);
        }
        write(x, "560");
        due("town()", x.town(), 1);
        due("its streets", x.count(0), 1);
        due("its gates", x.count(1), 0);
        due("walkers", x.count(2), 0);
        due("prints", x.count(3), 0);
        due("free", x.count(4), 0);
        due("a street of the other one", x.street(1, 0), UNKNOWN);
        due("a gate of the other one", x.print(0, IN, LEFT), UNKNOWN);
        due("a walker of the other one", x.about(0, 0), UNKNOWN);
        due("its number is free", x.walker(PONY, 5, RIGHT), 0);
        int[] about = {PONY, 5, RIGHT, 0, NONE, NONE, NONE};
        for (int what = 0; what <= 6; what++) {
            due("about(0, " + what + ")", x.about(0, what), about[what]);
        }
        sentence(5, "another one is gone: one of more STREETS than before");
        write(x, "012,121!");
        due("town()", x.town(), 2);
        due("a gate", x.street(1, 3), 0);
        due("no gate", x.street(0, 3), NONE);
        sentence(5, "another one is gone: paces are as the page tells");
        x = in("012");
        x.repave(0, 9);
        write(x, "012");
        x.town();
        due("street(0, 2)", x.street(0, 2), 2);
    }

    private static void street() {
        sentence(6, "UNKNOWN: a street below 0, or behind the last");
        for (int many = 1; many <= 10; many++) {
            FootByGate x = in(TEN.substring(0, 4 * many - 1));
            due("the last", x.street(many - 1, 2), many - 1);
            due("behind the last", x.street(many, 2), UNKNOWN);
            due("below 0", x.street(-1, 2), UNKNOWN);
        }
        FootByGate x = in(TEN);
        due("the greatest", x.street(Integer.MAX_VALUE, 0), UNKNOWN);
        due("the least", x.street(Integer.MIN_VALUE, 0), UNKNOWN);
        sentence(6, "OUTSIDE: what below 0, above 3");
        due("3", x.street(0, 3), NONE);
        due("4", x.street(0, 4), OUTSIDE);
        due("-1", x.street(0, -1), OUTSIDE);
        due("the greatest", x.street(0, Integer.MAX_VALUE), OUTSIDE);
        due("the least", x.street(0, Integer.MIN_VALUE), OUTSIDE);
        sentence(6, "of several the first as told: UNKNOWN, OUTSIDE");
        due("street(10, 4)", x.street(10, 4), UNKNOWN);
        sentence(6, "its PLACES (as told)");
        x = in("650,056");
        due("street(0, 0)", x.street(0, 0), 6);
        due("street(0, 1)", x.street(0, 1), 5);
        due("street(1, 0)", x.street(1, 0), 0);
        due("street(1, 1)", x.street(1, 1), 5);
    }

    private static void repave() {
        sentence(7, "OUTSIDE: v (0 to 9)");
        FootByGate x = in("015");
        due("0", x.repave(0, 0), 5);
        due("9", x.repave(0, 9), 0);
        due("what they were", x.repave(0, 9), 9);
        due("-1", x.repave(0, -1), OUTSIDE);
        due("10", x.repave(0, 10), OUTSIDE);
        due("the least", x.repave(0, Integer.MIN_VALUE), OUTSIDE);
        due("the greatest", x.repave(0, Integer.MAX_VALUE), OUTSIDE);
        due("street(0, 2)", x.street(0, 2), 9);
        sentence(7, "UNKNOWN");
        due("-1", x.repave(-1, 1), UNKNOWN);
        due("1", x.repave(1, 1), UNKNOWN);
        due("the tenth", in(TEN).repave(9, 0), 9);
        due("the eleventh", in(TEN).repave(10, 0), UNKNOWN);
        sentence(7, "of several the first as told: UNKNOWN, OUTSIDE");
        due("repave(1, 10)", x.repave(1, 10), UNKNOWN);
        sentence(7, "PACES of a STREET become v, of no other one");
        x = in("012,123");
        x.repave(1, 0);
        due("street(0, 2)", x.street(0, 2), 2);
        due("street(1, 2)", x.street(1, 2), 0);
    }

    // ---- walkers

    private static void walker() {
        sentence(8, "UNKNOWN: place");
        FootByGate x = in("012");
        due("0", x.walker(0, 0, 0), 0);
        due("6, where no street is", x.walker(0, 6, 0), 1);
        due("7", x.walker(0, 7, 0), UNKNOWN);
        due("-1", x.walker(0, -1, 0), UNKNOWN);
        due("the greatest", x.walker(0, Integer.MAX_VALUE, 0), UNKNOWN);
        due("the least", x.walker(0, Integer.MIN_VALUE, 0), UNKNOWN);
        sentence(8, "OUTSIDE: kind");
        due("4", x.walker(4, 0, 0), 2);
        due("5", x.walker(5, 0, 0), OUTSIDE);
        due("-1", x.walker(-1, 0, 0), OUTSIDE);
        sentence(8, "OUTSIDE: foot");
        due("1", x.walker(0, 0, 1), 3);
        due("2", x.walker(0, 0, 2), OUTSIDE);
        due("-1", x.walker(0, 0, -1), OUTSIDE);
        due("how many", x.count(2), 4);
        sentence(8, "STATE: there is no TOWN");
        due("walker()", new FootByGate().walker(0, 0, 0), STATE);
        due("with a page that is one", paged("012").walker(0, 0, 0), STATE);
        sentence(8, "of several the first as told: UNKNOWN, OUTSIDE, STATE");
        FootByGate none = new FootByGate();
        due("all three", none.walker(5, 7, 2), UNKNOWN);
        due("kind and no town", none.walker(5, 0, 0), OUTSIDE);
        due("foot and no town", none.walker(0, 0, 2), OUTSIDE);
        due("place and no town", none.walker(0, 7, 0), UNKNOWN);
        due("place and kind", x.walker(5, 7, 0), UNKNOWN);
        due("place and foot", x.walker(0, -1, 2), UNKNOWN);
        sentence(8, "a MARK at each GATE (a FOOT; none at first)");
        x = in("010!,121!,202!");
        x.walker(0, 0, 1);
        for (int what = 4; what <= 6; what++) {
            due("about(0, " + what + ")", x.about(0, what), NONE);
        }
    }

    private static void walkerFull() {
        sentence(8, "WALKERS (5 at most, numbered)");
        FootByGate x = in("012");
        for (int i = 0; i < 5; i++) {
            due("walker " + i, x.walker(i, i, i % 2), i);
        }
        due("the sixth", x.walker(0, 0, 0), FULL);
        due("the sixth again", x.walker(4, 6, 1), FULL);
        due("count(2)", x.count(2), 5);
        for (int i = 0; i < 5; i++) {
            due("kind of " + i, x.about(i, 0), i);
            due("place of " + i, x.about(i, 1), i);
            due("foot of " + i, x.about(i, 2), i % 2);
        }
        sentence(8, "of several the first as told: UNKNOWN, OUTSIDE, FULL");
        due("a sixth at 7 of kind 5", x.walker(5, 7, 0), UNKNOWN);
        due("a sixth of kind 5", x.walker(5, 0, 0), OUTSIDE);
        due("a sixth on foot 2", x.walker(0, 0, 2), OUTSIDE);
        sentence(8, "FULL no more in another TOWN");
        write(x, "012");
        x.town();
        due("the first", x.walker(0, 0, 0), 0);
    }

    private static void about() {
        sentence(9, "UNKNOWN");
        FootByGate x = with("012", WALKER, 3, RIGHT);
        due("0", x.about(0, 1), 3);
        due("1", x.about(1, 1), UNKNOWN);
        due("-1", x.about(-1, 1), UNKNOWN);
        due("5", x.about(5, 1), UNKNOWN);
        due("the greatest", x.about(Integer.MAX_VALUE, 1), UNKNOWN);
        due("the least", x.about(Integer.MIN_VALUE, 1), UNKNOWN);
        sentence(9, "OUTSIDE: what below 0, above 6");
        due("6", x.about(0, 6), NONE);
        due("7", x.about(0, 7), OUTSIDE);
        due("-1", x.about(0, -1), OUTSIDE);
        sentence(9, "of several the first as told: UNKNOWN, OUTSIDE");
        due("about(1, 7)", x.about(1, 7), UNKNOWN);
        sentence(9, "4 to 6 its MARK at GATES 0 to 2 (NONE): a town of fewer gates");
        for (int what = 4; what <= 6; what++) {
            due("about(0, " + what + ")", x.about(0, what), NONE);
        }
        sentence(9, "4 to 6 its MARK at GATES 0 to 2: each its own");
        x = with("011!,121!,232!", WALKER, 0, LEFT);
        goes(x, 0, 0);
        due("gate 0", x.about(0, 4), RIGHT);
        due("gate 1", x.about(0, 5), NONE);
        goes(x, 0, 1);
        due("gate 0 still", x.about(0, 4), RIGHT);
        due("gate 1", x.about(0, 5), LEFT);
        due("gate 2", x.about(0, 6), NONE);
        goes(x, 0, 2);
        due("gate 2 then", x.about(0, 6), LEFT);
        due("gate 1 still", x.about(0, 5), LEFT);
        sentence(9, "4 to 6 its MARK at GATES 0 to 2: left, right and left again");
        x = with("010!,010!,010!,100", WALKER, 0, LEFT);
        for (int gate = 0; gate <= 2; gate++) {
            for (int time = 0; time < 3; time++) {
                goes(x, 0, gate, 3);
                due("gate " + gate, x.about(0, 4 + gate), time % 2);
                x.skip(0);
            }
            x.skip(0);
            for (int before = 0; before < gate; before++) {
                due("gate " + before + " still", x.about(0, 4 + before), LEFT);
            }
        }
        x = with("011!,121!,232!", WALKER, 0, LEFT);
        goes(x, 0, 0, 1, 2);
        sentence(9, "3 how often it SKIPPED: not at first, and by skip() alone");
        due("never", x.about(0, 3), 0);
        x.skips(0, 0, 0);
        due("skips() is no skip", x.about(0, 3), 0);
        x.skip(0);
        due("once", x.about(0, 3), 1);
    }

    private static void as() {
        sentence(10, "All are WALKERS; a PONY is a HORSE, too; NONE: it is none such");
        FootByGate x = in("012");
        for (int kind = 0; kind < 5; kind++) {
            x.walker(kind, 0, 0);
        }
        for (int i = 0; i < 5; i++) {
            for (int kind = 0; kind < 5; kind++) {
                boolean is = kind == WALKER || kind == i || i == PONY && kind == HORSE;
                due("as(" + i + ", " + kind + ")", x.as(i, kind), is ? i : NONE);
            }
        }
        sentence(10, "UNKNOWN");
        due("5", x.as(5, 0), UNKNOWN);
        due("-1", x.as(-1, 0), UNKNOWN);
        sentence(10, "OUTSIDE");
        due("5", x.as(4, 5), OUTSIDE);
        due("-1", x.as(4, -1), OUTSIDE);
        sentence(10, "of several the first as told: UNKNOWN, OUTSIDE");
        due("as(5, 5)", x.as(5, 5), UNKNOWN);
        sentence(10, "taken as a KIND it stays what it is");
        x.as(4, 2);
        due("about(4, 0)", x.about(4, 0), PONY);
    }

    private static void steps() {
        sentence(11, "half of them (rounded down) more; (rounded up); one more than that; 0 to 9 PACES");
        int[][] steps = {
            {0, 1, 2, 3, 4, 5, 6, 7, 8, 9}, {0, 1, 3, 4, 6, 7, 9, 10, 12, 13}, {0, 1, 1, 2, 2, 3, 3, 4, 4, 5},
            {0, 1, 2, 3, 4, 5, 6, 7, 8, 9}, {1, 2, 2, 3, 3, 4, 4, 5, 5, 6}};
        for (int kind = 0; kind < 5; kind++) {
            for (int paces = 0; paces <= 9; paces++) {
                due("kind " + kind + ", " + paces + " paces", with("01" + paces, kind, 0, 0).steps(0, 0), steps[kind][paces]);
            }
        }
        sentence(11, "for a STREET: where it stands does not matter");
        due("elsewhere", with("015", WALKER, 6, LEFT).steps(0, 0), 5);
        due("at the other end", with("015!", WALKER, 1, LEFT).steps(0, 0), 5);
        sentence(11, "UNKNOWN: walker, street");
        FootByGate x = with("015", WALKER, 0, LEFT);
        due("steps(1, 0)", x.steps(1, 0), UNKNOWN);
        due("steps(-1, 0)", x.steps(-1, 0), UNKNOWN);
        due("steps(0, 1)", x.steps(0, 1), UNKNOWN);
        due("steps(0, -1)", x.steps(0, -1), UNKNOWN);
        due("steps(0, 10)", x.steps(0, 10), UNKNOWN);
    }

    private static void may() {
        sentence(12, "NONE: the STREET is not at its PLACE");
        FootByGate x = in("012,232!");
        for (int place = 0; place <= 3; place++) {
            x.walker(WALKER, place, LEFT);
        }
        x.walker(WALKER, 6, LEFT);
        int[] first = {1, 1, NONE, NONE, NONE};
        int[] second = {NONE, NONE, 1, 0, NONE};
        for (int i = 0; i < 5; i++) {
            due("may(" + i + ", 0)", x.may(i, 0), first[i]);
            due("may(" + i + ", 1)", x.may(i, 1), second[i]);
        }
        sentence(12, "UNKNOWN: walker, street");
        due("may(5, 0)", x.may(5, 0), UNKNOWN);
        due("may(-1, 0)", x.may(-1, 0), UNKNOWN);
        due("may(0, 2)", x.may(0, 2), UNKNOWN);
        due("may(0, -1)", x.may(0, -1), UNKNOWN);
        due("may(1, 10)", x.may(1, 10), UNKNOWN);
        sentence(12, "By STREETS without a GATE one MAY go always");
        for (int kind = 0; kind < 5; kind++) {
            for (int foot = 0; foot <= 1; foot++) {
                due("in", with("013", kind, 0, foot).may(0, 0), 1);
                due("out", with("013", kind, 1, foot).may(0, 0), 1);
                due("in by a gate", with("013!", kind, 0, foot).may(0, 0), 1);
            }
        }
    }

    private static void mayOutOfGates() {
        sentence(12, "without a MARK just if the town is FREE");
        for (int kind = 0; kind < 5; kind++) {
            for (int foot = 0; foot <= 1; foot++) {
                due("not free", with("013!", kind, 1, foot).may(0, 0), 0);
                due("free", with("013!;f", kind, 1, foot).may(0, 0), 1);
            }
        }
        sentence(12, "One MAY go OUT by it, if that FOOT is its MARK (free or not)");
        for (String free : new String[] {"", ";f"}) {
            for (int paces = 0; paces <= 9; paces++) {
                for (int kind = 0; kind < 5; kind++) {
                    FootByGate x = with("01" + paces + "!" + free, kind, 0, RIGHT);
                    boolean odd = kind != LAME && x.steps(0, 0) % 2 == 1;
                    goes(x, 0, 0);
                    due("its foot", x.about(0, 2), odd ? LEFT : RIGHT);
                    due("its mark", x.about(0, 4), odd ? LEFT : RIGHT);
                    due("kind " + kind + ", " + paces + " paces", x.may(0, 0), odd ? 0 : 1);
                    if (kind != LAME) {
                        x.skip(0);
                        due("behind a skip", x.may(0, 0), odd ? 1 : 0);
                    }
                }
            }
        }
        sentence(12, "its MARK: of that GATE, not of another");
        FootByGate x = with("012!,122!", WALKER, 0, LEFT);
        goes(x, 0, 0);
        x.walker(WALKER, 2, LEFT);
        due("out by the gate it came in", x.may(0, 0), 1);
        goes(x, 0, 1);
        x.repave(1, 1);
        due("out by the other, of odd steps", x.may(0, 1), 0);
        due("without marks", x.may(1, 1), 0);
        sentence(12, "they last came in on");
        x = with("012!,100", WALKER, 0, LEFT);
        goes(x, 0, 0, 1);
        x.skip(0);
        goes(x, 0, 0);
        due("mark", x.about(0, 4), RIGHT);
        due("out", x.may(0, 0), 1);
        x.skip(0);
        due("out on the mark before", x.may(0, 0), 0);
    }

    private static void go() {
        sentence(13, "STATE: the STREET is not at its PLACE");
        FootByGate x = with("012,232", WALKER, 0, LEFT);
        due("go(0, 1)", x.go(0, 1), STATE);
        due("its place", x.about(0, 1), 0);
        due("nowhere", with("012", WALKER, 6, LEFT).go(0, 0), STATE);
        sentence(13, "STATE: or it MAY not");
        x = with("011!", WALKER, 1, LEFT);
        due("without a mark", x.go(0, 0), STATE);
        due("its place", x.about(0, 1), 1);
        due("its foot", x.about(0, 2), LEFT);
        due("its mark", x.about(0, 4), NONE);
        x = with("011!", WALKER, 0, LEFT);
        goes(x, 0, 0);
        due("on the wrong foot", x.go(0, 0), STATE);
        due("its foot", x.about(0, 2), RIGHT);
        due("its mark", x.about(0, 4), RIGHT);
        sentence(13, "UNKNOWN: walker, street");
        due("go(1, 0)", x.go(1, 0), UNKNOWN);
        due("go(-1, 0)", x.go(-1, 0), UNKNOWN);
        due("go(0, 1)", x.go(0, 1), UNKNOWN);
        due("go(0, -1)", x.go(0, -1), UNKNOWN);
        sentence(13, "the PLACE where it is then");
        x = with("650,060", WALKER, 6, LEFT);
        due("in", x.go(0, 0), 5);
        due("out", x.go(0, 0), 6);
        due("out by another", x.go(0, 1), 0);
        sentence(13, "stands on the other FOOT behind it, if its STEPS are odd; a LAME always stays on the same");
        for (int kind = 0; kind < 5; kind++) {
            for (int paces = 0; paces <= 9; paces++) {
                x = with("01" + paces, kind, 1, LEFT);
                goes(x, 0, 0);
                due("kind " + kind + ", " + paces + " paces", x.about(0, 2), kind == LAME ? LEFT : x.steps(0, 0) % 2);
            }
        }
        sentence(13, "Going IN by a GATE, its MARK becomes the FOOT; going OUT it stays");
        x = with("011!,100;f", WALKER, 1, LEFT);
        goes(x, 0, 0);
        due("out of a free town", x.about(0, 4), NONE);
        goes(x, 0, 0);
        due("in", x.about(0, 4), LEFT);
        x.skip(0);
        goes(x, 0, 0);
        due("out", x.about(0, 4), LEFT);
        due("its foot", x.about(0, 2), LEFT);
    }

    private static void skip() {
        sentence(14, "STATE: it is LAME");
        FootByGate x = with("012", LAME, 0, RIGHT);
        due("skip(0)", x.skip(0), STATE);
        due("its foot", x.about(0, 2), RIGHT);
        due("how often", x.about(0, 3), 0);
        sentence(14, "UNKNOWN");
        due("skip(1)", x.skip(1), UNKNOWN);
        due("skip(-1)", x.skip(-1), UNKNOWN);
        sentence(14, "the FOOT then; how often it SKIPPED");
        for (int kind = 0; kind < 5; kind++) {
            if (kind != LAME) {
                x = with("012", kind, 6, RIGHT);
                due("once", x.skip(0), LEFT);
                due("twice", x.skip(0), RIGHT);
                due("how often", x.about(0, 3), 2);
                due("its place", x.about(0, 1), 6);
            }
        }
        sentence(14, "at most 512 calls: it may skip as often");
        x = with("012", WALKER, 0, LEFT);
        for (int i = 1; i <= 500; i++) {
            x.skip(0);
        }
        due("how often", x.about(0, 3), 500);
        due("its foot", x.about(0, 2), LEFT);
    }

    // ---- ways

    private static void fewest() {
        sentence(15, "0: it is there; 1 by which STREET first (NONE: it is there)");
        FootByGate x = with("010,101,343", WALKER, 0, LEFT);
        due("steps", x.fewest(0, 0, 0), 0);
        due("street", x.fewest(0, 0, 1), NONE);
        due("at a place without streets", with("012", WALKER, 6, LEFT).fewest(0, 6, 0), 0);
        due("at a place without streets, street", with("012", WALKER, 6, LEFT).fewest(0, 6, 1), NONE);
        sentence(15, "NONE: it can't");
        due("steps", x.fewest(0, 3, 0), NONE);
        due("street", x.fewest(0, 3, 1), NONE);
        due("out without a mark", with("010!", WALKER, 1, LEFT).fewest(0, 0, 0), NONE);
        due("out without a mark, street", with("010!", WALKER, 1, LEFT).fewest(0, 0, 1), NONE);
        due("out of a free town", with("010!;f", WALKER, 1, LEFT).fewest(0, 0, 0), 0);
        due("out of a free town, street", with("010!;f", WALKER, 1, LEFT).fewest(0, 0, 1), 0);
        sentence(15, "the least STEPS: none, by streets of no paces");
        due("steps", x.fewest(0, 1, 0), 0);
        due("the least street", x.fewest(0, 1, 1), 0);
        due("a pony has one even so", with("010", PONY, 0, LEFT).fewest(0, 1, 0), 1);
        sentence(15, "the least of those that begin a way of so few");
        x = with("013,021,122,013", WALKER, 0, LEFT);
        due("of three ways", x.fewest(0, 1, 1), 0);
        x.repave(0, 4);
        due("of two", x.fewest(0, 1, 1), 1);
        x.repave(2, 3);
        due("the last alone", x.fewest(0, 1, 1), 3);
        due("steps", x.fewest(0, 1, 0), 3);
        sentence(15, "without a SKIP: the way round to the foot of the MARK");
        x = with("011!,121,232,314", WALKER, 0, LEFT);
        goes(x, 0, 0);
        due("steps", x.fewest(0, 0, 0), 8);
        due("street", x.fewest(0, 0, 1), 1);
        sentence(15, "the farthest way of ten streets");
        x = with("019,129,239,349,459,569", CHILD, 0, LEFT);
        due("steps of a child", x.fewest(0, 6, 0), 78);
        due("street", x.fewest(0, 6, 1), 0);
        sentence(15, "UNKNOWN: walker, place; OUTSIDE");
        due("walker 1", x.fewest(1, 0, 0), UNKNOWN);
        due("walker -1", x.fewest(-1, 0, 0), UNKNOWN);
        due("place 7", x.fewest(0, 7, 0), UNKNOWN);
        due("place -1", x.fewest(0, -1, 0), UNKNOWN);
        due("what 2", x.fewest(0, 6, 2), OUTSIDE);
        due("what -1", x.fewest(0, 6, -1), OUTSIDE);
        due("place 7, what 2", x.fewest(0, 7, 2), UNKNOWN);
        due("walker 1, what 2", x.fewest(1, 0, 2), UNKNOWN);
    }

    private static FootByGate behindGates(int kind) {
        FootByGate x = with("011!,121!,231!", kind, 0, LEFT);
        goes(x, 0, 0);
        if (kind != LAME) {
            x.skip(0);
        }
        goes(x, 0, 1);
        if (kind != LAME) {
            x.skip(0);
        }
        goes(x, 0, 2);
        return x;
    }

    private static void skips() {
        sentence(16, "the fewest SKIPS: none, where it is");
        FootByGate x = with("012", WALKER, 6, LEFT);
        due("how few", x.skips(0, 6, 0), 0);
        due("steps", x.skips(0, 6, 1), 0);
        sentence(16, "NONE: by none");
        due("how few", x.skips(0, 0, 0), NONE);
        due("steps", x.skips(0, 0, 1), NONE);
        due("no mark helps no skip", with("012!", WALKER, 1, LEFT).skips(0, 0, 0), NONE);
        sentence(16, "a LAME can't");
        x = with("011!", LAME, 1, LEFT);
        due("how few", x.skips(0, 0, 0), NONE);
        due("steps", x.skips(0, 0, 1), NONE);
        due("where it needs none", behindGates(LAME).skips(0, 0, 0), 0);
        due("where it needs none, steps", behindGates(LAME).skips(0, 0, 1), 3);
        sentence(16, "the most that are needed: one at each GATE");
        x = behindGates(WALKER);
        due("how few", x.skips(0, 0, 0), 3);
        due("steps", x.skips(0, 0, 1), 3);
        due("to the gate between", x.skips(0, 1, 0), 2);
        due("it did not skip", x.about(0, 3), 2);
        sentence(16, "with so few, the least STEPS together: fewer SKIPS come first");
        x = with("011!,129,219,239,319", WALKER, 0, LEFT);
        goes(x, 0, 0);
        due("by the long way no skip", x.skips(0, 0, 0), 0);
        due("its steps", x.skips(0, 0, 1), 9 + 9 + 9 + 1);
        x.repave(4, 8);
        due("no long way", x.skips(0, 0, 0), 1);
        due("its steps then", x.skips(0, 0, 1), 1);
        sentence(16, "with so few, the least STEPS together: of two ways by one SKIP");
        x = with("013!,011!", WALKER, 0, LEFT);
        goes(x, 0, 0);
        x.skip(0);
        goes(x, 0, 0);
        x.skip(0);
        goes(x, 0, 1);
        due("how few", x.skips(0, 0, 0), 1);
        due("steps by the second gate", x.skips(0, 0, 1), 1);
        x.repave(1, 5);
        due("how few then", x.skips(0, 0, 0), 1);
        due("steps by the first gate", x.skips(0, 0, 1), 3);
        sentence(16, "UNKNOWN: walker, place; OUTSIDE");
        due("walker 1", x.skips(1, 0, 0), UNKNOWN);
        due("walker -1", x.skips(-1, 0, 0), UNKNOWN);
        due("place 7", x.skips(0, 7, 0), UNKNOWN);
        due("place -1", x.skips(0, -1, 0), UNKNOWN);
        due("what 2", x.skips(0, 6, 2), OUTSIDE);
        due("what -1", x.skips(0, 6, -1), OUTSIDE);
        due("place 7, what 2", x.skips(0, 7, 2), UNKNOWN);
        due("walker 1, what 2", x.skips(1, 0, 2), UNKNOWN);
    }

    private static void shut() {
        sentence(17, "all PLACES to which one can't come, as bits: all but its own");
        due("where no street is", with("012", WALKER, 6, LEFT).shut(0), 0b0111111);
        due("behind a gate", with("012!", WALKER, 1, LEFT).shut(0), 0b1111101);
        sentence(17, "all PLACES to which one can't come: none");
        due("seven in a row", with("010,121,232,343,454,565", WALKER, 3, LEFT).shut(0), 0);
        sentence(17, "without SKIPS");
        FootByGate x = with("011!", WALKER, 0, LEFT);
        goes(x, 0, 0);
        due("it could by a skip", x.shut(0), 0b1111101);
        x.skip(0);
        due("it skipped", x.shut(0), 0b1111100);
        due("three gates", behindGates(WALKER).shut(0), 0b1110111);
        due("three gates, a lame", behindGates(LAME).shut(0), 0b1110000);
        sentence(17, "without a MARK just if the town is FREE: each gate");
        for (int gate = 0; gate <= 2; gate++) {
            String[] streets = {"560!", "560!", "560!"};
            streets[gate] = "012!";
            String text = String.join(",", streets);
            due("gate " + gate + ", not free", with(text, WALKER, 1, LEFT).shut(0), 0b1111101);
            due("gate " + gate + ", free", with(text + ";f", WALKER, 1, LEFT).shut(0), 0b1111100);
            FootByGate marked = with(text + ";f", WALKER, 0, LEFT);
            goes(marked, 0, gate);
            due("gate " + gate + ", free, by its mark", marked.shut(0), 0b1111100);
            marked.skip(0);
            due("gate " + gate + ", free, against its mark", marked.shut(0), 0b1111101);
        }
        sentence(17, "MARKS that it would make on the way: each gate");
        for (int gate = 0; gate <= 2; gate++) {
            String[] streets = {"560!", "560!", "560!"};
            streets[gate] = "011!";
            String text = String.join(",", streets) + ",121,232,312";
            FootByGate marked = with(text, WALKER, 2, LEFT);
            due("gate " + gate + ", never in", marked.shut(0), 0b1110001);
            marked = with(text, WALKER, 0, LEFT);
            due("gate " + gate + ", in and out by the ring of odd steps", marked.shut(0), 0b1110000);
            goes(marked, 0, gate);
            due("gate " + gate + ", out by the ring of odd steps", marked.shut(0), 0b1110000);
            marked.repave(3, 2);
            due("gate " + gate + ", no such ring", marked.shut(0), 0b1110001);
        }
        sentence(17, "MARKS that it would make on the way: in again on the other foot");
        x = with("121!,011!,212", WALKER, 0, LEFT);
        goes(x, 0, 1, 0);
        x.skip(0);
        due("out by street 2, in by the gate, and out of the other one", x.shut(0), 0b1111000);
        x.repave(0, 2);
        due("never on the other foot", x.shut(0), 0b1111001);
        sentence(17, "UNKNOWN");
        due("shut(1)", x.shut(1), UNKNOWN);
        due("shut(-1)", x.shut(-1), UNKNOWN);
        due("shut(5)", x.shut(5), UNKNOWN);
    }

    private static void round() {
        sentence(18, "0 whether there is one (1, 0), 1 by which STREET first (NONE)");
        FootByGate x = with("010,010", WALKER, 0, LEFT);
        due("there is one", x.round(0, 0), 1);
        due("the least", x.round(0, 1), 0);
        x = with("010", WALKER, 0, LEFT);
        due("one street is none", x.round(0, 0), 0);
        due("one street is none, street", x.round(0, 1), NONE);
        sentence(18, "through all STREETS, each just once: ten of them");
        x = with("010,121,232,343,454,565,606,020,240,410", WALKER, 0, LEFT);
        due("not all places are even", x.round(0, 0), 0);
        x = with("010,121,232,343,454,565,606,020,240,400", WALKER, 0, LEFT);
        due("all are even", x.round(0, 0), 1);
        due("the least street", x.round(0, 1), 0);
        due("from each place", with("010,121,232,343,454,565,606,020,240,400", WALKER, 5, LEFT).round(0, 1), 4);
        sentence(18, "through all STREETS: one apart is not come to");
        due("apart", with("010,010,340,340", WALKER, 0, LEFT).round(0, 0), 0);
        due("where no street is", with("010,010", WALKER, 6, LEFT).round(0, 0), 0);
        due("where no street is, street", with("010,010", WALKER, 6, LEFT).round(0, 1), NONE);
        sentence(18, "without a SKIP, by GATES as one MAY");
        x = with("010!,011", WALKER, 0, LEFT);
        due("in by the gate, back by the other", x.round(0, 1), 0);
        x = with("010!,011", WALKER, 1, LEFT);
        due("the gate is in alone", x.round(0, 1), 1);
        x = with("010!,101!", WALKER, 0, LEFT);
        due("just one way", x.round(0, 1), 0);
        due("against both", with("010!,010!", WALKER, 0, LEFT).round(0, 0), 0);
        due("against both in a free town", with("010!,010!;f", WALKER, 0, LEFT).round(0, 1), 0);
        x = with("010!,010", WALKER, 0, LEFT);
        goes(x, 0, 0);
        due("out by the mark of before", x.round(0, 1), 0);
        due("without that mark", with("010!,010", WALKER, 1, LEFT).round(0, 1), 1);
        x = with("011!,010", WALKER, 0, LEFT);
        goes(x, 0, 0);
        due("its steps are odd: out on another foot than the mark", x.round(0, 1), 1);
        x.walker(LAME, 0, LEFT);
        goes(x, 1, 0);
        due("a lame stays on the same", x.round(1, 1), 0);
        due("and the walker does not", x.round(0, 1), 1);
    }

    private static void doneFortyTimes() {
        sentence(18, "STATE: round(), stones() were done 40 times together: 40 rounds");
        FootByGate x = with("010,010", WALKER, 0, LEFT);
        for (int i = 1; i <= 40; i++) {
            due("round " + i, x.round(0, i % 2), i % 2 == 0 ? 1 : 0);
            due("count(7)", x.count(7), i);
        }
        due("round 41", x.round(0, 0), STATE);
        due("round 41, street", x.round(0, 1), STATE);
        due("stones 41", x.stones(0, 0, 0), STATE);
        due("count(7) stays", x.count(7), 40);
        sentence(19, "STATE, as round(): 40 stones()");
        x = with("010,010", WALKER, 0, LEFT);
        for (int i = 1; i <= 40; i++) {
            due("stones " + i, x.stones(0, 1, i % 2), 0);
        }
        due("stones 41", x.stones(0, 1, 0), STATE);
        due("round 41", x.round(0, 0), STATE);
        due("count(7)", x.count(7), 40);
        sentence(18, "together: 39 of one, one of the other");
        x = with("010,010", WALKER, 0, LEFT);
        for (int i = 1; i <= 39; i++) {
            x.stones(0, 1, 0);
        }
        due("the 40th", x.round(0, 0), 1);
        due("the 41st", x.stones(0, 1, 0), STATE);
        sentence(18, "were done: refused ones were not");
        x = with("010,010", WALKER, 0, LEFT);
        for (int i = 0; i < 50; i++) {
            x.round(1, 0);
            x.round(0, 2);
            x.stones(0, 7, 0);
            x.stones(0, 0, 2);
        }
        due("count(7)", x.count(7), 0);
        due("round()", x.round(0, 0), 1);
        sentence(18, "were done: also without success");
        x = with("010", WALKER, 6, LEFT);
        x.round(0, 0);
        x.stones(0, 0, 0);
        due("count(7)", x.count(7), 2);
        sentence(18, "of several the first as told: UNKNOWN, OUTSIDE, STATE");
        x = with("010,010", WALKER, 0, LEFT);
        for (int i = 1; i <= 40; i++) {
            x.round(0, 0);
        }
        due("round(1, 2)", x.round(1, 2), UNKNOWN);
        due("round(-1, 0)", x.round(-1, 0), UNKNOWN);
        due("round(0, 2)", x.round(0, 2), OUTSIDE);
        due("round(0, -1)", x.round(0, -1), OUTSIDE);
        due("stones(1, 0, 2)", x.stones(1, 0, 2), UNKNOWN);
        due("stones(0, 7, 2)", x.stones(0, 7, 2), UNKNOWN);
        due("stones(0, 0, 2)", x.stones(0, 0, 2), OUTSIDE);
        due("even() is none of them", x.even(0, 0), 0);
    }

    private static void stones() {
        sentence(19, "the fewest STREETS: none");
        FootByGate x = with("011!", WALKER, 0, LEFT);
        due("where it is", x.stones(0, 0, 0), 0);
        due("where it is, bits", x.stones(0, 0, 1), 0);
        due("where it comes anyway, bits", x.stones(0, 1, 1), 0);
        sentence(19, "NONE: by none");
        due("no street", x.stones(0, 6, 0), NONE);
        due("no street, bits", x.stones(0, 6, 1), NONE);
        due("no mark", with("011!", WALKER, 1, LEFT).stones(0, 0, 0), NONE);
        due("a lame has no odd steps", with("011!", LAME, 1, LEFT).stones(0, 0, 1), NONE);
        due("a lame that comes anyway", behindGates(LAME).stones(0, 0, 0), 0);
        due("a lame that comes anyway, bits", behindGates(LAME).stones(0, 0, 1), 0);
        sentence(19, "the fewest STREETS: three");
        x = behindGates(WALKER);
        due("how few", x.stones(0, 0, 0), 3);
        due("bits", x.stones(0, 0, 1), 0b111);
        due("two", x.stones(0, 1, 1), 0b110);
        due("one", x.stones(0, 2, 1), 0b100);
        sentence(19, "of like ones least bits");
        x = with("342,122,122,011!", WALKER, 0, LEFT);
        goes(x, 0, 3);
        due("of three streets", x.stones(0, 0, 1), 0b0010);
        x.repave(1, 1);
        x.repave(2, 1);
        due("of three others", x.stones(0, 0, 1), 0b0010);
        due("how few", x.stones(0, 0, 0), 1);
        sentence(19, "one PACE more: of 9 there are 10, of 0 there is 1");
        x = with("019!", WALKER, 0, LEFT);
        goes(x, 0, 0);
        due("9", x.stones(0, 0, 1), 1);
        x = with("010!", WALKER, 0, LEFT);
        goes(x, 0, 0);
        x.skip(0);
        due("0", x.stones(0, 0, 1), 1);
        sentence(19, "one PACE more that turns no foot");
        x = with("012!", CHILD, 0, LEFT);
        goes(x, 0, 0);
        due("a child of 2 paces: 3, then 4 steps", x.stones(0, 0, 0), 1);
        x = with("019!", CHILD, 0, LEFT);
        goes(x, 0, 0);
        due("a child of 9 paces: 13, then 15 steps", x.stones(0, 0, 0), NONE);
        x = with("011!", HORSE, 0, LEFT);
        goes(x, 0, 0);
        due("a horse of 1 pace: 1, then 1 step", x.stones(0, 0, 0), NONE);
        x = with("010!", PONY, 0, LEFT);
        goes(x, 0, 0);
        due("a pony of 0 paces: 1, then 2 steps", x.stones(0, 0, 0), 1);
        sentence(19, "UNKNOWN: walker, place; OUTSIDE");
        due("walker 1", x.stones(1, 0, 0), UNKNOWN);
        due("walker -1", x.stones(-1, 0, 0), UNKNOWN);
        due("place 7", x.stones(0, 7, 0), UNKNOWN);
        due("place -1", x.stones(0, -1, 0), UNKNOWN);
        due("what 2", x.stones(0, 6, 2), OUTSIDE);
        due("what -1", x.stones(0, 6, -1), OUTSIDE);
        due("place 7, what 2", x.stones(0, 7, 2), UNKNOWN);
        due("walker 1, what 2", x.stones(1, 0, 2), UNKNOWN);
    }

    private static void even() {
        sentence(20, "the fewest STREETS: none");
        for (int kind = 0; kind < 5; kind++) {
            due("there and back is even", in("011").even(kind, 0), 0);
            due("there and back is even, bits", in("011").even(kind, 1), 0);
        }
        sentence(20, "NONE: by none");
        due("a horse", in("010,011").even(HORSE, 0), 1);
        due("a horse, of odd paces", in("011,013").even(HORSE, 0), NONE);
        due("a horse, of odd paces, bits", in("011,013").even(HORSE, 1), NONE);
        due("a child, of odd paces", in("011,013").even(CHILD, 1), NONE);
        due("a pony, of odd paces", in("011,013").even(PONY, 1), NONE);
        due("a walker, of odd paces", in("011,013").even(WALKER, 1), 0);
        sentence(20, "of LAMES as of WALKERS");
        due("a walker", in("010,011").even(WALKER, 1), 1);
        due("a lame", in("010,011").even(LAME, 1), 1);
        sentence(20, "GATES do not matter");
        due("in alone", in("010!,011!").even(WALKER, 1), 1);
        sentence(20, "of like ones least bits");
        due("of two", in("561,010,011").even(WALKER, 1), 0b010);
        due("of three in a ring", in("340,011,120,200").even(WALKER, 1), 0b0010);
        due("of two pairs", in("010,011,120,121").even(WALKER, 1), 0b0101);
        sentence(20, "the fewest STREETS before the least bits");
        due("one of three", in("011,011,010").even(WALKER, 1), 0b100);
        sentence(20, "one PACE more: of 9 there are 10");
        due("bits", in("019,010").even(WALKER, 1), 1);
        sentence(20, "each way that comes back to where it began: also where no walker is");
        due("places 5 and 6", in("010,560,561").even(WALKER, 1), 0b010);
        sentence(20, "the most: ten streets between two places");
        due("how few", in("010,011,010,011,010,011,010,011,010,011").even(WALKER, 0), 5);
        due("bits", in("010,011,010,011,010,011,010,011,010,011").even(WALKER, 1), 0b0101010101);
        sentence(20, "OUTSIDE: kind, what");
        FootByGate x = in("010,011");
        due("kind 5", x.even(5, 0), OUTSIDE);
        due("kind -1", x.even(-1, 0), OUTSIDE);
        due("what 2", x.even(0, 2), OUTSIDE);
        due("what -1", x.even(0, -1), OUTSIDE);
        sentence(20, "STATE: there is no TOWN");
        due("even()", new FootByGate().even(4, 1), STATE);
        due("with a page that is one", paged("012").even(0, 0), STATE);
        sentence(20, "of several the first as told: OUTSIDE, STATE");
        due("kind 5 and no town", new FootByGate().even(5, 0), OUTSIDE);
        due("what 2 and no town", new FootByGate().even(0, 2), OUTSIDE);
    }

    private static FootByGate twoOf(String text, int kind, int other, int place) {
        FootByGate x = with(text, kind, place, LEFT);
        due("the other one", x.walker(other, place, LEFT), 1);
        return x;
    }

    private static void both() {
        sentence(21, "the least STEPS of both together: 0, where they are");
        due("where they are", twoOf("011", WALKER, CHILD, 0).both(0, 1, 0), 0);
        due("where no street is", twoOf("011", WALKER, CHILD, 6).both(0, 1, 6), 0);
        sentence(21, "NONE: they can't");
        due("no street", twoOf("011", WALKER, CHILD, 0).both(0, 1, 6), NONE);
        due("without marks", twoOf("011!", WALKER, CHILD, 1).both(0, 1, 0), NONE);
        due("without marks in a free town", twoOf("011!;f", WALKER, CHILD, 1).both(0, 1, 0), 2);
        sentence(21, "if both MAY: one of them alone may not");
        FootByGate x = twoOf("011!", WALKER, LAME, 0);
        goes(x, 0, 0);
        goes(x, 1, 0);
        due("the lame may", x.may(1, 0), 1);
        due("the walker may not", x.may(0, 0), 0);
        due("both(0, 1, 0)", x.both(0, 1, 0), NONE);
        due("both(1, 0, 0)", x.both(1, 0, 0), NONE);
        x.skip(0);
        due("both behind a skip", x.both(0, 1, 0), 2);
        sentence(21, "without SKIPS: they do not skip on the way");
        x = twoOf("011!,121", WALKER, WALKER, 0);
        goes(x, 0, 0);
        goes(x, 1, 0);
        due("out", x.both(0, 1, 0), NONE);
        due("on", x.both(0, 1, 2), 2);
        sentence(21, "the least of several ways, of both together");
        x = twoOf("018,024,124", WALKER, PONY, 0);
        due("straight: 8 + 5, about: 8 + 6", x.both(0, 1, 1), 13);
        x.repave(2, 1);
        due("about: 5 + 3 + 2", x.both(0, 1, 1), 10);
        sentence(21, "marks of one alone: it came in alone");
        x = twoOf("012!,120", WALKER, WALKER, 0);
        goes(x, 0, 0);
        x.walker(WALKER, 1, LEFT);
        due("the other has no mark", x.both(0, 2, 0), NONE);
        due("the other has no mark, turned", x.both(2, 0, 0), NONE);
        x = with("012!,120;f", WALKER, 0, LEFT);
        goes(x, 0, 0);
        x.walker(WALKER, 1, LEFT);
        due("in a free town both may", x.both(0, 1, 0), 4);
        x.skip(0);
        due("on another foot than its mark", x.both(0, 1, 0), NONE);
    }

    private static void standOn(FootByGate x, int walker, int foot) {
        if (x.about(walker, 2) != foot) {
            x.skip(walker);
        }
    }

    /**
     * By street "even" they come to place 1 for nothing, and stand there as they do later with marks of street "odd"
     * made on the way; just these let them out on the feet that street "last" asks for, but if they had them from the
     * first. The three, each with a gate, take each other's numbers.
     */
    private static void bothByMarksOfTheWay() {
        sentence(21, "if both MAY: by MARKS that they make on the way, whatever they had of it before");
        String[] towns = {"011!,010!,400!,120,121", "400!,011!,010!,120,121", "010!,400!,011!,120,121"};
        int[] marks = {NONE, LEFT, RIGHT};
        for (int odd = 0; odd < 3; odd++) {
            for (int feet = 0; feet < 4; feet++) {
                for (int mark : marks) {
                    for (int otherMark : marks) {
                        outByTheLast(towns[odd], odd, new int[] {feet / 2, feet % 2}, new int[] {mark, otherMark});
                    }
                }
            }
        }
    }

    private static void outByTheLast(String town, int odd, int[] feet, int[] marks) {
        FootByGate x = in(town);
        for (int i = 0; i < 2; i++) {
            x.walker(WALKER, 4, 1 - feet[i]);
            comesMarked(x, i, odd, feet[i], marks[i]);
        }
        boolean atOnce = marks[0] == 1 - feet[0] && marks[1] == 1 - feet[1];
        String told = town + ", feet " + feet[0] + feet[1] + ", marks " + marks[0] + " and " + marks[1];
        due(told, x.both(0, 1, 4), atOnce ? 2 : 6);
        due(told + ", turned", x.both(1, 0, 4), atOnce ? 2 : 6);
    }

    /** It stands at place 0 on a foot, which is its mark at "even", and the other one at "last". */
    private static void comesMarked(FootByGate x, int walker, int odd, int foot, int markAtOdd) {
        int even = (odd + 1) % 3;
        int last = (odd + 2) % 3;
        goes(x, walker, last);
        standOn(x, walker, foot);
        goes(x, walker, even, even);
        if (markAtOdd != NONE) {
            standOn(x, walker, 1 - markAtOdd);
            goes(x, walker, odd);
            standOn(x, walker, foot);
            goes(x, walker, even);
        }
        due("place", x.about(walker, 1), 0);
        due("foot", x.about(walker, 2), foot);
        due("mark at odd", x.about(walker, 4 + odd), markAtOdd);
        due("mark at even", x.about(walker, 4 + even), foot);
        due("mark at last", x.about(walker, 4 + last), 1 - foot);
    }

    private static void bothRefused() {
        sentence(21, "UNKNOWN: a, b");
        FootByGate x = twoOf("011", WALKER, WALKER, 0);
        due("both(2, 0, 0)", x.both(2, 0, 0), UNKNOWN);
        due("both(-1, 0, 0)", x.both(-1, 0, 0), UNKNOWN);
        due("both(0, 2, 0)", x.both(0, 2, 0), UNKNOWN);
        due("both(0, -1, 0)", x.both(0, -1, 0), UNKNOWN);
        sentence(21, "UNKNOWN: or they are the same");
        due("both(0, 0, 0)", x.both(0, 0, 0), UNKNOWN);
        due("both(1, 1, 1)", x.both(1, 1, 1), UNKNOWN);
        sentence(21, "UNKNOWN: place");
        due("both(0, 1, 7)", x.both(0, 1, 7), UNKNOWN);
        due("both(0, 1, -1)", x.both(0, 1, -1), UNKNOWN);
        sentence(21, "STATE: they are not in the same PLACE");
        x.walker(WALKER, 1, LEFT);
        due("both(0, 2, 0)", x.both(0, 2, 0), STATE);
        due("both(2, 0, 6)", x.both(2, 0, 6), STATE);
        sentence(21, "of several the first as told: UNKNOWN, STATE");
        due("both(0, 2, 7)", x.both(0, 2, 7), UNKNOWN);
        due("both(0, 3, 0)", x.both(0, 3, 0), UNKNOWN);
    }

    private static void change() {
        sentence(22, "all WALKERS, as bits: none of none");
        due("no walkers", in("011!").change(0, 2), 0);
        sentence(22, "all WALKERS, as bits: all five");
        FootByGate x = in("011!");
        for (int i = 0; i < 5; i++) {
            x.walker(WALKER, 0, i % 2);
            goes(x, i, 0);
        }
        due("all come out", x.change(0, 2), 31);
        due("all come out by none", x.change(0, 0), 31);
        due("as it is", x.change(0, 1), 0);
        due("as odd as it is", x.change(0, 9), 0);
        due("paces stay", x.street(0, 2), 1);
        x.skip(2);
        due("all but one, and that one is shut in", x.change(0, 2), 31);
        due("as it is again", x.change(0, 3), 0);
        sentence(22, "another one: by fewer PLACES or by more");
        x = with("011!", WALKER, 0, LEFT);
        goes(x, 0, 0);
        x.skip(0);
        due("it is shut in then", x.change(0, 2), 1);
        x.walker(LAME, 0, LEFT);
        goes(x, 1, 0);
        due("never a lame", x.change(0, 2), 1);
        sentence(22, "UNKNOWN: street; OUTSIDE: v (0 to 9)");
        due("street 1", x.change(1, 0), UNKNOWN);
        due("street -1", x.change(-1, 0), UNKNOWN);
        due("v 10", x.change(0, 10), OUTSIDE);
        due("v -1", x.change(0, -1), OUTSIDE);
        due("v 9", x.change(0, 9), 0);
        due("v 0", x.change(0, 0), 1);
        due("street 1, v 10", x.change(1, 10), UNKNOWN);
    }

    // ---- prints

    private static void print() {
        sentence(23, "UNKNOWN: gate");
        String[] gated = {"010,121,232", "010!,121,232", "010!,121!,232", "010!,121!,232!"};
        for (int gates = 0; gates <= 3; gates++) {
            FootByGate x = in(gated[gates]);
            due("the last", x.print(gates - 1, IN, LEFT), gates == 0 ? UNKNOWN : 1);
            due("behind the last", x.print(gates, IN, LEFT), UNKNOWN);
            due("-1", x.print(-1, IN, LEFT), UNKNOWN);
        }
        sentence(23, "OUTSIDE: way, foot");
        FootByGate x = in("010!");
        due("way 2", x.print(0, 2, 0), OUTSIDE);
        due("way -1", x.print(0, -1, 0), OUTSIDE);
        due("foot 2", x.print(0, 0, 2), OUTSIDE);
        due("foot -1", x.print(0, 0, -1), OUTSIDE);
        due("none came", x.count(3), 0);
        sentence(23, "PRINTS (6 at most)");
        for (int i = 1; i <= 6; i++) {
            due("print " + i, x.print(0, i % 2, i / 2 % 2), i);
        }
        due("a seventh", x.print(0, 0, 0), FULL);
        due("count(3)", x.count(3), 6);
        sentence(23, "of several the first as told: UNKNOWN, OUTSIDE, FULL");
        due("gate 1, way 2", x.print(1, 2, 0), UNKNOWN);
        due("gate -1, foot 2", x.print(-1, 0, 2), UNKNOWN);
        due("way 2", x.print(0, 2, 0), OUTSIDE);
        due("foot 2", x.print(0, 0, 2), OUTSIDE);
        sentence(23, "FULL no more behind wipe()");
        x.wipe();
        due("one", x.print(0, 0, 0), 1);
    }

    private static void wipe() {
        sentence(24, "how many there were: none, 1 to 6");
        for (int many = 0; many <= 6; many++) {
            FootByGate x = in("010!");
            for (int i = 0; i < many; i++) {
                x.print(0, IN, LEFT);
            }
            due("wipe() of " + many, x.wipe(), many);
            due("wipe() again", x.wipe(), 0);
            due("count(3)", x.count(3), 0);
        }
        sentence(24, "All PRINTS are gone: who() asks for none of them");
        FootByGate x = with("010!", WALKER, 6, LEFT);
        x.print(0, IN, LEFT);
        due("who()", x.who(), 0);
        x.wipe();
        due("who() then", x.who(), 1);
    }

    private static void who() {
        sentence(25, "WHO of no WALKERS");
        FootByGate x = in("011!");
        due("without prints", x.who(), 0);
        x.print(0, IN, LEFT);
        due("with one", x.who(), 0);
        sentence(25, "WHO of no PRINTS: all, as bits");
        x = in("011!");
        for (int i = 0; i < 5; i++) {
            x.walker(i, 6, 0);
            due("of " + (i + 1), x.who(), (2 << i) - 1);
        }
        sentence(25, "a FOOT (on which one stood behind the STREET)");
        x = with("011!", WALKER, 0, LEFT);
        x.walker(WALKER, 0, RIGHT);
        x.walker(LAME, 0, RIGHT);
        x.print(0, IN, RIGHT);
        due("right", x.who(), 0b101);
        x.wipe();
        x.print(0, IN, LEFT);
        due("left", x.who(), 0b010);
        sentence(25, "without SKIPS");
        x = with("012!", WALKER, 0, LEFT);
        x.print(0, IN, RIGHT);
        due("on the other foot", x.who(), 0);
        sentence(25, "by the most PRINTS: six");
        x = with("012!,100", WALKER, 0, LEFT);
        x.walker(WALKER, 0, RIGHT);
        for (int i = 0; i < 6; i++) {
            x.print(0, i % 2, LEFT);
        }
        due("in and out, three times", x.who(), 1);
        x.wipe();
        for (int i = 0; i < 6; i++) {
            x.print(0, IN, LEFT);
        }
        due("in, six times", x.who(), 1);
        x.wipe();
        for (int i = 0; i < 6; i++) {
            x.print(0, IN, i < 5 ? LEFT : RIGHT);
        }
        due("the last on another foot", x.who(), 0);
        sentence(25, "in this order");
        x = with("010!,120!,200!", WALKER, 0, LEFT);
        x.print(0, IN, LEFT);
        x.print(1, IN, LEFT);
        x.print(2, IN, LEFT);
        due("round about", x.who(), 1);
        x.wipe();
        x.print(1, IN, LEFT);
        x.print(0, IN, LEFT);
        due("another order", x.who(), 0);
    }

    private static void whoByMarks() {
        sentence(25, "and go through no GATE between");
        FootByGate x = with("010!,120!", WALKER, 0, LEFT);
        x.print(1, IN, LEFT);
        due("past the first gate", x.who(), 0);
        x.wipe();
        x.print(0, IN, LEFT);
        x.print(1, IN, LEFT);
        due("both", x.who(), 1);
        sentence(25, "by STREETS without a GATE between, as many as it likes");
        x = with("010,121,232,340!", WALKER, 0, LEFT);
        x.print(0, IN, RIGHT);
        due("three streets ahead", x.who(), 1);
        sentence(25, "(or behind): it may stay behind the last");
        x = with("010!", WALKER, 0, LEFT);
        x.print(0, IN, LEFT);
        due("nowhere to go but back", x.who(), 1);
        sentence(25, "from where and as they are now: their MARKS");
        x = with("010!", WALKER, 0, LEFT);
        goes(x, 0, 0);
        x.walker(WALKER, 1, LEFT);
        x.print(0, OUT, LEFT);
        due("one has its mark", x.who(), 0b01);
        x.skip(0);
        due("one on another foot", x.who(), 0);
        due("in a free town", whoOutFree().who(), 0b10);
        sentence(25, "as they would be: MARKS that it makes by these PRINTS");
        x = with("011!,101", WALKER, 0, LEFT);
        x.print(0, IN, RIGHT);
        x.print(0, OUT, RIGHT);
        due("out by odd steps on its mark", x.who(), 0);
        x.repave(1, 2);
        x.wipe();
        x.print(0, IN, RIGHT);
        x.print(0, IN, LEFT);
        x.print(0, OUT, RIGHT);
        due("out on the older mark", x.who(), 0);
        sentence(25, "as it would be: nobody goes by who()");
        due("its place", x.about(0, 1), 0);
        due("its mark", x.about(0, 4), NONE);
    }

    /** Walker 0 has a mark of the other foot, walker 1 none. */
    private static FootByGate whoOutFree() {
        FootByGate x = with("010!;f", WALKER, 0, RIGHT);
        goes(x, 0, 0);
        x.skip(0);
        x.walker(WALKER, 1, LEFT);
        x.print(0, OUT, LEFT);
        return x;
    }

    private static void walk() {
        sentence(26, "OUTSIDE: turns (1 to 60)");
        FootByGate x = with("010", WALKER, 0, LEFT);
        due("0", x.walk(0, 0, 0, 0), OUTSIDE);
        due("1", x.walk(0, 1, 0, 0), 1);
        due("60", x.walk(0, 60, 0, 0), 0);
        due("61", x.walk(0, 61, 0, 0), OUTSIDE);
        due("-1", x.walk(0, -1, 0, 0), OUTSIDE);
        due("the greatest", x.walk(0, Integer.MAX_VALUE, 0, 0), OUTSIDE);
        due("the least", x.walk(0, Integer.MIN_VALUE, 0, 0), OUTSIDE);
        sentence(26, "OUTSIDE: seed (0 at least)");
        due("0", x.walk(0, 1, 0, 3), 12345);
        due("-1", x.walk(0, 1, -1, 3), OUTSIDE);
        due("the least", x.walk(0, 1, Integer.MIN_VALUE, 3), OUTSIDE);
        due("the greatest", x.walk(0, 1, Integer.MAX_VALUE, 3), (2147483647L * 1103515245L + 12345) % 2147483648L);
        sentence(26, "OUTSIDE: what");
        due("-1", x.walk(0, 1, 0, -1), OUTSIDE);
        due("4", x.walk(0, 1, 0, 4), OUTSIDE);
        due("3", x.walk(0, 1, 1, 3), 1103515245 + 12345);
        sentence(26, "UNKNOWN");
        due("1", x.walk(1, 1, 0, 0), UNKNOWN);
        due("-1", x.walk(-1, 1, 0, 0), UNKNOWN);
        due("5", x.walk(5, 1, 0, 0), UNKNOWN);
        sentence(26, "of several the first as told: UNKNOWN, OUTSIDE");
        due("all", x.walk(1, 0, -1, 4), UNKNOWN);
        sentence(26, "(none: nothing is drawn)");
        x = with("010", WALKER, 6, RIGHT);
        due("its place", x.walk(0, 60, 5, 0), 6);
        due("its foot", x.walk(0, 60, 5, 1), RIGHT);
        due("how often it might not go", x.walk(0, 60, 5, 2), 0);
        due("the seed", x.walk(0, 60, 5, 3), 5);
        due("the greatest seed", x.walk(0, 60, Integer.MAX_VALUE, 3), Integer.MAX_VALUE);
        sentence(26, "as it would be: nothing changes");
        x = with("011!", WALKER, 0, LEFT);
        due("its place", x.walk(0, 1, 5, 0), 1);
        due("its place now", x.about(0, 1), 0);
        due("its foot now", x.about(0, 2), LEFT);
        due("its mark now", x.about(0, 4), NONE);
    }

    private static void walkDraws() {
        sentence(26, "else it stays: how often it might not go");
        FootByGate x = with("011!", WALKER, 1, LEFT);
        for (int turns = 1; turns <= 60; turns++) {
            due(turns + " turns", x.walk(0, turns, 7, 2), turns);
        }
        due("its place", x.walk(0, 60, 7, 0), 1);
        due("its foot", x.walk(0, 60, 7, 1), LEFT);
        x = with("011!", WALKER, 0, LEFT);
        due("in once, then never out", x.walk(0, 60, 7, 2), 59);
        x = with("012!", WALKER, 0, LEFT);
        due("in and out by its own mark", x.walk(0, 60, 7, 2), 0);
        sentence(26, "a DRAW of how many there are: by 65536 (rounded down), its rest");
        x = with("010,020,030,040,050,060,010,020,030,040", WALKER, 0, LEFT);
        int[] to = {1, 2, 3, 4, 5, 6, 1, 2, 3, 4};
        List<Integer> drawn = new ArrayList<>();
        for (int seed = 0; seed < 60; seed++) {
            long next = (1103515245L * seed + 12345) % 2147483648L;
            int ahead = (int) (next / 65536 % 10);
            drawn.add(ahead);
            due("seed " + seed, x.walk(0, 1, seed, 0), to[ahead]);
        }
        for (int ahead = 0; ahead < 10; ahead++) {
            due("the draw " + ahead + " comes", drawn.contains(ahead) ? 1 : 0, 1);
        }
        sentence(26, "1103515245 times it and 12345, its rest by 2 to the 31: each turn of 60");
        x = with("010,121,232,343,454,565,606", WALKER, 0, LEFT);
        long seed = Integer.MAX_VALUE;
        for (int turns = 1; turns <= 60; turns++) {
            seed = Math.floorMod(1103515245L * seed + 12345, 2147483648L);
            due(turns + " turns", x.walk(0, turns, Integer.MAX_VALUE, 3), seed);
        }
        sentence(26, "of those at its PLACE, by number");
        x = with("560,011,120,022", WALKER, 0, LEFT);
        due("seed 0, the first of two", x.walk(0, 1, 0, 0), 12345 / 65536 % 2 == 0 ? 1 : 2);
        due("its foot", x.walk(0, 1, 0, 1), RIGHT);
        due("seed 1", x.walk(0, 1, 1, 0), (1103515245 + 12345) / 65536 % 2 == 0 ? 1 : 2);
    }

    // ---- what is told of all

    private static void image() {
        sentence(27, "STATE: there is no TOWN");
        due("image()", new FootByGate().image(), STATE);
        FootByGate page = paged("012");
        due("with a page that is one", page.image(), STATE);
        page.town();
        due("none was kept by it", page.restore(), STATE);
        sentence(27, "how many WALKERS: none to five");
        FootByGate x = in("012");
        for (int i = 0; i <= 5; i++) {
            due("image()", x.image(), i);
            x.walker(0, 0, 0);
        }
        sentence(27, "(one; the latest)");
        x = with("012!", WALKER, 0, LEFT);
        x.image();
        x.repave(0, 3);
        x.print(0, IN, LEFT);
        goes(x, 0, 0);
        x.image();
        x.repave(0, 4);
        x.wipe();
        x.skip(0);
        due("restore()", x.restore(), 1);
        due("paces of the latest", x.street(0, 2), 3);
        due("prints of the latest", x.count(3), 1);
        due("place of the latest", x.about(0, 1), 1);
        due("foot of the latest", x.about(0, 2), RIGHT);
        sentence(27, "it keeps, and does not follow what comes then");
        x = with("012!", WALKER, 0, LEFT);
        x.print(0, IN, LEFT);
        x.image();
        x.wipe();
        x.print(0, OUT, RIGHT);
        goes(x, 0, 0);
        x.restore();
        due("who()", x.who(), 1);
        due("place", x.about(0, 1), 0);
        due("mark", x.about(0, 4), NONE);
    }

    private static void restore() {
        sentence(28, "It goes on from the IMAGE: of nothing");
        FootByGate x = in("012!");
        x.image();
        for (int i = 0; i < 5; i++) {
            x.walker(0, 0, 0);
        }
        for (int i = 0; i < 6; i++) {
            x.print(0, IN, LEFT);
        }
        due("restore()", x.restore(), 0);
        due("walkers", x.count(2), 0);
        due("prints", x.count(3), 0);
        due("the first again", x.walker(4, 1, 1), 0);
        due("the first print again", x.print(0, IN, LEFT), 1);
        sentence(28, "It goes on from the IMAGE: of all that is full");
        x = in("010!,121!,202!,343,454,565,606,017,128,239");
        for (int i = 0; i < 5; i++) {
            x.walker(i, 0, i % 2);
            goes(x, i, 0, 1, 2);
            x.skip(i);
        }
        for (int i = 0; i < 6; i++) {
            x.print(i % 3, i % 2, i / 3);
        }
        long before = x.digest();
        due("image()", x.image(), 5);
        for (int s = 0; s < 10; s++) {
            x.repave(s, 5);
        }
        for (int i = 0; i < 5; i++) {
            x.skip(i);
            x.go(i, 0);
        }
        x.wipe();
        due("restore()", x.restore(), 5);
        due("digest()", x.digest(), before);
        due("a sixth", x.walker(0, 0, 0), FULL);
        due("a seventh print", x.print(0, 0, 0), FULL);
        sentence(28, "as often as one likes");
        x.repave(3, 0);
        x.skip(0);
        due("restore() again", x.restore(), 5);
        due("restore() once more", x.restore(), 5);
        due("digest()", x.digest(), before);
        sentence(28, "those that come since are gone by restore(): another has their number, and nothing of theirs");
        x = with("011!", WALKER, 0, LEFT);
        x.image();
        x.walker(CHILD, 0, LEFT);
        goes(x, 1, 0);
        x.skip(1);
        x.restore();
        due("the one that came since", x.about(1, 0), UNKNOWN);
        due("another", x.walker(PONY, 3, RIGHT), 1);
        int[] about = {PONY, 3, RIGHT, 0, NONE, NONE, NONE};
        for (int what = 0; what <= 6; what++) {
            due("about(1, " + what + ")", x.about(1, what), about[what]);
        }
    }

    private static void restoreRefused() {
        sentence(28, "STATE: none was kept");
        FootByGate x = with("012!", WALKER, 0, LEFT);
        due("restore()", x.restore(), STATE);
        due("the walker stands", x.count(2), 1);
        sentence(28, "STATE: or there is another TOWN since");
        x.image();
        write(x, "012!");
        x.town();
        x.walker(CHILD, 1, RIGHT);
        x.repave(0, 7);
        due("restore()", x.restore(), STATE);
        due("restore() again", x.restore(), STATE);
        due("the walker stands", x.about(0, 0), CHILD);
        due("the paces stand", x.street(0, 2), 7);
        due("image() of the other", x.image(), 1);
        due("restore() of the other", x.restore(), 1);
        sentence(28, "another TOWN since: one that town() refused is none");
        x = with("012!", WALKER, 0, LEFT);
        x.image();
        write(x, "012,");
        due("town()", x.town(), STATE);
        due("restore()", x.restore(), 1);
        due("the page is not of the image", x.count(5), 4);
        sentence(28, "what an IMAGE does not keep");
        x.round(0, 0);
        x.stones(0, 0, 0);
        x.blank();
        x.letters(bytes("0"));
        x.restore();
        due("letters of the page", x.count(5), 1);
        due("how often a town was read", x.count(6), 1);
        due("how often round(), stones() were done", x.count(7), 2);
    }

    private static void count() {
        sentence(29, "OUTSIDE: what below 0, above 7");
        FootByGate x = in("012");
        due("7", x.count(7), 0);
        due("8", x.count(8), OUTSIDE);
        due("-1", x.count(-1), OUTSIDE);
        due("the greatest", x.count(Integer.MAX_VALUE), OUTSIDE);
        due("the least", x.count(Integer.MIN_VALUE), OUTSIDE);
        due("without a town", new FootByGate().count(8), OUTSIDE);
        sentence(29, "6 how often a TOWN was read: not those that were none");
        due("once", x.count(6), 1);
        x.town();
        due("once still", x.count(6), 1);
        for (int i = 2; i <= 60; i++) {
            write(x, "012");
            x.town();
            due("count(6)", x.count(6), i);
        }
        sentence(29, "the most of each");
        x = in("010!,121!,202!,343,454,565,606,017,128,239;f");
        for (int i = 0; i < 6; i++) {
            x.walker(0, 0, 0);
            x.print(0, 0, 0);
        }
        x.print(0, 0, 0);
        write(x, "A".repeat(56));
        for (int i = 0; i < 41; i++) {
            x.round(0, 0);
        }
        int[] most = {10, 3, 5, 6, 1, 50, 1, 40};
        for (int what = 0; what <= 7; what++) {
            due("count(" + what + ")", x.count(what), what == 5 ? 48 : most[what]);
        }
        x.letters(bytes("AA"));
        due("count(5)", x.count(5), most[5]);
    }

    private static void digest() {
        sentence(30, "of a new object: WHO and what count() tells");
        due("digest()", new FootByGate().digest(), folded(0, 0, 0, 0, 0, 0, 0, 0, 0));
        sentence(30, "letters of THE PAGE: none, one, 50");
        due("one", paged("~").digest(), folded(0, 126, 0, 0, 0, 0, 0, 1, 0, 0));
        int[] full = new int[1 + 50 + 8];
        for (int i = 1; i <= 50; i++) {
            full[i] = 'A';
        }
        full[1 + 50 + 5] = 50;
        FootByGate page = paged("A".repeat(48));
        page.letters(bytes("AA"));
        due("50", page.digest(), folded(full));
        sentence(30, "with a TOWN what even() tells: without walkers and prints");
        due("one street", in("012").digest(), folded(0, 1, 2, NONE, 0, 0, 0, 1, 0, 0, 0, 0, 0, 1, 0));
        sentence(30, "of each WALKER: one that can't come to PLACE 6, one that is there");
        FootByGate x = with("012", WALKER, 0, RIGHT);
        x.walker(LAME, 6, LEFT);
        due("two walkers", x.digest(), folded(0, 1, 2, NONE,
                WALKER, 0, RIGHT, 0, NONE, NONE, NONE, 0b1111100, NONE, NONE, NONE, NONE,
                LAME, 6, LEFT, 0, NONE, NONE, NONE, 0b0111111, 0, NONE, 0, 0,
                0, 0, 3, 1, 0, 2, 0, 0, 0, 1, 0));
        sentence(30, "of each WALKER: what fewest() and skips() tell apart, and even() of more than one");
        x = with("061!,023,025", WALKER, 0, LEFT);
        goes(x, 0, 0);
        x.walker(WALKER, 0, LEFT);
        goes(x, 1, 1);
        x.walker(WALKER, 2, LEFT);
        due("three walkers", x.digest(), folded(0, 6, 1, 0, 0, 2, 3, NONE, 0, 2, 5, NONE,
                WALKER, 6, RIGHT, 0, RIGHT, NONE, NONE, 0b0111111, 0, NONE, 0, 0,
                WALKER, 2, RIGHT, 0, NONE, NONE, NONE, 0b0111010, 4, 1, 0, 4,
                WALKER, 2, LEFT, 0, NONE, NONE, NONE, 0b0111010, 4, 1, 0, 4,
                0, 0, 7, 3, 1, 3, 0, 0, 0, 1, 0));
        x = with("601!,010,011", WALKER, 6, LEFT);
        goes(x, 0, 0);
        x.repave(2, 2);
        due("one skip, one step; a stone on none", x.digest(), folded(6, 0, 1, 0, 0, 1, 0, NONE, 0, 1, 2, NONE,
                WALKER, 0, RIGHT, 0, RIGHT, NONE, NONE, 0b1111100, NONE, NONE, 1, 1,
                0, 0, 1, 3, 1, 1, 0, 0, 0, 1, 0));
        x = with("605!,010,012,011,013", WALKER, 6, LEFT);
        goes(x, 0, 0);
        x.repave(3, 4);
        x.repave(4, 8);
        due("one skip, five steps", x.skips(0, 6, 0) * 10 + x.skips(0, 6, 1), 15);
        x.repave(3, 1);
        x.repave(4, 3);
        due("no skip; two stones", x.digest(), folded(6, 0, 5, 0, 0, 1, 0, NONE, 0, 1, 2, NONE, 0, 1, 1, NONE, 0, 1, 3, NONE,
                WALKER, 0, RIGHT, 0, RIGHT, NONE, NONE, 0b0111100, 6, 1, 0, 6,
                2, 0b00110, 1, 5, 1, 1, 0, 0, 0, 1, 0));
        sentence(30, "of each PRINT its GATE, way, FOOT, in order");
        x = in("010!,121!");
        x.print(1, OUT, LEFT);
        x.print(0, IN, RIGHT);
        due("two prints", x.digest(), folded(0, 1, 0, 0, 1, 2, 1, 1, 0, 0, 1, OUT, LEFT, 0, IN, RIGHT,
                0, 2, 2, 0, 2, 0, 0, 1, 0));
        sentence(30, "it tells only: asked twice it answers the same");
        long once = x.digest();
        due("again", x.digest(), once);
        due("count(7)", x.count(7), 0);
    }
}
