import java.util.ArrayList;
import java.util.List;

/**
 * "Refusals, of several the first as told by each call: UNKNOWN, OUTSIDE, STATE, FULL; they change nothing."
 * Each refusal stands here alone and with others. Each is asked of an object made anew; then all that the other
 * calls tell, and what undo() brings back down to the first STEP, is held against an object made in the same way
 * that was not asked.
 */
public final class RefusalTest extends Check {
    private interface Call {
        long on(Used x);
    }

    /** How an object comes to be as it is when it is asked. */
    private interface Scene {
        Used made();
    }

    public static void main(String[] args) {
        fresh();
        texts();
        numbers();
        tellingOfForms();
        shelves();
        fullForms();
        states();
        pairs();
        counts();
        allThatRefuse();
        end("RefusalTest");
    }

    // ---- scenes

    private static Used nothing() {
        return new Used();
    }

    /** FORMS of each RANK, an unfinished PAGE, PAIRS that can't be laid, more STEPS than are kept. */
    private static Used busy() {
        Used x = with("2", "2,3", "1,1,-2", "1,-1,3,7", "5");
        for (int k = 0; k < 9; k++) x.scale(1, k % 2 == 0 ? -6 : 5);
        x.turn(2, 0, 1, 1, 2);
        x.undo();
        x.undo();
        x.pairs(68);
        type(x, "1,-");
        return x;
    }

    /** As full as can be: THE PAGE, the SHELVES, the STEPS that are kept; PAIRS that can be laid. */
    private static Used full() {
        Used x = with("1,1,1,1", "1,1,1,2", "1,-1,3,-3", "1,1,1,5", "1,1,-2", "7,-7", "-7", "11,13");
        for (int k = 0; k < 5; k++) x.scale(k, -6);
        type(x, "-99,-98,-96,-91,-9");
        x.pairs(84);
        return x;
    }

    /** THE PAGE has a FORM, and no STEP is kept. */
    private static Used ready() {
        Used x = new Used();
        type(x, "3,-5");
        x.pairs(4);
        return x;
    }

    // ---- all that is told

    private static void tellShelf(Used x, int shelf, List<Long> told) {
        for (int what = 0; what <= 8; what++) told.add((long) x.about(shelf, what));
        for (int term = 0; term <= 4; term++) told.add((long) x.at(shelf, term));
        told.add((long) x.meets(shelf, 14));
        told.add((long) x.row(shelf, 1));
        told.add((long) x.way(shelf, 6, 1));
        told.add((long) x.like(shelf, 3));
    }

    private static List<Long> allTold(Used x) {
        List<Long> told = new ArrayList<>();
        for (int what = 0; what <= 9; what++) told.add((long) x.count(what));
        told.add((long) x.fault());
        for (int shelf = 0; shelf < 8; shelf++) tellShelf(x, shelf, told);
        for (int pair = 0; pair < 4; pair++) {
            for (int what = 0; what <= 4; what++) told.add((long) x.pair(pair, what));
            for (int rest = 0; rest < 9; rest++) told.add((long) x.met(pair, rest));
        }
        told.add((long) x.symbol(1, 3, 1));
        told.add((long) x.square(17, 1));
        told.add((long) x.core(3));
        told.add((long) x.classOf(12));
        told.add(x.digest());
        for (int k = 0; k < 13; k++) {
            told.add((long) x.undo());
            told.add(x.digest());
        }
        told.add((long) x.letter('9'));
        told.add((long) x.blank());
        return told;
    }

    private static void refused(String scene, Scene from, String call, int want, Call act) {
        Used asked = from.made();
        due(call + ", " + scene, act.on(asked), want);
        List<Long> before = allTold(from.made());
        List<Long> after = allTold(asked);
        if (!before.equals(after)) tellWrong(call + ", " + scene + ": it is refused, but what the other calls tell has changed");
    }

    private static void fromBusy(String call, int want, Call act) {
        refused("busy", RefusalTest::busy, call, want, act);
    }

    private static void fromFull(String call, int want, Call act) {
        refused("full", RefusalTest::full, call, want, act);
    }

    private static void fromReady(String call, int want, Call act) {
        refused("ready", RefusalTest::ready, call, want, act);
    }

    private static void fromNothing(String call, int want, Call act) {
        refused("new", RefusalTest::nothing, call, want, act);
    }

    // ---- refusals, alone and together

    private static void fresh() {
        sentence(0, "they change nothing", "of a new object");
        fromNothing("letter(31)", OUTSIDE, x -> x.letter(31));
        fromNothing("letter(127)", OUTSIDE, x -> x.letter(127));
        fromNothing("put(0)", STATE, x -> x.put(0));
        fromNothing("put(8)", UNKNOWN, x -> x.put(8));
        fromNothing("at(0, 0)", UNKNOWN, x -> x.at(0, 0));
        fromNothing("about(0, 9)", UNKNOWN, x -> x.about(0, 9));
        fromNothing("like(0, 0)", UNKNOWN, x -> x.like(0, 0));
        fromNothing("meets(0, 0)", UNKNOWN, x -> x.meets(0, 0));
        fromNothing("row(0, 0)", UNKNOWN, x -> x.row(0, 0));
        fromNothing("way(0, 0, 0)", UNKNOWN, x -> x.way(0, 0, 0));
        fromNothing("clear(0)", UNKNOWN, x -> x.clear(0));
        fromNothing("join(0, 0, 0)", UNKNOWN, x -> x.join(0, 0, 0));
        fromNothing("times(0, 0, 0)", UNKNOWN, x -> x.times(0, 0, 0));
        fromNothing("scale(0, 0)", UNKNOWN, x -> x.scale(0, 0));
        fromNothing("turn(0, 0, 0, 16, 16)", UNKNOWN, x -> x.turn(0, 0, 0, 16, 16));
        fromNothing("drop(0, 0)", UNKNOWN, x -> x.drop(0, 0));
        fromNothing("undo()", STATE, Used::undo);
        fromNothing("pairs(2)", OUTSIDE, x -> x.pairs(2));
        fromNothing("pairs(161)", OUTSIDE, x -> x.pairs(161));
        fromNothing("pair(0, 5)", UNKNOWN, x -> x.pair(0, 5));
        fromNothing("met(0, -1)", UNKNOWN, x -> x.met(0, -1));
        fromNothing("lay(0, 0)", UNKNOWN, x -> x.lay(0, 0));
        fromNothing("lay(0, 8)", UNKNOWN, x -> x.lay(0, 8));
        fromNothing("count(10)", OUTSIDE, x -> x.count(10));
    }

    private static void texts() {
        sentence(2, "OUTSIDE: code (32 to 126); FULL: above 18");
        fromBusy("letter(31)", OUTSIDE, x -> x.letter(31));
        fromBusy("letter(127)", OUTSIDE, x -> x.letter(127));
        fromFull("letter('1')", FULL, x -> x.letter('1'));
        fromFull("letter(31), and FULL", OUTSIDE, x -> x.letter(31));
        fromFull("letter(127), and FULL", OUTSIDE, x -> x.letter(127));
        sentence(5, "UNKNOWN: shelf; STATE: it is none");
        fromBusy("put(0), not ended", STATE, x -> x.put(0));
        fromBusy("put(7), not ended", STATE, x -> x.put(7));
        fromFull("put(0), too long", STATE, x -> x.put(0));
        fromBusy("put(8), and STATE", UNKNOWN, x -> x.put(8));
        fromBusy("put(-1), and STATE", UNKNOWN, x -> x.put(-1));
        fromReady("put(8)", UNKNOWN, x -> x.put(8));
        fromReady("put(-1)", UNKNOWN, x -> x.put(-1));
    }

    private static void numbers() {
        sentence(6, "OUTSIDE: it is none");
        int[] none = {0, 17, 100, -100};
        for (int number : none) fromBusy("classOf(" + number + ")", OUTSIDE, x -> x.classOf(number));
        sentence(7, "OUTSIDE: kind (0 to 127)");
        fromBusy("core(-1)", OUTSIDE, x -> x.core(-1));
        fromBusy("core(128)", OUTSIDE, x -> x.core(128));
        sentence(8, "UNKNOWN: place; OUTSIDE: one, other (0 to 127)");
        fromBusy("symbol(0, 0, 7)", UNKNOWN, x -> x.symbol(0, 0, 7));
        fromBusy("symbol(0, 0, -1)", UNKNOWN, x -> x.symbol(0, 0, -1));
        fromBusy("symbol(128, 0, 0)", OUTSIDE, x -> x.symbol(128, 0, 0));
        fromBusy("symbol(0, 128, 0)", OUTSIDE, x -> x.symbol(0, 128, 0));
        fromBusy("symbol(-1, 128, 7)", UNKNOWN, x -> x.symbol(-1, 128, 7));
        sentence(9, "UNKNOWN: place; OUTSIDE: kind (0 to 127)");
        fromBusy("square(0, 7)", UNKNOWN, x -> x.square(0, 7));
        fromBusy("square(128, 0)", OUTSIDE, x -> x.square(128, 0));
        fromBusy("square(128, -1)", UNKNOWN, x -> x.square(128, -1));
    }

    private static void tellingOfForms() {
        sentence(10, "UNKNOWN: shelf (there is no FORM on it), term");
        fromBusy("at(5, 0)", UNKNOWN, x -> x.at(5, 0));
        fromBusy("at(0, 1)", UNKNOWN, x -> x.at(0, 1));
        fromFull("at(0, 4)", UNKNOWN, x -> x.at(0, 4));
        sentence(11, "UNKNOWN: shelf (there is no FORM on it); OUTSIDE");
        fromBusy("about(5, 0)", UNKNOWN, x -> x.about(5, 0));
        fromBusy("about(0, 9)", OUTSIDE, x -> x.about(0, 9));
        fromBusy("about(5, 9)", UNKNOWN, x -> x.about(5, 9));
        sentence(12, "UNKNOWN: one, other (there is no FORM on it)");
        fromBusy("like(0, 5)", UNKNOWN, x -> x.like(0, 5));
        fromBusy("like(5, 0)", UNKNOWN, x -> x.like(5, 0));
        sentence(13, "UNKNOWN: shelf (there is no FORM on it); OUTSIDE: it is none");
        fromBusy("meets(5, 1)", UNKNOWN, x -> x.meets(5, 1));
        fromBusy("meets(0, 0)", OUTSIDE, x -> x.meets(0, 0));
        fromBusy("meets(5, 0)", UNKNOWN, x -> x.meets(5, 0));
        sentence(14, "UNKNOWN: shelf (there is no FORM on it), term");
        fromBusy("row(5, 0)", UNKNOWN, x -> x.row(5, 0));
        fromBusy("row(2, 3)", UNKNOWN, x -> x.row(2, 3));
        fromBusy("row(0, 0): NONE", NONE, x -> x.row(0, 0));
        sentence(15, "UNKNOWN: shelf (there is no FORM on it), term; OUTSIDE: number is none");
        fromBusy("way(5, 1, 0)", UNKNOWN, x -> x.way(5, 1, 0));
        fromBusy("way(2, 1, 4)", UNKNOWN, x -> x.way(2, 1, 4));
        fromBusy("way(2, 0, 3)", OUTSIDE, x -> x.way(2, 0, 3));
        fromBusy("way(2, 0, 4)", UNKNOWN, x -> x.way(2, 0, 4));
        fromBusy("way(0, 3, 0): NONE", NONE, x -> x.way(0, 3, 0));
    }

    private static void shelves() {
        int[] none = {5, 8, -1};
        for (int shelf : none) {
            sentence(16, "UNKNOWN: there is none");
            fromBusy("clear(" + shelf + ")", UNKNOWN, x -> x.clear(shelf));
            sentence(17, "UNKNOWN: one, other (there is no FORM on it), to (there is no such SHELF)");
            fromBusy("join(" + shelf + ", 0, 0)", UNKNOWN, x -> x.join(shelf, 0, 0));
            fromBusy("join(0, " + shelf + ", 0)", UNKNOWN, x -> x.join(0, shelf, 0));
            sentence(18, "UNKNOWN: one, other (there is no FORM on it), to (there is no such SHELF)");
            fromBusy("times(" + shelf + ", 0, 0)", UNKNOWN, x -> x.times(shelf, 0, 0));
            fromBusy("times(0, " + shelf + ", 0)", UNKNOWN, x -> x.times(0, shelf, 0));
            sentence(19, "UNKNOWN: shelf (there is no FORM on it); OUTSIDE: number is none");
            fromBusy("scale(" + shelf + ", 1)", UNKNOWN, x -> x.scale(shelf, 1));
            fromBusy("scale(" + shelf + ", 0)", UNKNOWN, x -> x.scale(shelf, 0));
            sentence(20, "UNKNOWN: shelf (there is no FORM on it), i, j");
            fromBusy("turn(" + shelf + ", 0, 1, 1, 1)", UNKNOWN, x -> x.turn(shelf, 0, 1, 1, 1));
            fromBusy("turn(" + shelf + ", 0, 0, 16, 0)", UNKNOWN, x -> x.turn(shelf, 0, 0, 16, 0));
            sentence(21, "UNKNOWN: shelf (there is no FORM on it), term");
            fromBusy("drop(" + shelf + ", 0)", UNKNOWN, x -> x.drop(shelf, 0));
        }
        sentence(17, "to (there is no such SHELF)");
        fromBusy("join(0, 1, 8)", UNKNOWN, x -> x.join(0, 1, 8));
        fromBusy("join(0, 1, -1)", UNKNOWN, x -> x.join(0, 1, -1));
        sentence(18, "to (there is no such SHELF)");
        fromBusy("times(0, 1, 8)", UNKNOWN, x -> x.times(0, 1, 8));
        fromBusy("times(0, 1, -1)", UNKNOWN, x -> x.times(0, 1, -1));
    }

    private static void fullForms() {
        sentence(17, "FULL: above four TERMS");
        fromBusy("join(3, 0, 5)", FULL, x -> x.join(3, 0, 5));
        fromBusy("join(1, 2, 1)", FULL, x -> x.join(1, 2, 1));
        fromFull("join(0, 0, 0)", FULL, x -> x.join(0, 0, 0));
        fromBusy("join(3, 0, 8), and FULL", UNKNOWN, x -> x.join(3, 0, 8));
        fromBusy("join(3, 5, 0), and UNKNOWN", UNKNOWN, x -> x.join(3, 5, 0));
        sentence(18, "FULL: above four TERMS");
        fromBusy("times(1, 2, 5)", FULL, x -> x.times(1, 2, 5));
        fromBusy("times(2, 1, 2)", FULL, x -> x.times(2, 1, 2));
        fromFull("times(0, 7, 0)", FULL, x -> x.times(0, 7, 0));
        fromBusy("times(1, 2, 8), and FULL", UNKNOWN, x -> x.times(1, 2, 8));
        fromBusy("times(5, 3, 0), and UNKNOWN", UNKNOWN, x -> x.times(5, 3, 0));
    }

    private static void states() {
        sentence(19, "OUTSIDE: number is none");
        int[] none = {0, 17, 100, -100};
        for (int number : none) fromBusy("scale(1, " + number + ")", OUTSIDE, x -> x.scale(1, number));
        sentence(20, "UNKNOWN: .. i, j; OUTSIDE: x, y (0 to 15); STATE: i is j, or C is 0, or ..");
        fromBusy("turn(2, 3, 0, 1, 1)", UNKNOWN, x -> x.turn(2, 3, 0, 1, 1));
        fromBusy("turn(2, 0, 3, 1, 1)", UNKNOWN, x -> x.turn(2, 0, 3, 1, 1));
        fromBusy("turn(2, -1, 0, 1, 1)", UNKNOWN, x -> x.turn(2, -1, 0, 1, 1));
        fromBusy("turn(2, 3, 3, 16, 1)", UNKNOWN, x -> x.turn(2, 3, 3, 16, 1));
        fromBusy("turn(2, 0, 1, 16, 1)", OUTSIDE, x -> x.turn(2, 0, 1, 16, 1));
        fromBusy("turn(2, 0, 1, 1, 16)", OUTSIDE, x -> x.turn(2, 0, 1, 1, 16));
        fromBusy("turn(2, 0, 1, -1, 1)", OUTSIDE, x -> x.turn(2, 0, 1, -1, 1));
        fromBusy("turn(2, 0, 0, 1, -1)", OUTSIDE, x -> x.turn(2, 0, 0, 1, -1));
        fromBusy("turn(2, 0, 0, 1, 1)", STATE, x -> x.turn(2, 0, 0, 1, 1));
        fromBusy("turn(2, 0, 1, 0, 0)", STATE, x -> x.turn(2, 0, 1, 0, 0));
        fromBusy("turn(3, 0, 1, 7, 7)", STATE, x -> x.turn(3, 0, 1, 7, 7));
        fromBusy("turn(2, 0, 1, 4, 1)", STATE, x -> x.turn(2, 0, 1, 4, 1));
        sentence(21, "UNKNOWN: .. term; STATE: it is the only one");
        fromBusy("drop(0, 0)", STATE, x -> x.drop(0, 0));
        fromBusy("drop(0, 1), and STATE", UNKNOWN, x -> x.drop(0, 1));
        fromBusy("drop(1, 2)", UNKNOWN, x -> x.drop(1, 2));
        fromBusy("drop(1, -1)", UNKNOWN, x -> x.drop(1, -1));
        sentence(22, "STATE: none is kept");
        fromReady("undo()", STATE, Used::undo);
    }

    private static void pairs() {
        sentence(23, "OUTSIDE: n (as told)");
        int[] outside = {2, 0, -4, 5, 6, 161, 164};
        for (int n : outside) {
            fromBusy("pairs(" + n + ")", OUTSIDE, x -> x.pairs(n));
            fromFull("pairs(" + n + ")", OUTSIDE, x -> x.pairs(n));
        }
        sentence(24, "UNKNOWN: pair (or none are open); OUTSIDE");
        fromFull("pair(4, 0)", UNKNOWN, x -> x.pair(4, 0));
        fromFull("pair(-1, 0)", UNKNOWN, x -> x.pair(-1, 0));
        fromFull("pair(3, 5)", OUTSIDE, x -> x.pair(3, 5));
        fromFull("pair(4, 5)", UNKNOWN, x -> x.pair(4, 5));
        sentence(25, "UNKNOWN: pair (or none are open); OUTSIDE: rest (0 to N - 1)");
        fromFull("met(4, 0)", UNKNOWN, x -> x.met(4, 0));
        fromFull("met(3, 84)", OUTSIDE, x -> x.met(3, 84));
        fromFull("met(0, -1)", OUTSIDE, x -> x.met(0, -1));
        fromFull("met(4, 84)", UNKNOWN, x -> x.met(4, 84));
        sentence(26, "UNKNOWN: pair (or none are open), shelf; STATE: a prime above 13 goes into N");
        fromFull("lay(4, 0)", UNKNOWN, x -> x.lay(4, 0));
        fromFull("lay(-1, 0)", UNKNOWN, x -> x.lay(-1, 0));
        fromFull("lay(0, 8)", UNKNOWN, x -> x.lay(0, 8));
        fromFull("lay(0, -1)", UNKNOWN, x -> x.lay(0, -1));
        fromBusy("lay(0, 0)", STATE, x -> x.lay(0, 0));
        fromBusy("lay(0, 7)", STATE, x -> x.lay(0, 7));
        fromBusy("lay(0, 8), and STATE", UNKNOWN, x -> x.lay(0, 8));
        fromBusy("lay(9, 0), and STATE", UNKNOWN, x -> x.lay(9, 0));
    }

    private static void counts() {
        sentence(27, "OUTSIDE.");
        fromBusy("count(-1)", OUTSIDE, x -> x.count(-1));
        fromBusy("count(10)", OUTSIDE, x -> x.count(10));
    }

    /** All refusals one behind the other, which must leave no trace together either. */
    private static void allThatRefuse() {
        sentence(0, "they change nothing", "many, one behind the other");
        fromBusy("many", STATE, x -> {
            for (int far : FAR) {
                x.letter(far);
                x.put(far);
                x.clear(far);
                x.join(far, 0, 0);
                x.join(0, 0, far);
                x.times(0, far, 0);
                x.scale(0, far);
                x.turn(2, 0, 1, far, 1);
                x.turn(2, far, 1, 1, 1);
                x.drop(0, far);
                x.pairs(far);
                x.lay(far, 0);
            }
            return x.drop(0, 0);
        });
    }
}
