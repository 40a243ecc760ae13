import java.math.BigInteger;
import java.util.ArrayList;
import java.util.List;

/** The sentences of promises 1 to 28 that name a boundary case, each with a test of its own. */
public final class CallEdgeTest extends Check {
    public static void main(String[] args) {
        newObject();
        letterCodes();
        letterTellsHowMany();
        letterFull();
        blankOfEmptyAndFull();
        faultOfEmpty();
        faultAtFirstAndLast();
        faultOfNone();
        faultOfFullPage();
        putEmptiesThePage();
        putOverAForm();
        putOfNoForm();
        putShelf();
        classOfNone();
        coreEnds();
        symbolAnswers();
        squareAnswers();
        atTerms();
        aboutWhats();
        aboutLeastLike();
        likeBits();
        meetsBits();
        rowTerms();
        wayTerms();
        clearTellsRank();
        joinUpToFour();
        joinOntoItself();
        timesUpToFour();
        timesOntoItself();
        scaleTellsDet();
        turnNumbers();
        turnStates();
        turnOfOthers();
        turnOfLargest();
        dropFirstAndLast();
        dropOnlyOne();
        pairsOthersNoMore();
        pairsRefusedStayOpen();
        pairWhats();
        metRests();
        layShelves();
        layGreatPrimes();
        countOfNothing();
        countOfFull();
        countUnlike();
        countWhats();
        digestOfNew();
        digestOfAll();
        digestWraps();
        digestOfFullPage();
        toldAsOfOnePutAnew();
        lastCall();
        end("CallEdgeTest");
    }

    private static void newObject() {
        sentence(1, "No FORMS, no PAIRS.");
        Used x = new Used();
        dueCounts(x, 0, 0, 0, 0, 0, 0, 0, 0, 0, 0);
        for (int shelf = 0; shelf < 8; shelf++) {
            due("at", x.at(shelf, 0), UNKNOWN);
            due("about", x.about(shelf, 0), UNKNOWN);
            due("like", x.like(shelf, shelf), UNKNOWN);
            due("meets", x.meets(shelf, 1), UNKNOWN);
            due("row", x.row(shelf, 0), UNKNOWN);
            due("way", x.way(shelf, 1, 0), UNKNOWN);
            due("clear", x.clear(shelf), UNKNOWN);
            due("join", x.join(shelf, shelf, shelf), UNKNOWN);
            due("times", x.times(shelf, shelf, shelf), UNKNOWN);
            due("scale", x.scale(shelf, 1), UNKNOWN);
            due("turn", x.turn(shelf, 0, 0, 1, 1), UNKNOWN);
            due("drop", x.drop(shelf, 0), UNKNOWN);
            due("put", x.put(shelf), STATE);
            due("lay", x.lay(0, shelf), UNKNOWN);
        }
        due("undo", x.undo(), STATE);
        due("blank", x.blank(), 0);
        due("fault", x.fault(), 0);
        due("pair", x.pair(0, 0), UNKNOWN);
        due("met", x.met(0, 0), UNKNOWN);
        // What one object has is none of another's.
        put(x, 0, "1,2");
        x.pairs(23);
        x.letter('1');
        dueCounts(new Used(), 0, 0, 0, 0, 0, 0, 0, 0, 0, 0);
    }

    // ---- texts

    private static void letterCodes() {
        sentence(2, "OUTSIDE: code (32 to 126)");
        int[] outside = {31, 127, 0, -1, -32, 128, 32 + 256, 255, 65536 + 49};
        for (int code : outside) due("letter(" + code + ")", new Used().letter(code), OUTSIDE);
        for (int code : FAR) due("letter(" + code + ")", new Used().letter(code), OUTSIDE);
        for (int code = 32; code <= 126; code++) due("letter(" + code + ")", new Used().letter(code), 1);
    }

    private static void letterTellsHowMany() {
        sentence(2, "how many THE PAGE has");
        Used x = new Used();
        for (int k = 1; k <= 18; k++) {
            due("letter " + k, x.letter('1'), k);
            due("count(4)", x.count(4), k);
        }
    }

    private static void letterFull() {
        sentence(2, "FULL: above 18");
        Used x = new Used();
        for (int k = 1; k <= 17; k++) x.letter('1');
        due("letter 18", x.letter('1'), 18);
        due("letter 19", x.letter('1'), FULL);
        due("letter 19 again", x.letter('1'), FULL);
        due("letter 19, and outside: the first as told", x.letter(127), OUTSIDE);
        due("count(4)", x.count(4), 18);
        due("blank()", x.blank(), 18);
        due("letter", x.letter('1'), 1);
    }

    private static void blankOfEmptyAndFull() {
        sentence(3, "THE PAGE is empty: how many letters it had");
        Used x = new Used();
        due("blank()", x.blank(), 0);
        x.letter('1');
        due("blank()", x.blank(), 1);
        due("blank()", x.blank(), 0);
        due("count(4)", x.count(4), 0);
        for (int k = 1; k <= 18; k++) x.letter('9');
        due("blank()", x.blank(), 18);
        due("count(4)", x.count(4), 0);
        due("fault()", x.fault(), 0);
        due("put(0)", x.put(0), STATE);
    }

    private static void dueFault(String text, int want) {
        Used x = new Used();
        type(x, text);
        due("fault() of \"" + text + "\"", x.fault(), want);
        due("count(4) of \"" + text + "\"", x.count(4), text.length());
        due("fault() again of \"" + text + "\"", x.fault(), want);
    }

    private static void faultOfEmpty() {
        sentence(4, "how many letters it has, if there is none", "of an empty PAGE");
        dueFault("", 0);
    }

    private static void faultAtFirstAndLast() {
        sentence(4, "The place (from 0) of the first letter of THE PAGE that no FORM has there");
        dueFault("x", 0);
        dueFault("~1,2,3", 0);
        dueFault("0,1", 0);
        dueFault("1,2,3,5x", 7);
        dueFault("1,2,3x5x", 5);
        dueFault("-99,-99,-99,-99x", 15);
        // No FORM goes on behind 17 or 9 and 7 so: the second digit is the fault.
        dueFault("17", 1);
        dueFault("1,97", 3);
        dueFault("1,-34", 4);
    }

    private static void faultOfNone() {
        sentence(4, "how many letters it has, if there is none");
        String[] begun = {"1", "-", "1,", "1,-", "-9", "-99,", "1,2,3,", "1,2,3,-", "1,2,3,4", "-99,-99,-99,-99", "10", "98"};
        for (String text : begun) dueFault(text, text.length());
    }

    private static void faultOfFullPage() {
        sentence(4, "of the first letter of THE PAGE that no FORM has there", "of a full PAGE");
        dueFault("-99,-98,-96,-91,-9", 15);
        dueFault("1,1,1,1,1,1,1,1,1,", 7);
        dueFault("                  ", 0);
        dueFault("99,98,96,91,1,1,1,", 11);
    }

    private static void putEmptiesThePage() {
        sentence(5, "its RANK; THE PAGE is empty then");
        String[] texts = {"7", "7,-7", "1,1,-2", "-99,-98,-96,-91"};
        for (int k = 0; k < texts.length; k++) {
            Used x = new Used();
            type(x, texts[k]);
            due("put(0)", x.put(0), k + 1);
            due("count(4)", x.count(4), 0);
            due("put(0) again", x.put(0), STATE);
            due("letter", x.letter('1'), 1);
        }
    }

    private static void putOverAForm() {
        sentence(5, "(what was there is gone)");
        Used x = with("1,2,3,5");
        due("put(0)", put(x, 0, "7"), 1);
        dueForm(x, 0, "7");
        due("at(0, 1)", x.at(0, 1), UNKNOWN);
        due("count(1)", x.count(1), 1);
        due("put(0)", put(x, 0, "1,1"), 2);
        dueForm(x, 0, "1,1");
    }

    private static void putOfNoForm() {
        sentence(5, "STATE: it is none");
        String[] none = {"", "-", "1,", "1,-", "x", "0", "17", "100", "1,2,3,4,", "1,2,3,4,5", "1,2,3,", "1 ", "--1"};
        for (String text : none) {
            Used x = with("2,3");
            type(x, text);
            due("put(0) of \"" + text + "\"", x.put(0), STATE);
            due("put(1) of \"" + text + "\"", x.put(1), STATE);
            due("count(4)", x.count(4), text.length());
            dueForm(x, 0, "2,3");
            dueForm(x, 1, "none");
        }
    }

    private static void putShelf() {
        sentence(5, "UNKNOWN: shelf");
        Used x = new Used();
        due("put(8) of nothing: the first as told", x.put(8), UNKNOWN);
        due("put(-1) of nothing: the first as told", x.put(-1), UNKNOWN);
        type(x, "3,5");
        due("put(-1)", x.put(-1), UNKNOWN);
        due("put(8)", x.put(8), UNKNOWN);
        for (int far : FAR) due("put(" + far + ")", x.put(far), UNKNOWN);
        due("count(4)", x.count(4), 3);
        due("put(7)", x.put(7), 2);
        type(x, "3");
        due("put(0)", x.put(0), 1);
    }

    // ---- numbers, places

    private static void classOfNone() {
        sentence(6, "OUTSIDE: it is none");
        Used x = new Used();
        int[] none = {0, 17, -17, 97, -97, 100, -100, 34, 95, 104, -128};
        for (int number : none) due("classOf(" + number + ")", x.classOf(number), OUTSIDE);
        for (int far : FAR) due("classOf(" + far + ")", x.classOf(far), OUTSIDE);
        due("classOf(13)", x.classOf(13), 64);
        due("classOf(-99)", x.classOf(-99), 33);
        due("classOf(99)", x.classOf(99), 32);
    }

    private static void coreEnds() {
        sentence(7, "OUTSIDE: kind (0 to 127)");
        Used x = new Used();
        due("core(-1)", x.core(-1), OUTSIDE);
        due("core(0)", x.core(0), 1);
        due("core(127)", x.core(127), -30030);
        due("core(128)", x.core(128), OUTSIDE);
        for (int far : FAR) due("core(" + far + ")", x.core(far), OUTSIDE);
    }

    private static void symbolAnswers() {
        sentence(8, "UNKNOWN: place; OUTSIDE: one, other (0 to 127)");
        Used x = new Used();
        due("symbol(0, 0, -1)", x.symbol(0, 0, -1), UNKNOWN);
        due("symbol(0, 0, 0)", x.symbol(0, 0, 0), 1);
        due("symbol(1, 1, 0)", x.symbol(1, 1, 0), -1);
        due("symbol(0, 0, 6)", x.symbol(0, 0, 6), 1);
        due("symbol(0, 0, 7)", x.symbol(0, 0, 7), UNKNOWN);
        due("symbol(127, 127, 6)", x.symbol(127, 127, 6), 1);
        due("symbol(128, 0, 6)", x.symbol(128, 0, 6), OUTSIDE);
        due("symbol(0, 128, 6)", x.symbol(0, 128, 6), OUTSIDE);
        due("symbol(-1, 0, 6)", x.symbol(-1, 0, 6), OUTSIDE);
        due("symbol(0, -1, 6)", x.symbol(0, -1, 6), OUTSIDE);
        due("both: the first as told", x.symbol(128, 128, 7), UNKNOWN);
        due("both: the first as told", x.symbol(-1, 0, -1), UNKNOWN);
        for (int far : FAR) {
            due("place " + far, x.symbol(0, 0, far), UNKNOWN);
            due("one " + far, x.symbol(far, 0, 0), OUTSIDE);
            due("other " + far, x.symbol(0, far, 0), OUTSIDE);
        }
    }

    private static void squareAnswers() {
        sentence(9, "UNKNOWN: place; OUTSIDE: kind (0 to 127)");
        Used x = new Used();
        due("square(0, -1)", x.square(0, -1), UNKNOWN);
        due("square(0, 0)", x.square(0, 0), 1);
        due("square(1, 0)", x.square(1, 0), 0);
        due("square(0, 6)", x.square(0, 6), 1);
        due("square(0, 7)", x.square(0, 7), UNKNOWN);
        due("square(127, 6)", x.square(127, 6), 0);
        due("square(128, 6)", x.square(128, 6), OUTSIDE);
        due("square(-1, 6)", x.square(-1, 6), OUTSIDE);
        due("both: the first as told", x.square(128, 7), UNKNOWN);
        due("both: the first as told", x.square(-1, -1), UNKNOWN);
        for (int far : FAR) {
            due("place " + far, x.square(0, far), UNKNOWN);
            due("kind " + far, x.square(far, 0), OUTSIDE);
        }
    }

    // ---- forms

    private static void atTerms() {
        sentence(10, "UNKNOWN: shelf (there is no FORM on it), term");
        String[] forms = {"2", "2,-3", "2,-3,5", "2,-3,5,-7"};
        int[] cores = {2, -3, 5, -7};
        Used x = with(forms);
        for (int shelf = 0; shelf < 4; shelf++) {
            due("at(" + shelf + ", -1)", x.at(shelf, -1), UNKNOWN);
            for (int term = 0; term <= shelf; term++) due("at(" + shelf + ", " + term + ")", x.at(shelf, term), cores[term]);
            for (int term = shelf + 1; term < 6; term++) due("at(" + shelf + ", " + term + ")", x.at(shelf, term), UNKNOWN);
        }
        due("at(4, 0)", x.at(4, 0), UNKNOWN);
        due("at(-1, 0)", x.at(-1, 0), UNKNOWN);
        due("at(8, 0)", x.at(8, 0), UNKNOWN);
        for (int far : FAR) {
            due("at(0, " + far + ")", x.at(0, far), UNKNOWN);
            due("at(" + far + ", 0)", x.at(far, 0), UNKNOWN);
        }
        x.clear(3);
        due("at(3, 0) of a FORM that is gone", x.at(3, 0), UNKNOWN);
    }

    private static void aboutWhats() {
        sentence(11, "What = 0 RANK, .. 8 the least SHELF .. UNKNOWN: shelf (there is no FORM on it); OUTSIDE");
        Used x = with("1,1,-2");
        due("about(0, -1)", x.about(0, -1), OUTSIDE);
        dueAbout(x, 0, 3, 2, 3, 0, 0, 1, 2, 0, 0);
        due("about(0, 9)", x.about(0, 9), OUTSIDE);
        due("about(1, 0)", x.about(1, 0), UNKNOWN);
        due("about(-1, 0)", x.about(-1, 0), UNKNOWN);
        due("about(8, 0)", x.about(8, 0), UNKNOWN);
        due("both: the first as told", x.about(1, 9), UNKNOWN);
        due("both: the first as told", x.about(8, -1), UNKNOWN);
        for (int far : FAR) {
            due("about(0, " + far + ")", x.about(0, far), OUTSIDE);
            due("about(" + far + ", 0)", x.about(far, 0), UNKNOWN);
        }
        x.clear(0);
        due("about(0, 0) of a FORM that is gone", x.about(0, 0), UNKNOWN);
    }

    private static void aboutLeastLike() {
        sentence(11, "the least SHELF with a FORM that is LIKE it (or its own)");
        Used x = with("", "1,1", "2,2", "", "5,5", "3,3", "1,1,1", "10,10");
        int[] least = {UNKNOWN, 1, 1, UNKNOWN, 1, 5, 6, 1};
        for (int shelf = 0; shelf < 8; shelf++) due("about(" + shelf + ", 8)", x.about(shelf, 8), least[shelf]);
        x.clear(1);
        due("about(7, 8), the least one gone", x.about(7, 8), 2);
        due("about(2, 8)", x.about(2, 8), 2);
        put(x, 0, "10,10");
        due("about(7, 8), a lesser one", x.about(7, 8), 0);
        due("about(0, 8)", x.about(0, 8), 0);
        Used last = with("", "", "", "", "", "", "", "7");
        due("about(7, 8), alone", last.about(7, 8), 7);
    }

    private static void likeBits() {
        sentence(12, "UNKNOWN: one, other (there is no FORM on it)");
        Used x = with("1,1", "-1,-1", "", "", "", "", "", "1");
        due("like(0, 0)", x.like(0, 0), 0);
        due("like(0, 1)", x.like(0, 1), 3);
        due("like(0, 7)", x.like(0, 7), 127);
        due("like(7, 0)", x.like(7, 0), 127);
        due("like(0, 2)", x.like(0, 2), UNKNOWN);
        due("like(2, 0)", x.like(2, 0), UNKNOWN);
        due("like(2, 3)", x.like(2, 3), UNKNOWN);
        due("like(0, 8)", x.like(0, 8), UNKNOWN);
        due("like(8, 0)", x.like(8, 0), UNKNOWN);
        due("like(0, -1)", x.like(0, -1), UNKNOWN);
        due("like(-1, 0)", x.like(-1, 0), UNKNOWN);
        for (int far : FAR) {
            due("like(0, " + far + ")", x.like(0, far), UNKNOWN);
            due("like(" + far + ", 0)", x.like(far, 0), UNKNOWN);
        }
    }

    private static void meetsBits() {
        sentence(13, "UNKNOWN: shelf (there is no FORM on it); OUTSIDE: it is none");
        Used x = with("1,1,1");
        due("meets(0, 99)", x.meets(0, 99), 0);
        due("meets(0, -99)", x.meets(0, -99), 1);
        due("meets(0, 7)", x.meets(0, 7), 2);
        due("meets(0, 0)", x.meets(0, 0), OUTSIDE);
        due("meets(0, 100)", x.meets(0, 100), OUTSIDE);
        due("meets(0, 17)", x.meets(0, 17), OUTSIDE);
        due("meets(1, 1)", x.meets(1, 1), UNKNOWN);
        due("meets(8, 1)", x.meets(8, 1), UNKNOWN);
        due("meets(-1, 1)", x.meets(-1, 1), UNKNOWN);
        due("both: the first as told", x.meets(1, 0), UNKNOWN);
        due("both: the first as told", x.meets(8, 17), UNKNOWN);
        for (int far : FAR) {
            due("meets(0, " + far + ")", x.meets(0, far), OUTSIDE);
            due("meets(" + far + ", 1)", x.meets(far, 1), UNKNOWN);
        }
    }

    private static void rowTerms() {
        sentence(14, "NONE: there is no ROW. UNKNOWN: shelf (there is no FORM on it), term");
        Used x = with("5", "1,-1", "1,1,1", "1,-1,1,-1");
        int[][] rows = {{NONE}, {1, 1}, {NONE, NONE, NONE}, {0, 0, 1, 1}};
        for (int shelf = 0; shelf < 4; shelf++) {
            due("row(" + shelf + ", -1)", x.row(shelf, -1), UNKNOWN);
            for (int term = 0; term <= shelf; term++) due("row(" + shelf + ", " + term + ")", x.row(shelf, term), rows[shelf][term]);
            due("row(" + shelf + ", RANK)", x.row(shelf, shelf + 1), UNKNOWN);
        }
        due("row(4, 0)", x.row(4, 0), UNKNOWN);
        due("row(8, 0)", x.row(8, 0), UNKNOWN);
        due("row(-1, 0)", x.row(-1, 0), UNKNOWN);
        for (int far : FAR) {
            due("row(1, " + far + ")", x.row(1, far), UNKNOWN);
            due("row(" + far + ", 0)", x.row(far, 0), UNKNOWN);
        }
    }

    private static void wayTerms() {
        sentence(15, "(the RANK: for the one more); NONE: there is no WAY. UNKNOWN: .. term; OUTSIDE: number is none");
        Used x = with("5", "1,1", "1,1,1", "1,1,1,1");
        int[] numbers = {5, 5, 6, 7};
        int[][] ways = {{1, 1}, {1, 2, 1}, {1, 1, 2, 1}, {1, 1, 1, 2, 1}};
        for (int shelf = 0; shelf < 4; shelf++) {
            due("way(" + shelf + ", .., -1)", x.way(shelf, numbers[shelf], -1), UNKNOWN);
            for (int term = 0; term <= shelf + 1; term++)
                due("way(" + shelf + ", .., " + term + ")", x.way(shelf, numbers[shelf], term), ways[shelf][term]);
            due("way(" + shelf + ", .., RANK + 1)", x.way(shelf, numbers[shelf], shelf + 2), UNKNOWN);
        }
        due("way(2, 7, 0)", x.way(2, 7, 0), NONE);
        due("way(2, 7, 3)", x.way(2, 7, 3), NONE);
        due("way(1, 0, 2)", x.way(1, 0, 2), OUTSIDE);
        due("way(1, 100, 2)", x.way(1, 100, 2), OUTSIDE);
        due("way(1, -100, 0)", x.way(1, -100, 0), OUTSIDE);
        due("way(1, 17, 0)", x.way(1, 17, 0), OUTSIDE);
        due("way(4, 1, 0)", x.way(4, 1, 0), UNKNOWN);
        due("way(8, 1, 0)", x.way(8, 1, 0), UNKNOWN);
        due("way(-1, 1, 0)", x.way(-1, 1, 0), UNKNOWN);
        due("term and number: the first as told", x.way(1, 0, 3), UNKNOWN);
        due("shelf and number: the first as told", x.way(4, 0, 0), UNKNOWN);
        for (int far : FAR) {
            due("way(1, " + far + ", 0)", x.way(1, far, 0), OUTSIDE);
            due("way(1, 5, " + far + ")", x.way(1, 5, far), UNKNOWN);
            due("way(" + far + ", 5, 0)", x.way(far, 5, 0), UNKNOWN);
        }
    }

    // ---- steps

    private static void clearTellsRank() {
        sentence(16, "its RANK. UNKNOWN: there is none");
        Used x = with("2", "2,3", "2,3,5", "2,3,5,7", "", "", "", "11");
        for (int shelf = 0; shelf < 4; shelf++) {
            due("clear(" + shelf + ")", x.clear(shelf), shelf + 1);
            dueForm(x, shelf, "none");
            due("clear(" + shelf + ") again", x.clear(shelf), UNKNOWN);
        }
        due("clear(7)", x.clear(7), 1);
        due("clear(4)", x.clear(4), UNKNOWN);
        due("clear(-1)", x.clear(-1), UNKNOWN);
        due("clear(8)", x.clear(8), UNKNOWN);
        for (int far : FAR) due("clear(" + far + ")", x.clear(far), UNKNOWN);
        due("count(0)", x.count(0), 0);
        due("count(8)", x.count(8), 10);
    }

    private static final String[] RANKS = {"2", "2,3", "2,3,5", "2,3,5,7"};

    private static void joinUpToFour() {
        sentence(17, "its RANK .. FULL: above four TERMS");
        for (int one = 0; one < 4; one++) {
            for (int other = 0; other < 4; other++) {
                Used x = with(RANKS);
                int rank = one + other + 2;
                due("join(" + one + ", " + other + ", 7)", x.join(one, other, 7), rank <= 4 ? rank : FULL);
                dueForm(x, 7, rank <= 4 ? RANKS[one] + "," + RANKS[other] : "none");
                due("UNKNOWN and FULL: the first as told", x.join(one, other, 8), UNKNOWN);
                due("UNKNOWN and FULL: the first as told", x.join(one, other, -1), UNKNOWN);
            }
        }
        sentence(17, "UNKNOWN: one, other (there is no FORM on it), to (there is no such SHELF)");
        Used x = with(RANKS);
        due("join(4, 0, 0)", x.join(4, 0, 0), UNKNOWN);
        due("join(0, 4, 0)", x.join(0, 4, 0), UNKNOWN);
        due("join(-1, 0, 0)", x.join(-1, 0, 0), UNKNOWN);
        due("join(0, 8, 0)", x.join(0, 8, 0), UNKNOWN);
        for (int far : FAR) {
            due("join(" + far + ", 0, 0)", x.join(far, 0, 0), UNKNOWN);
            due("join(0, " + far + ", 0)", x.join(0, far, 0), UNKNOWN);
            due("join(0, 0, " + far + ")", x.join(0, 0, far), UNKNOWN);
        }
        due("count(8)", x.count(8), 4);
    }

    private static void joinOntoItself() {
        sentence(17, "of another one (or the same), come as a FORM to a SHELF (what was there is gone)");
        Used x = with("2,3", "5");
        due("join(0, 0, 0)", x.join(0, 0, 0), 4);
        dueForm(x, 0, "2,3,2,3");
        x.undo();
        due("join(1, 0, 1)", x.join(1, 0, 1), 3);
        dueForm(x, 1, "5,2,3");
        x.undo();
        due("join(0, 1, 1)", x.join(0, 1, 1), 3);
        dueForm(x, 1, "2,3,5");
        dueForm(x, 0, "2,3");
    }

    private static void timesUpToFour() {
        sentence(18, "its RANK .. FULL: above four TERMS");
        for (int one = 0; one < 4; one++) {
            for (int other = 0; other < 4; other++) {
                Used x = with(RANKS);
                int rank = (one + 1) * (other + 1);
                due("times(" + one + ", " + other + ", 7)", x.times(one, other, 7), rank <= 4 ? rank : FULL);
                due("count(0)", x.count(0), rank <= 4 ? 5 : 4);
                due("UNKNOWN and FULL: the first as told", x.times(one, other, 8), UNKNOWN);
                due("UNKNOWN and FULL: the first as told", x.times(one, other, -1), UNKNOWN);
            }
        }
        sentence(18, "UNKNOWN: one, other (there is no FORM on it), to (there is no such SHELF)");
        Used x = with(RANKS);
        due("times(4, 0, 0)", x.times(4, 0, 0), UNKNOWN);
        due("times(0, 4, 0)", x.times(0, 4, 0), UNKNOWN);
        due("times(-1, 0, 0)", x.times(-1, 0, 0), UNKNOWN);
        due("times(0, 8, 0)", x.times(0, 8, 0), UNKNOWN);
        for (int far : FAR) {
            due("times(" + far + ", 0, 0)", x.times(far, 0, 0), UNKNOWN);
            due("times(0, " + far + ", 0)", x.times(0, far, 0), UNKNOWN);
            due("times(0, 0, " + far + ")", x.times(0, 0, far), UNKNOWN);
        }
        due("count(8)", x.count(8), 4);
    }

    private static void timesOntoItself() {
        sentence(18, "by each of another one (or the same), in order");
        Used x = with("2,-3", "5,7", "-1", "1,2,3,5");
        due("times(0, 0, 0)", x.times(0, 0, 0), 4);
        dueForm(x, 0, "1,-6,-6,1");
        x.undo();
        due("times(0, 1, 1)", x.times(0, 1, 1), 4);
        dueForm(x, 1, "10,14,-15,-21");
        x.undo();
        due("times(1, 0, 1)", x.times(1, 0, 1), 4);
        dueForm(x, 1, "10,-15,14,-21");
        due("times(3, 2, 3)", x.times(3, 2, 3), 4);
        dueForm(x, 3, "-1,-2,-3,-5");
        due("times(2, 2, 2)", x.times(2, 2, 2), 1);
        dueForm(x, 2, "1");
    }

    private static void scaleTellsDet() {
        sentence(19, "DET then. UNKNOWN: shelf (there is no FORM on it); OUTSIDE: number is none");
        Used x = with("2", "2,3", "2,3,5", "2,3,5,7");
        // DETs of odd RANKS change by -3, those of even ones do not.
        int[] det = {7, 6, 11, 30};
        for (int shelf = 0; shelf < 4; shelf++) due("scale(" + shelf + ", -3)", x.scale(shelf, -3), det[shelf]);
        dueForm(x, 0, "-6");
        dueForm(x, 3, "-6,-1,-15,-21");
        due("scale(0, 99)", x.scale(0, 99), 39);
        due("scale(0, -99)", x.scale(0, -99), 6);
        due("scale(0, 0)", x.scale(0, 0), OUTSIDE);
        due("scale(0, 17)", x.scale(0, 17), OUTSIDE);
        due("scale(0, 100)", x.scale(0, 100), OUTSIDE);
        due("scale(0, -100)", x.scale(0, -100), OUTSIDE);
        due("scale(4, 1)", x.scale(4, 1), UNKNOWN);
        due("scale(8, 1)", x.scale(8, 1), UNKNOWN);
        due("scale(-1, 1)", x.scale(-1, 1), UNKNOWN);
        due("both: the first as told", x.scale(4, 0), UNKNOWN);
        due("both: the first as told", x.scale(8, 17), UNKNOWN);
        for (int far : FAR) {
            due("scale(0, " + far + ")", x.scale(0, far), OUTSIDE);
            due("scale(" + far + ", 1)", x.scale(far, 1), UNKNOWN);
        }
    }

    private static void turnNumbers() {
        sentence(20, "UNKNOWN: shelf .., i, j; OUTSIDE: x, y (0 to 15)");
        Used x = with("2,3,5,7", "1,-1");
        due("turn by 15, 0", x.turn(0, 0, 3, 15, 0), 2);
        due("turn by 0, 15", x.turn(0, 3, 0, 0, 15), 2);
        dueForm(x, 0, "7,3,5,2");
        due("turn by 16, 0", x.turn(0, 0, 3, 16, 0), OUTSIDE);
        due("turn by 0, 16", x.turn(0, 0, 3, 0, 16), OUTSIDE);
        due("turn by -1, 0", x.turn(0, 0, 3, -1, 0), OUTSIDE);
        due("turn by 0, -1", x.turn(0, 0, 3, 0, -1), OUTSIDE);
        due("turn of -1", x.turn(0, -1, 0, 1, 1), UNKNOWN);
        due("turn of -1", x.turn(0, 0, -1, 1, 1), UNKNOWN);
        due("turn of 4", x.turn(0, 4, 0, 1, 1), UNKNOWN);
        due("turn of 4", x.turn(0, 0, 4, 1, 1), UNKNOWN);
        due("turn on 1 of 2", x.turn(1, 0, 2, 1, 1), UNKNOWN);
        due("turn on 2", x.turn(2, 0, 1, 1, 1), UNKNOWN);
        due("turn on 8", x.turn(8, 0, 1, 1, 1), UNKNOWN);
        due("turn on -1", x.turn(-1, 0, 1, 1, 1), UNKNOWN);
        due("UNKNOWN and OUTSIDE: the first as told", x.turn(0, 0, 4, 16, 1), UNKNOWN);
        due("UNKNOWN and STATE: the first as told", x.turn(0, 4, 4, 1, 1), UNKNOWN);
        due("UNKNOWN and STATE: the first as told", x.turn(2, 0, 0, 0, 0), UNKNOWN);
        due("OUTSIDE and STATE: the first as told", x.turn(0, 1, 1, 16, 1), OUTSIDE);
        due("OUTSIDE and STATE: the first as told", x.turn(1, 0, 1, 16, 16), OUTSIDE);
        due("OUTSIDE and STATE: the first as told", x.turn(1, 0, 1, -1, -1), OUTSIDE);
        for (int far : FAR) {
            due("turn on " + far, x.turn(far, 0, 1, 1, 1), UNKNOWN);
            due("turn of " + far, x.turn(0, far, 1, 1, 1), UNKNOWN);
            due("turn of " + far, x.turn(0, 1, far, 1, 1), UNKNOWN);
            due("turn by " + far, x.turn(0, 0, 1, far, 1), OUTSIDE);
            due("turn by " + far, x.turn(0, 0, 1, 1, far), OUTSIDE);
        }
        dueForm(x, 0, "7,3,5,2");
    }

    private static void turnStates() {
        sentence(20, "STATE: i is j, or C is 0");
        Used x = with("1,-1", "2", "3,5,7,11");
        due("i is j", x.turn(0, 0, 0, 1, 1), STATE);
        due("i is j", x.turn(0, 1, 1, 1, 0), STATE);
        due("i is j", x.turn(1, 0, 0, 1, 0), STATE);
        due("i is j", x.turn(2, 3, 3, 1, 0), STATE);
        due("C is 0", x.turn(0, 0, 1, 1, 1), STATE);
        due("C is 0", x.turn(0, 0, 1, 15, 15), STATE);
        due("C is 0", x.turn(0, 0, 1, 0, 0), STATE);
        due("C is 0", x.turn(2, 0, 3, 0, 0), STATE);
        due("count(8)", x.count(8), 3);
        due("C is not 0", x.turn(0, 0, 1, 1, 0), 1);
        due("C is not 0", x.turn(0, 0, 1, 15, 14), STATE);
        due("C is not 0", x.turn(0, 0, 1, 5, 3), 1);
        due("C below 0", x.turn(0, 0, 1, 3, 5), -1);
        dueForm(x, 0, "-1,1");
    }

    private static void turnOfOthers() {
        sentence(20, "or it is not the CORE of its CLASS times the square of a whole number");
        Used x = with("1,1", "1,2", "1,3", "1,-2");
        due("C is 17", x.turn(0, 0, 1, 4, 1), STATE);
        due("C is 34", x.turn(0, 0, 1, 5, 3), STATE);
        due("C is 289", x.turn(0, 0, 1, 8, 15), 1);
        due("C is 13", x.turn(0, 0, 1, 2, 3), 13);
        dueForm(x, 0, "13,13");
        due("C is 19", x.turn(2, 0, 1, 4, 1), STATE);
        due("C is 361", x.turn(2, 0, 1, 13, 8), 1);
        due("C is -17", x.turn(3, 0, 1, 1, 3), STATE);
        due("C is -289", x.turn(3, 0, 1, 7, 13), -1);
        dueForm(x, 3, "-1,2");
        due("C is 9", x.turn(1, 0, 1, 1, 2), 1);
        due("C is 3", x.turn(1, 1, 0, 1, 1), 3);
        dueForm(x, 1, "6,3");
    }

    private static void turnOfLargest() {
        sentence(20, "C is the CORE of the TERM i times x times x, and that of the TERM j times y times y");
        Used x = with("66,66", "66,-66", "66,33");
        for (int shelf = 0; shelf < 3; shelf++) {
            x.scale(shelf, 35);
            x.scale(shelf, 13);
        }
        dueForm(x, 0, "30030,30030");
        due("C is 13513500", x.turn(0, 0, 1, 15, 15), 15015);
        dueForm(x, 0, "15015,15015");
        due("C is -6756750", x.turn(1, 0, 1, 0, 15), -30030);
        dueForm(x, 1, "-30030,30030");
        due("C of 11", x.turn(1, 1, 0, 6, 5), 2730);
        dueForm(x, 1, "-2730,2730");
        due("C of 3 by 15015", x.turn(2, 0, 1, 1, 1), 5005);
        dueForm(x, 2, "5005,10010");
    }

    private static void dropFirstAndLast() {
        sentence(21, "(those behind it have numbers 1 less): RANK then");
        String[] dropped = {"3,5,7", "2,5,7", "2,3,7", "2,3,5"};
        for (int term = 0; term < 4; term++) {
            Used x = with("2,3,5,7");
            due("drop(0, " + term + ")", x.drop(0, term), 3);
            dueForm(x, 0, dropped[term]);
            due("at(0, 3)", x.at(0, 3), UNKNOWN);
        }
    }

    private static void dropOnlyOne() {
        sentence(21, "UNKNOWN: shelf (there is no FORM on it), term; STATE: it is the only one");
        Used x = with("2,3", "5");
        due("drop(0, 2)", x.drop(0, 2), UNKNOWN);
        due("drop(0, -1)", x.drop(0, -1), UNKNOWN);
        due("drop(0, 1)", x.drop(0, 1), 1);
        due("drop(0, 0)", x.drop(0, 0), STATE);
        due("both: the first as told", x.drop(0, 1), UNKNOWN);
        due("both: the first as told", x.drop(0, -1), UNKNOWN);
        due("drop(1, 0)", x.drop(1, 0), STATE);
        due("drop(2, 0)", x.drop(2, 0), UNKNOWN);
        due("drop(8, 0)", x.drop(8, 0), UNKNOWN);
        due("drop(-1, 0)", x.drop(-1, 0), UNKNOWN);
        for (int far : FAR) {
            due("drop(1, " + far + ")", x.drop(1, far), UNKNOWN);
            due("drop(" + far + ", 0)", x.drop(far, 0), UNKNOWN);
        }
        dueForm(x, 0, "2");
        dueForm(x, 1, "5");
        due("count(8)", x.count(8), 3);
    }

    // ---- pairs

    private static void pairsOthersNoMore() {
        sentence(23, "PAIRS of N are open (others no more): how many");
        Used x = new Used();
        due("pairs(159)", x.pairs(159), 10);
        due("pair(9, 0)", x.pair(9, 0), 6);
        due("pairs(3)", x.pairs(3), 1);
        due("pair(0, 2)", x.pair(0, 2), 1);
        due("pair(1, 0)", x.pair(1, 0), UNKNOWN);
        due("pair(9, 0)", x.pair(9, 0), UNKNOWN);
        due("met(0, 3)", x.met(0, 3), OUTSIDE);
        due("met(0, 2)", x.met(0, 2), 0);
        due("pairs(160)", x.pairs(160), 4);
        due("count(5)", x.count(5), 160);
        due("pairs(160) again", x.pairs(160), 4);
        due("count(6)", x.count(6), 4);
    }

    private static void pairsRefusedStayOpen() {
        sentence(23, "OUTSIDE: n (as told)");
        int[] outside = {2, 1, 0, -1, -3, -4, 5, 6, 157, 158, 161, 163, 164, 1003};
        for (int n : outside) {
            Used x = new Used();
            x.pairs(23);
            due("pairs(" + n + ")", x.pairs(n), OUTSIDE);
            due("count(5)", x.count(5), 23);
            duePair(x, 2, 2, 1, 3, 0, 11);
        }
        for (int far : FAR) due("pairs(" + far + ")", new Used().pairs(far), OUTSIDE);
    }

    private static void pairWhats() {
        sentence(24, "what = 0 A .. 4 how many rests it MEETS. UNKNOWN: pair (or none are open); OUTSIDE");
        Used x = new Used();
        due("pair(0, 0), none open", x.pair(0, 0), UNKNOWN);
        due("none open, and outside: the first as told", x.pair(0, 5), UNKNOWN);
        x.pairs(23);
        due("pair(-1, 0)", x.pair(-1, 0), UNKNOWN);
        due("pair(0, -1)", x.pair(0, -1), OUTSIDE);
        duePair(x, 0, 1, 1, 6, 0, 11);
        due("pair(0, 5)", x.pair(0, 5), OUTSIDE);
        duePair(x, 2, 2, 1, 3, 0, 11);
        due("pair(3, 0)", x.pair(3, 0), UNKNOWN);
        due("both: the first as told", x.pair(3, 5), UNKNOWN);
        due("both: the first as told", x.pair(-1, -1), UNKNOWN);
        for (int far : FAR) {
            due("pair(0, " + far + ")", x.pair(0, far), OUTSIDE);
            due("pair(" + far + ", 0)", x.pair(far, 0), UNKNOWN);
        }
    }

    private static void metRests() {
        sentence(25, "UNKNOWN: pair (or none are open); OUTSIDE: rest (0 to N - 1)");
        Used x = new Used();
        due("met(0, 0), none open", x.met(0, 0), UNKNOWN);
        due("none open, and outside: the first as told", x.met(0, -1), UNKNOWN);
        int[] ns = {3, 4, 23, 64, 128, 159, 160};
        for (int n : ns) {
            int size = x.pairs(n);
            due("met(0, -1) of " + n, x.met(0, -1), OUTSIDE);
            due("met(0, 0) of " + n, x.met(0, 0), 0);
            due("met(0, 1) of " + n, x.met(0, 1), 1);
            due("met(0, N - 1) of " + n, x.met(0, n - 1), 0);
            due("met(0, N) of " + n, x.met(0, n), OUTSIDE);
            due("met(-1, 1) of " + n, x.met(-1, 1), UNKNOWN);
            due("met(size - 1, N) of " + n, x.met(size - 1, n), OUTSIDE);
            due("met(size, 1) of " + n, x.met(size, 1), UNKNOWN);
            due("both: the first as told", x.met(size, n), UNKNOWN);
            due("both: the first as told", x.met(-1, -1), UNKNOWN);
        }
        for (int far : FAR) {
            due("met(0, " + far + ")", x.met(0, far), OUTSIDE);
            due("met(" + far + ", 0)", x.met(far, 0), UNKNOWN);
        }
    }

    private static void layShelves() {
        sentence(26, "The FORM of a PAIR comes to a SHELF (what was there is gone): its DET. UNKNOWN: pair (or none are open), shelf");
        Used x = with("2,3,5,7");
        due("lay(0, 0), none open", x.lay(0, 0), UNKNOWN);
        x.pairs(84);
        due("lay(0, 0)", x.lay(0, 0), 20);
        dueForm(x, 0, "1,21");
        due("at(0, 2)", x.at(0, 2), UNKNOWN);
        due("lay(3, 7)", x.lay(3, 7), 20);
        dueForm(x, 7, "5,105");
        due("lay(-1, 0)", x.lay(-1, 0), UNKNOWN);
        due("lay(4, 0)", x.lay(4, 0), UNKNOWN);
        due("lay(0, -1)", x.lay(0, -1), UNKNOWN);
        due("lay(0, 8)", x.lay(0, 8), UNKNOWN);
        for (int far : FAR) {
            due("lay(0, " + far + ")", x.lay(0, far), UNKNOWN);
            due("lay(" + far + ", 0)", x.lay(far, 0), UNKNOWN);
        }
        due("count(8)", x.count(8), 3);
    }

    private static void layGreatPrimes() {
        sentence(26, "STATE: a prime above 13 goes into N");
        for (int n = 3; n <= 160; n++) {
            Used x = new Used();
            if (x.pairs(n) == OUTSIDE) continue;
            boolean great = false;
            for (int k = 17; k <= n; k++) {
                boolean prime = true;
                for (int d = 2; d < k; d++) prime &= k % d != 0;
                great |= prime && n % k == 0;
            }
            due("lay(0, 0) of " + n + " refused", x.lay(0, 0) == STATE ? 1 : 0, great ? 1 : 0);
            due("count(0)", x.count(0), great ? 0 : 1);
            due("UNKNOWN and STATE: the first as told", x.lay(0, 8), UNKNOWN);
            due("UNKNOWN and STATE: the first as told", x.lay(-1, 0), UNKNOWN);
        }
        Used x = new Used();
        x.pairs(52);
        due("lay(0, 0), 13 goes into 52", x.lay(0, 0), 64);
        x.pairs(68);
        due("lay(0, 0), 17 goes into 68", x.lay(0, 0), STATE);
    }

    // ---- what is told of all

    private static void countOfNothing() {
        sentence(27, "5 N of the PAIRS that are open (0: none are)");
        Used x = new Used();
        dueCounts(x, 0, 0, 0, 0, 0, 0, 0, 0, 0, 0);
        put(x, 3, "2,3");
        x.clear(3);
        dueCounts(x, 0, 0, 0, 2, 0, 0, 0, 0, 2, 0);
        x.undo();
        dueCounts(x, 1, 2, 1, 1, 0, 0, 0, 0, 2, 1);
    }

    private static void countOfFull() {
        sentence(27, "How many: 0 SHELVES .. 9 STEPS that ever were undone", "all full");
        Used x = with("1,1,1,1", "1,1,1,2", "1,1,1,3", "1,1,1,5", "1,1,1,6", "1,1,1,7", "1,1,1,10", "1,1,1,11");
        for (int k = 0; k < 5; k++) x.scale(0, 6);
        for (int k = 0; k < 18; k++) x.letter('1');
        x.pairs(159);
        dueCounts(x, 8, 32, 8, 12, 18, 159, 10, 2, 13, 0);
        for (int k = 0; k < 13; k++) x.undo();
        dueCounts(x, 1, 4, 1, 0, 18, 159, 10, 2, 13, 12);
    }

    private static void countUnlike() {
        sentence(27, "2 FORMS of which no two are LIKE, at most");
        Used x = with("1,1", "2,2", "5,5", "10,10", "13,13", "26,26", "65,65", "1,4");
        due("count(2), all LIKE", x.count(2), 1);
        put(x, 3, "3,3");
        due("count(2)", x.count(2), 2);
        put(x, 0, "6,6");
        due("count(2)", x.count(2), 2);
        put(x, 7, "1");
        due("count(2)", x.count(2), 3);
        x.clear(7);
        due("count(2)", x.count(2), 2);
    }

    private static void countWhats() {
        sentence(27, "OUTSIDE.");
        Used x = with("1");
        due("count(-1)", x.count(-1), OUTSIDE);
        due("count(0)", x.count(0), 1);
        due("count(9)", x.count(9), 0);
        due("count(10)", x.count(10), OUTSIDE);
        for (int far : FAR) due("count(" + far + ")", x.count(far), OUTSIDE);
    }

    /** h by whole numbers of any size, then its last 64 bits. */
    private static long digestOf(List<Integer> told) {
        BigInteger h = BigInteger.valueOf(1487);
        for (int number : told) h = h.multiply(BigInteger.valueOf(31)).add(BigInteger.valueOf(number));
        return h.longValue();
    }

    /** What digest() is made of, asked of the other calls; the letters are known. */
    private static List<Integer> toldByOthers(Used x, String page) {
        List<Integer> told = new ArrayList<>();
        for (int shelf = 0; shelf < 8; shelf++) {
            int rank = x.about(shelf, 0);
            if (rank == UNKNOWN) {
                told.add(0);
                continue;
            }
            for (int what = 0; what <= 8; what++) told.add(x.about(shelf, what));
            for (int term = 0; term < rank; term++) told.add(x.at(shelf, term));
        }
        int size = x.count(6);
        for (int pair = 0; pair < size; pair++) for (int what = 0; what <= 4; what++) told.add(x.pair(pair, what));
        for (int k = 0; k < page.length(); k++) told.add((int) page.charAt(k));
        for (int what = 0; what <= 9; what++) told.add(x.count(what));
        return told;
    }

    private static void dueDigest(Used x, String page) {
        due("digest()", x.digest(), digestOf(toldByOthers(x, page)));
        due("digest() again", x.digest(), x.digest());
    }

    private static void digestOfNew() {
        sentence(28, "of each SHELF 0, if there is no FORM on it");
        Used x = new Used();
        List<Integer> zeros = new ArrayList<>();
        for (int k = 0; k < 18; k++) zeros.add(0);
        due("digest()", x.digest(), digestOf(zeros));
        dueDigest(x, "");
    }

    private static void digestOfAll() {
        sentence(28, "else what about() tells for 0 to 8, then at() of each TERM; of each PAIR what pair() tells for 0 to 4");
        Used x = with("1,1,-2", "", "-7", "1,1,1,1", "2,-2", "", "", "3,5,7,-11");
        dueDigest(x, "");
        x.pairs(23);
        dueDigest(x, "");
        x.undo();
        dueDigest(x, "");
        x.clear(0);
        x.pairs(159);
        dueDigest(x, "");
    }

    private static void digestWraps() {
        sentence(28, "31 times h, and it (as longs, wrapping)");
        // 18 numbers bring 1487 times 31 to the 18 beyond 64 bits already for a new object.
        BigInteger h = BigInteger.valueOf(1487).multiply(BigInteger.valueOf(31).pow(18));
        due("bits of it", h.bitLength() > 64 ? 1 : 0, 1);
        due("digest()", new Used().digest(), h.longValue());
        Used below = with("-1,-1,-1,-1", "-2", "-3", "-5", "-6", "-7", "-10", "-99,-98,-96,-91");
        below.pairs(159);
        dueDigest(below, "");
    }

    private static void digestOfFullPage() {
        sentence(28, "letters of THE PAGE");
        String[] pages = {"~", " ", "-7", "1,2,3,5", "-99,-98,-96,-91,-9"};
        for (String page : pages) {
            Used x = with("1,1,-2");
            type(x, page);
            dueDigest(x, page);
            x.blank();
            dueDigest(x, "");
        }
        Used one = new Used(), other = new Used();
        type(one, "12");
        type(other, "21");
        due("in order", one.digest() == other.digest() ? 1 : 0, 0);
    }

    /** What about() tells of a FORM does not depend on how it came to its SHELF. */
    private static void dueAnew(Used x, int shelf, String text) {
        dueForm(x, shelf, text);
        Used anew = with(text);
        for (int what = 0; what <= 7; what++)
            due("about(" + shelf + ", " + what + ") of " + text, x.about(shelf, what), anew.about(0, what));
    }

    private static void toldAsOfOnePutAnew() {
        sentence(11, "What = 0 RANK, 1 ABOVE, 2 DET, 3 HASSE", "of the FORM that lies there now");
        Used x = with("-1,-1", "3,-7", "2,5", "-3");
        x.pairs(84);
        x.join(0, 1, 4);
        dueAnew(x, 4, "-1,-1,3,-7");
        x.drop(4, 0);
        dueAnew(x, 4, "-1,3,-7");
        x.turn(0, 0, 1, 1, 2);
        dueAnew(x, 0, "-5,-5");
        x.turn(1, 1, 0, 1, 1);
        // -7 and 3 make -4, which is -1 times 2 times 2.
        dueAnew(x, 1, "21,-1");
        x.times(3, 2, 5);
        dueAnew(x, 5, "-6,-15");
        x.scale(5, -2);
        dueAnew(x, 5, "3,30");
        x.lay(3, 5);
        x.drop(5, 1);
        dueAnew(x, 5, "5");
        x.join(5, 3, 5);
        dueAnew(x, 5, "5,-3");
        x.undo();
        dueAnew(x, 5, "5");
        x.join(1, 0, 1);
        dueAnew(x, 1, "21,-1,-5,-5");
        x.undo();
        dueAnew(x, 1, "21,-1");
    }

    private static void lastCall() {
        sentence(0, "An object is used for at most 512 calls after it has been made");
        Used x = with("1,1,-2");
        x.pairs(84);
        long digest = x.digest();
        while (x.calls() < Used.MOST_CALLS - 6) x.digest();
        due("about(0, 5)", x.about(0, 5), 1);
        due("row(0, 2)", x.row(0, 2), 1);
        due("way(0, 77, 0)", x.way(0, 77, 0), 6);
        due("pair(3, 0)", x.pair(3, 0), 5);
        due("fault()", x.fault(), 0);
        due("digest(), the 512th call", x.digest(), digest);
    }
}
