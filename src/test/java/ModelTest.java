/** FormPlaces against LiteralModel: all inputs where these are few, else long runs of calls picked by a fixed rule. */
public final class ModelTest extends Check {
    private static final int RUNS = 700;
    /** No round makes more calls than this. */
    private static final int CALLS_OF_ROUND = 70;
    private static long seed;

    /** A fixed rule, so that each test is the same each time. */
    private static int pick(int below) {
        seed = seed * 6364136223846793005L + 1442695040888963407L;
        return (int) ((seed >>> 33) % below);
    }

    public static void main(String[] args) {
        allNumbers();
        allSymbols();
        allPairs();
        for (int run = 0; run < RUNS; run++) oneRun(run);
        end("ModelTest");
    }

    private static void allNumbers() {
        LiteralModel m = new LiteralModel();
        for (int k = -300; k <= 300; k++) {
            Used x = new Used();
            due("classOf(" + k + ")", x.classOf(k), m.classOf(k));
            due("core(" + k + ")", x.core(k), m.core(k));
            for (int place = -2; place <= 8; place++)
                due("square(" + k + ", " + place + ")", x.square(k, place), m.square(k, place));
        }
    }

    private static void allSymbols() {
        LiteralModel m = new LiteralModel();
        for (int one = -1; one <= 128; one++)
            for (int other = -1; other <= 128; other++) {
                Used x = new Used();
                for (int place = -1; place <= 7; place++)
                    due("symbol(" + one + ", " + other + ", " + place + ")",
                            x.symbol(one, other, place), m.symbol(one, other, place));
            }
    }

    private static void allPairs() {
        for (int n = -9; n <= 170; n++) {
            LiteralModel m = new LiteralModel();
            m.pairs(n);
            for (int pair = -1; pair <= m.count(6); pair++) onePair(n, pair);
        }
    }

    private static void onePair(int n, int pair) {
        Used x = new Used();
        LiteralModel m = new LiteralModel();
        String told = n + ": pair " + pair + ", ";
        due(told + "pairs", x.pairs(n), m.pairs(n));
        for (int what = -1; what <= 5; what++) due(told + what, x.pair(pair, what), m.pair(pair, what));
        for (int rest = -1; rest <= n; rest++) due(told + "met " + rest, x.met(pair, rest), m.met(pair, rest));
        due(told + "lay", x.lay(pair, 3), m.lay(pair, 3));
        for (int what = 0; what <= 8; what++) due(told + "about " + what, x.about(3, what), m.about(3, what));
        for (int what = 0; what <= 9; what++) due(told + "count " + what, x.count(what), m.count(what));
        due(told + "digest", x.digest(), m.digest());
    }

    private static int someNumber() {
        int number = pick(3) == 0 ? pick(205) - 102 : pick(25) - 12;
        return number;
    }

    private static int someShelf() {
        return pick(30) == 0 ? pick(2) * 9 - 1 : pick(8);
    }

    private static int someTerm() {
        return pick(6) - pick(2) * pick(2);
    }

    private static void type(Used x, LiteralModel m, String text) {
        for (int k = 0; k < text.length(); k++) {
            int code = text.charAt(k);
            due("letter(" + code + ")", x.letter(code), m.letter(code));
        }
    }

    private static String someText() {
        StringBuilder text = new StringBuilder();
        int terms = 1 + pick(pick(20) == 0 ? 6 : 4);
        for (int k = 0; k < terms; k++) {
            int number = someNumber();
            while (pick(40) != 0 && !LiteralModel.isNumber(number)) number = someNumber();
            text.append(k == 0 ? "" : ",").append(number);
        }
        if (pick(12) == 0) text.insert(pick(text.length() + 1), "0-,9 1".charAt(pick(6)));
        return text.toString();
    }

    private static void oneRun(int run) {
        seed = 77 + run;
        Used x = new Used();
        LiteralModel m = new LiteralModel();
        for (int round = 0; x.calls() < Used.MOST_CALLS - CALLS_OF_ROUND; round++) {
            String told = "run " + run + ", round " + round + ": ";
            int kind = pick(100);
            if (kind < 30) changeStep(told, x, m);
            else if (kind < 55) texts(told, x, m);
            else if (kind < 90) forms(told, x, m);
            else pairs(told, x, m);
            if (round % 5 == 0) due(told + "digest()", x.digest(), m.digest());
        }
        for (int what = -1; what <= 10; what++) due("run " + run + " count " + what, x.count(what), m.count(what));
        for (int k = 0; k < 13; k++) {
            due("run " + run + " last undo()", x.undo(), m.undo());
            due("run " + run + " last digest()", x.digest(), m.digest());
        }
    }

    private static void texts(String told, Used x, LiteralModel m) {
        if (pick(4) == 0) {
            int code = pick(2) == 0 ? "0123456789-,,--12".charAt(pick(17)) : pick(140) - 5;
            due(told + "letter(" + code + ")", x.letter(code), m.letter(code));
        } else {
            if (pick(8) != 0) due(told + "blank()", x.blank(), m.blank());
            type(x, m, someText());
        }
        due(told + "fault()", x.fault(), m.fault());
        if (pick(8) != 0) {
            int shelf = someShelf();
            due(told + "put(" + shelf + ")", x.put(shelf), m.put(shelf));
        }
    }

    private static void forms(String told, Used x, LiteralModel m) {
        int shelf = someShelf(), other = someShelf(), term = someTerm(), number = someNumber(), what = pick(11) - 1;
        due(told + "at(" + shelf + ", " + term + ")", x.at(shelf, term), m.at(shelf, term));
        due(told + "about(" + shelf + ", " + what + ")", x.about(shelf, what), m.about(shelf, what));
        due(told + "like(" + shelf + ", " + other + ")", x.like(shelf, other), m.like(shelf, other));
        due(told + "meets(" + shelf + ", " + number + ")", x.meets(shelf, number), m.meets(shelf, number));
        if (pick(2) == 0) due(told + "row(" + shelf + ", " + term + ")", x.row(shelf, term), m.row(shelf, term));
        else due(told + "way(" + shelf + ", " + number + ", " + term + ")",
                x.way(shelf, number, term), m.way(shelf, number, term));
    }

    private static void changeStep(String told, Used x, LiteralModel m) {
        int one = someShelf(), other = someShelf(), to = someShelf(), number = someNumber();
        int i = someTerm(), j = someTerm(), a = pick(18) - 1, b = pick(18) - 1;
        switch (pick(12)) {
            case 0: due(told + "clear " + one, x.clear(one), m.clear(one)); break;
            case 1: case 2: due(told + "join", x.join(one, other, to), m.join(one, other, to)); break;
            case 3: case 4: due(told + "times", x.times(one, other, to), m.times(one, other, to)); break;
            case 5: due(told + "scale", x.scale(one, number), m.scale(one, number)); break;
            case 6: case 7: case 8: due(told + "turn", x.turn(one, i, j, a, b), m.turn(one, i, j, a, b)); break;
            case 9: due(told + "drop", x.drop(one, i), m.drop(one, i)); break;
            default:
                for (int k = pick(pick(10) == 0 ? 15 : 3); k >= 0; k--) due(told + "undo", x.undo(), m.undo());
        }
    }

    private static void pairs(String told, Used x, LiteralModel m) {
        int n = pick(5) == 0 ? pick(170) - 3 : 3 + 4 * pick(40) + pick(2);
        if (pick(3) == 0) due(told + "pairs(" + n + ")", x.pairs(n), m.pairs(n));
        int pair = pick(8) - pick(2), what = pick(7) - 1, rest = pick(170) - 2, shelf = someShelf();
        due(told + "pair(" + pair + ", " + what + ")", x.pair(pair, what), m.pair(pair, what));
        due(told + "met(" + pair + ", " + rest + ")", x.met(pair, rest), m.met(pair, rest));
        if (pick(3) == 0) due(told + "lay(" + pair + ", " + shelf + ")", x.lay(pair, shelf), m.lay(pair, shelf));
    }
}
