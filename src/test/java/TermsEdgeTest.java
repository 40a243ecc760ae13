/** The sentences of 'Terms' that name a boundary case, each with a test of its own. */
public final class TermsEdgeTest extends Check {
    private static final int[] PRIMES = {2, 3, 5, 7, 11, 13};

    public static void main(String[] args) {
        placesFromZeroToSix();
        placesOfThePrimes();
        classesFromZeroToAll();
        coreOfNoPrimeAndOfAll();
        coreBelowZero();
        classByOddTimes();
        classOfOtherPrimes();
        numbersFromEndToEnd();
        numbersWithoutZero();
        numbersWithoutGreatPrimes();
        squareAtTheRealOne();
        squareBySixteen();
        squareByPrimeTimesPrime();
        squareOfMultiples();
        symbolAtTheRealOne();
        symbolNotOfMultiplesAlone();
        symbolBySixteen();
        formOfOneToFour();
        shelvesFromZeroToSeven();
        shelvesOneFormOnEach();
        textsOfNumbers();
        textsBetween();
        textsToTheLongest();
        aboveOfNoneAndAll();
        detAndHasseOfOne();
        vanishesAtTheRealOne();
        vanishesByOne();
        vanishesByFive();
        barsOfNothingAndAll();
        planesByBars();
        planesOfFour();
        restWithoutTerms();
        restWithoutPlanes();
        restWithTermsLeft();
        meetsByOneMore();
        likeOfUnlikeRanks();
        likeAtTheRealOne();
        likeAtPrimes();
        end("TermsEdgeTest");
    }

    // ---- places, classes, numbers

    private static void placesFromZeroToSix() {
        sentence(0, "PLACES are numbered from 0 .. 0 the REAL one; 1 to 6 those of the PRIMES");
        Used x = new Used();
        due("square(0, -1)", x.square(0, -1), UNKNOWN);
        due("square(0, 0)", x.square(0, 0), 1);
        due("square(0, 6)", x.square(0, 6), 1);
        due("square(0, 7)", x.square(0, 7), UNKNOWN);
        due("symbol(1, 1, -1)", x.symbol(1, 1, -1), UNKNOWN);
        due("symbol(1, 1, 0)", x.symbol(1, 1, 0), -1);
        due("symbol(64, 2, 6)", x.symbol(64, 2, 6), -1);
        due("symbol(64, 2, 7)", x.symbol(64, 2, 7), UNKNOWN);
    }

    private static void placesOfThePrimes() {
        sentence(0, "2, 3, 5, 7, 11, 13");
        // 5, 2, 2, 3, 2, 2 are no squares at the PRIMES in order.
        int[] unsquare = {8, 2, 2, 4, 2, 2};
        for (int place = 1; place <= 6; place++) {
            Used x = new Used();
            due("core(bit of " + place + ")", x.core(1 << place), PRIMES[place - 1]);
            due("symbol at its own PLACE " + place, x.symbol(1 << place, unsquare[place - 1], place), -1);
            due("symbol at the REAL one", x.symbol(1 << place, unsquare[place - 1], 0), 1);
        }
    }

    private static void classesFromZeroToAll() {
        sentence(0, "A CLASS is a number from 0 to 127");
        Used x = new Used();
        due("core(-1)", x.core(-1), OUTSIDE);
        due("core(0)", x.core(0), 1);
        due("core(127)", x.core(127), -30030);
        due("core(128)", x.core(128), OUTSIDE);
        due("square(-1, 0)", x.square(-1, 0), OUTSIDE);
        due("square(0, 0)", x.square(0, 0), 1);
        due("square(127, 0)", x.square(127, 0), 0);
        due("square(128, 0)", x.square(128, 0), OUTSIDE);
        due("symbol(-1, 0, 0)", x.symbol(-1, 0, 0), OUTSIDE);
        due("symbol(0, -1, 0)", x.symbol(0, -1, 0), OUTSIDE);
        due("symbol(0, 0, 0)", x.symbol(0, 0, 0), 1);
        due("symbol(127, 127, 0)", x.symbol(127, 127, 0), -1);
        due("symbol(128, 127, 0)", x.symbol(128, 127, 0), OUTSIDE);
        due("symbol(127, 128, 0)", x.symbol(127, 128, 0), OUTSIDE);
    }

    private static void coreOfNoPrimeAndOfAll() {
        sentence(0, "the PRIMES whose bits are there, multiplied (1, if there are none)");
        Used x = new Used();
        due("core(0)", x.core(0), 1);
        due("core(2)", x.core(2), 2);
        due("core(64)", x.core(64), 13);
        due("core(126)", x.core(126), 30030);
        due("core(62)", x.core(62), 2310);
        due("core(124)", x.core(124), 15015);
    }

    private static void coreBelowZero() {
        sentence(0, "below 0 if the bit of the REAL one is there");
        for (int kind = 0; kind < 128; kind += 2) {
            Used x = new Used();
            int core = x.core(kind);
            due("core(" + kind + ") above 0", core > 0 ? 1 : 0, 1);
            due("core(" + (kind + 1) + ")", x.core(kind + 1), -core);
        }
    }

    private static void classByOddTimes() {
        sentence(0, "the bit of a PRIME, if that goes into it an odd number of times");
        Used x = new Used();
        int[] numbers = {1, 2, 4, 8, 16, 32, 64, 3, 9, 27, 81, 5, 25, 7, 49, 11, 13, 12, 18, 36, 72, 75, 45, 98, 99, 96, 48};
        int[] kinds = {0, 2, 0, 2, 0, 2, 0, 4, 0, 4, 0, 8, 0, 16, 0, 32, 64, 4, 2, 0, 2, 4, 8, 2, 32, 6, 4};
        for (int k = 0; k < numbers.length; k++) {
            due("classOf(" + numbers[k] + ")", x.classOf(numbers[k]), kinds[k]);
            due("classOf(-" + numbers[k] + ")", x.classOf(-numbers[k]), kinds[k] + 1);
        }
    }

    private static void classOfOtherPrimes() {
        sentence(0, "(other primes do not matter)");
        // 17 goes twice into 289; into 457, which is a prime, 457 goes once.
        Used x = with("1,1", "2,2", "1,2", "-1,-1", "1,6");
        due("turn to 289", x.turn(0, 0, 1, 15, 8), 1);
        due("turn to 578", x.turn(1, 0, 1, 8, 15), 2);
        due("turn to 457", x.turn(2, 0, 1, 13, 12), STATE);
        due("turn to 289", x.turn(2, 0, 1, 1, 12), 1);
        dueForm(x, 2, "1,2");
        due("turn to -289", x.turn(3, 0, 1, 8, 15), -1);
        due("turn to 625", x.turn(4, 0, 1, 5, 10), 1);
    }

    private static void numbersFromEndToEnd() {
        sentence(0, "A NUMBER is one from -99 to 99");
        Used x = with("1,1", "1,1");
        due("classOf(-100)", x.classOf(-100), OUTSIDE);
        due("classOf(-99)", x.classOf(-99), 33);
        due("classOf(99)", x.classOf(99), 32);
        due("classOf(100)", x.classOf(100), OUTSIDE);
        due("meets(0, -100)", x.meets(0, -100), OUTSIDE);
        due("meets(0, -99)", x.meets(0, -99), 33);
        due("meets(0, 99)", x.meets(0, 99), 34);
        due("meets(0, 100)", x.meets(0, 100), OUTSIDE);
        due("way(0, -100, 0)", x.way(0, -100, 0), OUTSIDE);
        due("way(0, -99, 0)", x.way(0, -99, 0), NONE);
        due("way(0, 99, 0)", x.way(0, 99, 0), NONE);
        due("way(0, 98, 0)", x.way(0, 98, 0), 1);
        due("way(0, 100, 0)", x.way(0, 100, 0), OUTSIDE);
        due("scale(1, -100)", x.scale(1, -100), OUTSIDE);
        due("scale(1, -99)", x.scale(1, -99), 0);
        dueForm(x, 1, "-11,-11");
        due("scale(1, 99)", x.scale(1, 99), 0);
        dueForm(x, 1, "-1,-1");
        due("scale(1, 100)", x.scale(1, 100), OUTSIDE);
        dueForm(x, 1, "-1,-1");
    }

    private static void numbersWithoutZero() {
        sentence(0, "not 0");
        Used x = with("1,1");
        due("classOf(-1)", x.classOf(-1), 1);
        due("classOf(0)", x.classOf(0), OUTSIDE);
        due("classOf(1)", x.classOf(1), 0);
        due("meets(0, -1)", x.meets(0, -1), 3);
        due("meets(0, 0)", x.meets(0, 0), OUTSIDE);
        due("meets(0, 1)", x.meets(0, 1), 0);
        due("way(0, -1, 2)", x.way(0, -1, 2), NONE);
        due("way(0, 0, 2)", x.way(0, 0, 2), OUTSIDE);
        due("way(0, 1, 2)", x.way(0, 1, 2), 1);
        due("scale(0, 0)", x.scale(0, 0), OUTSIDE);
        dueForm(x, 0, "1,1");
        due("scale(0, 1)", x.scale(0, 1), 0);
        due("scale(0, -1)", x.scale(0, -1), 0);
        dueForm(x, 0, "-1,-1");
    }

    private static boolean goesIn(int number) {
        for (int prime = 17; prime < 100; prime++) {
            boolean isPrime = true;
            for (int k = 2; k < prime; k++) isPrime &= prime % k != 0;
            if (isPrime && number % prime == 0) return true;
        }
        return false;
    }

    private static void numbersWithoutGreatPrimes() {
        sentence(0, "into which no prime above 13 goes");
        for (int number = -102; number <= 102; number++) {
            Used x = with("1");
            boolean is = number != 0 && Math.abs(number) <= 99 && !goesIn(number);
            due("classOf(" + number + ")", x.classOf(number) == OUTSIDE ? 0 : 1, is ? 1 : 0);
            due("meets(0, " + number + ")", x.meets(0, number) == OUTSIDE ? 0 : 1, is ? 1 : 0);
            due("way(0, " + number + ", 0)", x.way(0, number, 0) == OUTSIDE ? 0 : 1, is ? 1 : 0);
            due("scale(0, " + number + ")", x.scale(0, number) == OUTSIDE ? 0 : 1, is ? 1 : 0);
            due("put of " + number, put(x, 1, Integer.toString(number)), is ? 1 : STATE);
        }
    }

    // ---- square, symbol

    private static void squareAtTheRealOne() {
        sentence(0, "A CLASS is SQUARE at the REAL one, if its CORE is above 0");
        Used x = new Used();
        due("square(0, 0)", x.square(0, 0), 1);
        due("square(1, 0)", x.square(1, 0), 0);
        due("square(126, 0)", x.square(126, 0), 1);
        due("square(127, 0)", x.square(127, 0), 0);
    }

    private static void squareBySixteen() {
        sentence(0, "Q is 16 at the PRIME 2");
        Used x = new Used();
        int[] kinds = {0, 36, 13, 17, 12, 16, 8, 4, 5, 1, 2, 3};
        int[] cores = {1, 33, -15, -7, 15, 7, 5, 3, -3, -1, 2, -2};
        int[] squares = {1, 1, 1, 1, 0, 0, 0, 0, 0, 0, 0, 0};
        for (int k = 0; k < kinds.length; k++) {
            due("core(" + kinds[k] + ")", x.core(kinds[k]), cores[k]);
            due("square of " + cores[k] + " at 2", x.square(kinds[k], 1), squares[k]);
        }
    }

    private static void squareByPrimeTimesPrime() {
        sentence(0, "at any other one that times itself");
        Used x = new Used();
        // 10 is 1 by 9, 7 is 16 by 9, -2 is 7 by 9, 6 is 1 by 5, 14 is 4 by 5, 22 is 1 by 7, 26 is 4 by 11, 14 is 1 by 13.
        int[] kinds = {10, 16, 3, 6, 18, 34, 66, 18};
        int[] places = {2, 2, 2, 3, 3, 4, 5, 6};
        for (int k = 0; k < kinds.length; k++) due("square(" + kinds[k] + ", " + places[k] + ")", x.square(kinds[k], places[k]), 1);
        int[] unsquares = {2, 1, 2, 4, 4, 2, 2};
        int[] at = {2, 2, 3, 3, 4, 5, 6};
        for (int k = 0; k < unsquares.length; k++) due("square(" + unsquares[k] + ", " + at[k] + ")", x.square(unsquares[k], at[k]), 0);
    }

    private static void squareOfMultiples() {
        sentence(0, "a whole number X, no multiple of the PRIME");
        for (int place = 1; place <= 6; place++) {
            Used x = new Used();
            for (int kind = 0; kind < 128; kind++)
                if ((kind >> place & 1) == 1) due("square(" + kind + ", " + place + ")", x.square(kind, place), 0);
        }
    }

    private static void symbolAtTheRealOne() {
        sentence(0, "at the REAL one -1, if both are below 0, else 1");
        Used x = new Used();
        due("symbol(1, 1, 0)", x.symbol(1, 1, 0), -1);
        due("symbol(127, 3, 0)", x.symbol(127, 3, 0), -1);
        due("symbol(1, 0, 0)", x.symbol(1, 0, 0), 1);
        due("symbol(0, 1, 0)", x.symbol(0, 1, 0), 1);
        due("symbol(126, 127, 0)", x.symbol(126, 127, 0), 1);
        due("symbol(0, 0, 0)", x.symbol(0, 0, 0), 1);
    }

    private static void symbolNotOfMultiplesAlone() {
        sentence(0, "not all three multiples of the PRIME");
        // By three multiples every sum would be one of Q; P and P have 1 only where -1 is a square by P.
        int[] own = {1, -1, 1, -1, -1, 1};
        for (int place = 1; place <= 6; place++) {
            Used x = new Used();
            due("symbol of the PRIME twice at " + place, x.symbol(1 << place, 1 << place, place), own[place - 1]);
            due("symbol of it and its opposite at " + place, x.symbol(1 << place, 1 + (1 << place), place), 1);
        }
    }

    private static void symbolBySixteen() {
        sentence(0, "so that A X X + B Y Y - Z Z is a multiple of Q");
        Used x = new Used();
        due("symbol of -1, -1 at 2", x.symbol(1, 1, 1), -1);
        due("symbol of 2, 5 at 2", x.symbol(2, 8, 1), -1);
        due("symbol of 2, 3 at 2", x.symbol(2, 4, 1), -1);
        due("symbol of 2, 7 at 2", x.symbol(2, 16, 1), 1);
        due("symbol of 3, 7 at 2", x.symbol(4, 16, 1), -1);
        due("symbol of 3, 5 at 2", x.symbol(4, 8, 1), 1);
        due("symbol of -1, 2 at 2", x.symbol(1, 2, 1), 1);
        due("symbol of 2, 2 at 2", x.symbol(2, 2, 1), 1);
        due("symbol of 6, 6 at 2", x.symbol(6, 6, 1), -1);
        due("symbol of 3, 2 at 3", x.symbol(4, 2, 2), -1);
        due("symbol of 3, 7 at 3", x.symbol(4, 16, 2), 1);
        due("symbol of 2, 5 at 3", x.symbol(2, 8, 2), 1);
    }

    // ---- forms, shelves, texts

    private static void formOfOneToFour() {
        sentence(0, "A FORM is a row of one to four CLASSES");
        Used x = new Used();
        due("put of none", put(x, 0, ""), STATE);
        due("put of one", put(x, 0, "1"), 1);
        due("put of two", put(x, 0, "1,2"), 2);
        due("put of three", put(x, 0, "1,2,3"), 3);
        due("put of four", put(x, 0, "1,2,3,5"), 4);
        due("put of five", put(x, 0, "1,2,3,5,6"), STATE);
        dueForm(x, 0, "1,2,3,5");
    }

    private static void shelvesFromZeroToSeven() {
        sentence(0, "FORMS lie on SHELVES (numbered 0 to 7)");
        Used x = new Used();
        due("put(-1)", put(x, -1, "3"), UNKNOWN);
        due("put(0)", put(x, 0, "3"), 1);
        due("put(7)", put(x, 7, "5,7"), 2);
        due("put(8)", put(x, 8, "3"), UNKNOWN);
        due("about(-1, 0)", x.about(-1, 0), UNKNOWN);
        due("about(0, 0)", x.about(0, 0), 1);
        due("about(7, 0)", x.about(7, 0), 2);
        due("about(8, 0)", x.about(8, 0), UNKNOWN);
        due("count(0)", x.count(0), 2);
    }

    private static void shelvesOneFormOnEach() {
        sentence(0, "one on each, or none; at first there is none");
        Used x = new Used();
        for (int shelf = 0; shelf < 8; shelf++) dueForm(x, shelf, "none");
        for (int shelf = 0; shelf < 8; shelf++) put(x, shelf, shelf % 2 == 0 ? "2,-3" : "7");
        for (int shelf = 0; shelf < 8; shelf++) dueForm(x, shelf, shelf % 2 == 0 ? "2,-3" : "7");
        put(x, 3, "5,5,5");
        for (int shelf = 0; shelf < 8; shelf++) dueForm(x, shelf, shelf == 3 ? "5,5,5" : shelf % 2 == 0 ? "2,-3" : "7");
        due("count(0)", x.count(0), 8);
    }

    /** A text is a FORM, or has its first fault at a place, or is no FORM yet (fault: how long it is). */
    private static void dueText(String text, int fault, int answer) {
        Used x = new Used();
        type(x, text);
        due("fault() of \"" + text + "\"", x.fault(), fault);
        due("put(0) of \"" + text + "\"", x.put(0), answer);
        due("count(4) after \"" + text + "\"", x.count(4), answer == STATE ? text.length() : 0);
    }

    private static void textsOfNumbers() {
        sentence(0, "each \"-\" or nothing, then one or two digits, the first of them not 0");
        dueText("1", 1, 1);
        dueText("9", 1, 1);
        dueText("10", 2, 1);
        dueText("99", 2, 1);
        dueText("-1", 2, 1);
        dueText("-99", 3, 1);
        dueText("100", 2, STATE);
        dueText("-100", 3, STATE);
        dueText("990", 2, STATE);
        dueText("0", 0, STATE);
        dueText("-0", 1, STATE);
        dueText("01", 0, STATE);
        dueText("-01", 1, STATE);
        dueText("1,0", 2, STATE);
        dueText("--1", 1, STATE);
        dueText("1-", 1, STATE);
        dueText("1-1", 1, STATE);
        dueText("-", 1, STATE);
        dueText("+1", 0, STATE);
        dueText(" 1", 0, STATE);
        dueText("1 ", 1, STATE);
        dueText("/", 0, STATE);
        dueText(":", 0, STATE);
        dueText("1/", 1, STATE);
        dueText("1:", 1, STATE);
        dueText("17", 1, STATE);
        dueText("-19", 2, STATE);
        dueText("98", 2, 1);
        dueText("97", 1, STATE);
    }

    private static void textsBetween() {
        sentence(0, "one to four NUMBERS with \",\" between");
        dueText("", 0, STATE);
        dueText(",", 0, STATE);
        dueText(",1", 0, STATE);
        dueText("1,", 2, STATE);
        dueText("1,2", 3, 2);
        dueText("1,,2", 2, STATE);
        dueText("-,1", 1, STATE);
        dueText("1,-", 3, STATE);
        dueText("1,-2", 4, 2);
        dueText("1;2", 1, STATE);
        dueText("1.2", 1, STATE);
        dueText("1,2,3", 5, 3);
        dueText("1,2,3,", 6, STATE);
        dueText("1,2,3,4", 7, 4);
        dueText("1,2,3,4,", 7, STATE);
        dueText("1,2,3,4,5", 7, STATE);
        dueText("1,2,3,44,5", 8, STATE);
    }

    private static void textsToTheLongest() {
        sentence(0, "A FORM is a text");
        dueText("-99,-98,-96,-91", 15, 4);
        dueText("-99,-98,-96,-91,", 15, STATE);
        dueText("-99,-98,-96,-910", 15, STATE);
        dueText("-99,-98,-96,-91,-1", 15, STATE);
        dueText("-99,-98,-96,-9", 14, 4);
        dueText("-99,-98,-96,-", 13, STATE);
        dueText("111111111111111111", 2, STATE);
    }

    // ---- what is told of a form

    private static void aboveOfNoneAndAll() {
        sentence(0, "ABOVE, how many TERMS have a CORE above 0");
        Used x = with("-1", "1", "-1,-2,-3,-5", "1,2,3,5", "-1,2,-3,5", "-1,2,3,5");
        int[] above = {0, 1, 0, 4, 2, 3};
        for (int shelf = 0; shelf < above.length; shelf++) due("about(" + shelf + ", 1)", x.about(shelf, 1), above[shelf]);
    }

    private static void detAndHasseOfOne() {
        sentence(0, "the SYMBOLS of all pairs of TERMS (each pair once)");
        Used x = with("-91", "-1,-1", "-1,-1,-1", "-1,-1,-1,-1");
        // Of one TERM there is no pair; of -1 there are 1, 3, 6 pairs, each -1 at the REAL one and at 2.
        due("DET", x.about(0, 2), 81);
        int[] hasse = {0, 3, 3, 0};
        for (int shelf = 0; shelf < hasse.length; shelf++) due("about(" + shelf + ", 3)", x.about(shelf, 3), hasse[shelf]);
        int[] det = {81, 0, 1, 0};
        for (int shelf = 0; shelf < det.length; shelf++) due("about(" + shelf + ", 2)", x.about(shelf, 2), det[shelf]);
    }

    private static void vanishesAtTheRealOne() {
        sentence(0, "It VANISHES at the REAL one, if COREs of some TERMS are above 0 and some below");
        Used x = with("1,1,1,1", "-1,-1,-1,-1", "-1,1,1,1", "1,1,1,-1", "1", "-1", "1,-1", "-1,-1,1,-1");
        int[] bit = {1, 1, 0, 0, 1, 1, 0, 0};
        for (int shelf = 0; shelf < bit.length; shelf++) due("BARS of " + shelf, x.about(shelf, 4) & 1, bit[shelf]);
    }

    private static void vanishesByOne() {
        sentence(0, "whole numbers, one for each TERM, not all multiples of the PRIME");
        String[] ones = {"1", "-1", "2", "3", "5", "7", "11", "13", "-91", "30", "66", "-78"};
        for (String one : ones) due("BARS of " + one, with(one).about(0, 4), 127);
        // Both TERMS have the PRIME: what is left of them decides, not the PRIME.
        due("BARS of 3,-3", with("3,-3").about(0, 4), 0);
        due("BARS of 3,-6", with("3,-6").about(0, 4), 110);
        due("BARS of 3,6", with("3,6").about(0, 4), 91);
        due("BARS of 1,2", with("1,2").about(0, 4), 91);
        due("BARS of 1,-3 at 3", with("1,-3").about(0, 4) & 4, 4);
    }

    private static void vanishesByFive() {
        sentence(0, "A FORM MEETS a NUMBER at a PLACE, if the FORM with one TERM more behind .. VANISHES there");
        // Five TERMS come to nothing at each PRIME; the REAL one is the only bar.
        String[] fours = {"1,1,1,1", "1,-2,5,-10", "3,-6,-7,14", "1,2,3,5", "-1,-7,-11,-77", "2,5,10,13"};
        int[] numbers = {1, -1, 7, -7, 15, 99, -96, 13, 91, -66};
        for (String four : fours)
            for (int number : numbers) due("meets of " + four + ", " + number, with(four).meets(0, number) & 126, 0);
    }

    private static void barsOfNothingAndAll() {
        sentence(0, "BARS: the bits of the PLACES at which it does not VANISH");
        due("BARS of 1", with("1").about(0, 4), 127);
        due("BARS of 1,-1", with("1,-1").about(0, 4), 0);
        due("BARS of 1,1,1", with("1,1,1").about(0, 4), 3);
        due("BARS of 1,1,-3", with("1,1,-3").about(0, 4), 6);
        due("BARS of 1,1,1,1", with("1,1,1,1").about(0, 4), 3);
        due("BARS of 1,1,1,2", with("1,1,1,2").about(0, 4), 1);
        due("BARS of 1,1,1,-7", with("1,1,1,-7").about(0, 4), 2);
        due("BARS of 1,1,3,3", with("1,1,3,3").about(0, 4), 5);
        due("BARS of 1,1,-3,-3", with("1,1,-3,-3").about(0, 4), 6);
    }

    private static void planesByBars() {
        sentence(0, "PLANES: 0, if there are BARS; else 2, if RANK is 4 and DET is 0; else 1");
        due("PLANES of 1,1,1,1", with("1,1,1,1").about(0, 5), 0);
        due("PLANES of 1,1,-3,-3", with("1,1,-3,-3").about(0, 5), 0);
        due("PLANES of 1,1", with("1,1").about(0, 5), 0);
        due("PLANES of 1", with("1").about(0, 5), 0);
        due("PLANES of 1,-1", with("1,-1").about(0, 5), 1);
        due("PLANES of 1,1,-2", with("1,1,-2").about(0, 5), 1);
        due("PLANES of 1,1,-1", with("1,1,-1").about(0, 5), 1);
    }

    private static void planesOfFour() {
        sentence(0, "else 2, if RANK is 4 and DET is 0");
        due("PLANES of 1,-1,2,-2", with("1,-1,2,-2").about(0, 5), 2);
        due("PLANES of 1,-1,2,-3", with("1,-1,2,-3").about(0, 5), 1);
        due("PLANES of 1,1,-1,1", with("1,1,-1,1").about(0, 5), 1);
        due("PLANES of 1,1,-2,-2", with("1,1,-2,-2").about(0, 5), 2);
    }

    private static void restWithoutTerms() {
        sentence(0, "by a RANK of 0 it is 0");
        // The HASSE of the four is 3 (the REAL one and 2), but nothing rests of it.
        dueAbout(with("1,-1,2,-2"), 0, 4, 2, 0, 3, 0, 2, 0, 0);
        dueAbout(with("1,1,-2,-2"), 0, 4, 2, 0, 3, 0, 2, 0, 0);
        dueAbout(with("7,-7"), 0, 2, 1, 1, 0, 0, 1, 0, 0);
    }

    private static void restWithoutPlanes() {
        sentence(0, "its HASSE: without PLANES that of the FORM");
        dueAbout(with("-1,-1"), 0, 2, 0, 0, 3, 55, 0, 0, 3);
        dueAbout(with("-1"), 0, 1, 0, 1, 0, 127, 0, 1, 0);
        dueAbout(with("-1,-1,-1"), 0, 3, 0, 1, 3, 3, 0, 1, 3);
        dueAbout(with("-1,-1,-1,-1"), 0, 4, 0, 0, 0, 3, 0, 0, 0);
    }

    private static void restWithTermsLeft() {
        sentence(0, "with all bits turned round of PLACES at which the SYMBOL of CLASS 1 and the DET of the REST is -1");
        // What rests of 1, -1, A is A alone, whose HASSE is 0; of 1, -1, A, B it is A, B.
        dueAbout(with("1,-1,-1"), 0, 3, 1, 0, 3, 0, 1, 1, 0);
        dueAbout(with("1,-1,3"), 0, 3, 2, 5, 6, 0, 1, 4, 0);
        dueAbout(with("1,-1,-1,-2"), 0, 4, 1, 3, 3, 0, 1, 2, 3);
        dueAbout(with("-1,-2"), 0, 2, 0, 2, 3);
        dueAbout(with("1,-1,3,7"), 0, 4, 3, 21, 6, 0, 1, 20, 18);
        dueAbout(with("3,7"), 0, 2, 2, 20, 18);
    }

    private static void meetsByOneMore() {
        sentence(0, "the FORM with one TERM more behind, the CLASS of that NUMBER multiplied by CLASS 1");
        // A single TERM meets its own CLASS alone; a plane meets all; four TERMS all but by sign.
        Used x = with("7", "1,-1", "1,1,1,1", "-1,-1,-1,-1");
        due("meets(0, 7)", x.meets(0, 7), 0);
        due("meets(0, 63)", x.meets(0, 63), 0);
        // -1 is a square at 5 and at 13.
        due("meets(0, -7)", x.meets(0, -7), 55);
        int[] numbers = {-99, -98, -7, -1, 1, 2, 7, 15, 99};
        for (int number : numbers) {
            due("meets(1, " + number + ")", x.meets(1, number), 0);
            due("meets(2, " + number + ")", x.meets(2, number), number < 0 ? 1 : 0);
            due("meets(3, " + number + ")", x.meets(3, number), number < 0 ? 0 : 1);
        }
    }

    private static void likeOfUnlikeRanks() {
        sentence(0, "FORMS of unlike RANKS are LIKE nowhere");
        Used x = with("1", "1,1", "1,1,1", "1,1,1,1");
        for (int one = 0; one < 4; one++)
            for (int other = 0; other < 4; other++)
                due("like(" + one + ", " + other + ")", x.like(one, other), one == other ? 0 : 127);
    }

    private static void likeAtTheRealOne() {
        sentence(0, "LIKE at the REAL one, if ABOVE is the same");
        Used x = with("1,1,1,1", "1,1,1,-1", "1,1,-1,-1", "1,-1,-1,-1", "-1,-1,-1,-1");
        for (int one = 0; one < 5; one++)
            for (int other = 0; other < 5; other++)
                due("like(" + one + ", " + other + ") at the REAL one", x.like(one, other) & 1, one == other ? 0 : 1);
        // HASSE at the REAL one is 0 of both, but ABOVE is not the same.
        due("like of 1,1,1,1 and -1,-1,-1,-1", x.like(0, 4), 1);
    }

    private static void likeAtPrimes() {
        sentence(0, "at a PRIME, if their DETs multiplied are SQUARE there, and HASSE is the same there");
        Used x = with("1", "-7", "33", "1,1", "3,3", "2,2", "7,7");
        due("like(0, 0)", x.like(0, 0), 0);
        // -7 is a square at 2 and at 11.
        due("like(0, 1)", x.like(0, 1), 93);
        // 33 is one at the REAL one and at 2.
        due("like(0, 2)", x.like(0, 2), 124);
        due("like(3, 4): HASSE", x.like(3, 4), 6);
        due("like(3, 5)", x.like(3, 5), 0);
        due("like(3, 6): HASSE", x.like(3, 6), 18);
        due("like(4, 6): HASSE", x.like(4, 6), 20);
    }
}
