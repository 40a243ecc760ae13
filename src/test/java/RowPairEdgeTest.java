/** The sentences of 'Terms' about ROW, WAY and PAIRS that name a boundary case, each with a test of its own. */
public final class RowPairEdgeTest extends Check {
    public static void main(String[] args) {
        rowUpToFifteen();
        rowNotAllZero();
        rowOfTheLeastGreatest();
        rowOfTheLesserFirst();
        rowOfLargeCores();
        wayUpToNine();
        wayLastNotZero();
        wayToTheClass();
        wayOfTheLeast();
        pairsFromThree();
        pairsToTheLast();
        pairsByRestOfFour();
        middleAboveMinusFirst();
        middleNotAboveFirst();
        firstNotAboveLast();
        middleNotBelowZero();
        noNumberIntoAllThree();
        pairsInOrder();
        restsApartFromN();
        restsFromZero();
        restsOfLargeN();
        genusIsTheLeast();
        formOfPair();
        noPairsAtFirst();
        end("RowPairEdgeTest");
    }

    // ---- row

    private static void dueRow(String form, int... want) {
        Used x = with(form);
        for (int term = 0; term < want.length; term++) due("row(0, " + term + ") of " + form, x.row(0, term), want[term]);
        due("row(0, RANK) of " + form, x.row(0, want.length), UNKNOWN);
    }

    private static void rowUpToFifteen() {
        sentence(0, "rows of whole numbers from 0 to 15");
        dueRow("-1,65,10", 15, 1, 4);
        dueRow("-10,1,-65", 4, 15, 1);
        dueRow("-65,-10,1", 1, 4, 15);
        // Their least rows are 16, 3, 1 in some order.
        dueRow("1,-26,-22", NONE, NONE, NONE);
        dueRow("-26,1,-22", NONE, NONE, NONE);
        dueRow("-26,-22,1", NONE, NONE, NONE);
        due("it VANISHES at all PLACES", with("1,-26,-22").about(0, 4), 0);
    }

    private static void rowNotAllZero() {
        sentence(0, "not all 0");
        dueRow("1", NONE);
        dueRow("-1", NONE);
        dueRow("1,1", NONE, NONE);
        dueRow("1,2,3", NONE, NONE, NONE);
        dueRow("-1,-2,-3,-5", NONE, NONE, NONE, NONE);
        dueRow("1,-1", 1, 1);
        dueRow("1,-2", NONE, NONE);
    }

    private static void rowOfTheLeastGreatest() {
        sentence(0, "the one whose greatest number is least");
        // 1, 5, 8 has a lesser number at the first TERM, but a greater one at the last.
        dueRow("15,-39,15", 4, 5, 7);
        dueRow("1,-1,1,-2", 0, 1, 1, 0);
        dueRow("3,-2,-1", 1, 1, 1);
        dueRow("2,-3,10", 1, 2, 1);
    }

    private static void rowOfTheLesserFirst() {
        sentence(0, "that which has the lesser number at the first TERM at which they are unlike");
        dueRow("1,-1,1", 0, 1, 1);
        dueRow("1,1,-1", 0, 1, 1);
        dueRow("-1,1,1", 1, 0, 1);
        dueRow("1,-1,1,-1", 0, 0, 1, 1);
        dueRow("1,1,-1,-1", 0, 1, 0, 1);
        dueRow("1,2,-3,-6", 1, 1, 1, 0);
        dueRow("7,-7,1,3", 1, 1, 0, 0);
    }

    private static void rowOfLargeCores() {
        sentence(0, "the sum of the COREs, each times the square of its number, is 0");
        dueRow("1,1,1,-3", 1, 1, 1, 1);
        Used x = with("66,-66", "1,1,1,-3");
        x.scale(0, 35);
        x.scale(0, 13);
        dueForm(x, 0, "30030,-30030");
        due("row(0, 0)", x.row(0, 0), 1);
        due("row(0, 1)", x.row(0, 1), 1);
        x.scale(1, 30);
        x.scale(1, 77);
        x.scale(1, 13);
        dueForm(x, 1, "30030,30030,30030,-10010");
        // Now 3 (X X + Y Y + Z Z) is T T.
        int[] row = {1, 1, 1, 3};
        for (int term = 0; term < row.length; term++) due("row(1, " + term + ")", x.row(1, term), row[term]);
    }

    // ---- way

    private static void dueWay(String form, int number, int... want) {
        Used x = with(form);
        for (int term = 0; term < want.length; term++)
            due("way(0, " + number + ", " + term + ") of " + form, x.way(0, number, term), want[term]);
        due("way(0, " + number + ", RANK + 1) of " + form, x.way(0, number, want.length), UNKNOWN);
    }

    private static void wayUpToNine() {
        sentence(0, "with numbers from 0 to 9");
        dueWay("1,-39", 42, 9, 1, 1);
        dueWay("-21,21", 33, 2, 9, 7);
        dueWay("33,30", 2, 2, 1, 9);
        // Their least ways are 10, 1, 1; 1, 10, 1; 1, 3, 10.
        dueWay("1,-30", 70, NONE, NONE, NONE);
        dueWay("-22,1", 78, NONE, NONE, NONE);
        dueWay("55,5", 1, NONE, NONE, NONE);
        due("it MEETS 70 at all PLACES", with("1,-30").meets(0, 70), 0);
        due("it MEETS 1 at all PLACES", with("55,5").meets(0, 1), 0);
    }

    private static void wayLastNotZero() {
        sentence(0, "that of this last TERM not 0");
        // 1, 1, 0 and 1, 1, 1, 0 would be less.
        dueWay("1,-1", 3, 2, 1, 1);
        dueWay("1,1,-2", 77, 6, 7, 2, 1);
        dueWay("1", 1, 1, 1);
        dueWay("1", -1, NONE, NONE);
        dueWay("1,-1", 1, 1, 0, 1);
        dueWay("1,-1,1,-1", -1, 0, 0, 0, 1, 1);
    }

    private static void wayToTheClass() {
        sentence(0, "the CLASS of that NUMBER multiplied by CLASS 1");
        dueWay("3", 12, 1, 1);
        dueWay("3", 75, 1, 1);
        dueWay("3", -12, NONE, NONE);
        dueWay("-3", -12, 1, 1);
        dueWay("1,1", 98, 1, 1, 1);
        dueWay("1,1", 64, 0, 1, 1);
        dueWay("-1,-1", -50, 1, 1, 1);
    }

    private static void wayOfTheLeast() {
        sentence(0, "WAY of a FORM to a NUMBER: the same");
        dueWay("1,1", 5, 1, 2, 1);
        dueWay("1,1,1,1", 7, 1, 1, 1, 2, 1);
        dueWay("1,1,1,1", 1, 0, 0, 0, 1, 1);
        dueWay("1,-5,14", 7, 7, 0, 1, 3);
        dueWay("1,1,1", 7, NONE, NONE, NONE, NONE);
        dueWay("1,1,1", 6, 1, 1, 2, 1);
    }

    // ---- pairs

    private static void duePairs(int n, int[]... abc) {
        Used x = new Used();
        due("pairs(" + n + ")", x.pairs(n), abc.length);
        due("count(6) of " + n, x.count(6), abc.length);
        for (int pair = 0; pair < abc.length; pair++) duePair(x, pair, abc[pair]);
        due("pair " + abc.length + " of " + n, x.pair(abc.length, 0), UNKNOWN);
    }

    private static int[] abc(int... numbers) {
        return numbers;
    }

    private static void pairsFromThree() {
        sentence(0, "PAIRS of N (3 to 160");
        int[] small = {-160, -4, -1, 0, 1, 2};
        for (int n : small) due("pairs(" + n + ")", new Used().pairs(n), OUTSIDE);
        duePairs(3, abc(1, 1, 1, 0, 1));
        duePairs(4, abc(1, 0, 1, 0, 1));
    }

    private static void pairsToTheLast() {
        sentence(0, "(3 to 160");
        duePairs(159, abc(1, 1, 40), abc(2, -1, 20), abc(2, 1, 20), abc(3, 3, 14), abc(4, -1, 10), abc(4, 1, 10),
                abc(5, -1, 8), abc(5, 1, 8), abc(6, -3, 7), abc(6, 3, 7));
        duePairs(160, abc(1, 0, 40), abc(4, 4, 11), abc(5, 0, 8), abc(7, 6, 7));
        int[] great = {161, 162, 163, 164, 167, 168, 320};
        for (int n : great) due("pairs(" + n + ")", new Used().pairs(n), OUTSIDE);
    }

    private static void pairsByRestOfFour() {
        sentence(0, "the rest of which by 4 is 0 or 3");
        for (int n = 3; n <= 160; n++) {
            int size = new Used().pairs(n);
            due("pairs(" + n + ") refused", size == OUTSIDE ? 1 : 0, n % 4 == 1 || n % 4 == 2 ? 1 : 0);
            if (size != OUTSIDE) due("pairs(" + n + ") at least one", size > 0 ? 1 : 0, 1);
        }
    }

    private static void middleAboveMinusFirst() {
        sentence(0, "B above -A");
        // 2, -2, 3 and 1, -1, 5 and 3, -3, 4 are none.
        duePairs(20, abc(1, 0, 5), abc(2, 2, 3));
        duePairs(19, abc(1, 1, 5));
        duePairs(39, abc(1, 1, 10), abc(2, -1, 5), abc(2, 1, 5), abc(3, 3, 4));
    }

    private static void middleNotAboveFirst() {
        sentence(0, "but not above A");
        // 1, 1, 2 is one, 1, 3, 4 is none, though 4 A C - B B is 7 of both.
        duePairs(7, abc(1, 1, 2));
        duePairs(8, abc(1, 0, 2));
        duePairs(147, abc(1, 1, 37), abc(3, 3, 13));
    }

    private static void firstNotAboveLast() {
        sentence(0, "A not above C");
        // 4, 1, 1 and 2, 0, 1 are none; 2, 1, 2 is one.
        duePairs(15, abc(1, 1, 4), abc(2, 1, 2));
        duePairs(24, abc(1, 0, 6), abc(2, 0, 3));
        duePairs(32, abc(1, 0, 8), abc(3, 2, 3));
    }

    private static void middleNotBelowZero() {
        sentence(0, "B not below 0 if A is C");
        duePairs(63, abc(1, 1, 16), abc(2, -1, 8), abc(2, 1, 8), abc(4, 1, 4));
        duePairs(84, abc(1, 0, 21), abc(2, 2, 11), abc(3, 0, 7), abc(5, 4, 5));
        duePairs(4, abc(1, 0, 1));
    }

    private static void noNumberIntoAllThree() {
        sentence(0, "no number but 1 goes into all three");
        // 2, 2, 2; 2, 0, 2; 3, 3, 3; 2, 2, 4; 3, 0, 3; 5, 5, 5; 6, 6, 6; 2, 0, 6 are none.
        duePairs(12, abc(1, 0, 3));
        duePairs(16, abc(1, 0, 4));
        duePairs(27, abc(1, 1, 7));
        duePairs(28, abc(1, 0, 7));
        duePairs(36, abc(1, 0, 9), abc(2, 2, 5));
        duePairs(48, abc(1, 0, 12), abc(3, 0, 4));
        duePairs(75, abc(1, 1, 19), abc(3, 3, 7));
        duePairs(108, abc(1, 0, 27), abc(4, -2, 7), abc(4, 2, 7));
    }

    private static void pairsInOrder() {
        sentence(0, "numbered from 0 by A, of the same A by B, the lesser ones first");
        duePairs(23, abc(1, 1, 6), abc(2, -1, 3), abc(2, 1, 3));
        duePairs(47, abc(1, 1, 12), abc(2, -1, 6), abc(2, 1, 6), abc(3, -1, 4), abc(3, 1, 4));
        duePairs(104, abc(1, 0, 26), abc(2, 0, 13), abc(3, -2, 9), abc(3, 2, 9), abc(5, -4, 6), abc(5, 4, 6));
    }

    private static void dueMet(int n, int pair, int... rests) {
        Used x = new Used();
        x.pairs(n);
        for (int rest = 0; rest < n; rest++) {
            int want = 0;
            for (int met : rests) want |= met == rest ? 1 : 0;
            due("met(" + pair + ", " + rest + ") of " + n, x.met(pair, rest), want);
        }
        due("pair(" + pair + ", 4) of " + n, x.pair(pair, 4), rests.length);
    }

    private static void restsApartFromN() {
        sentence(0, "if no number but 1 goes into both it and N");
        dueMet(3, 0, 1);
        dueMet(4, 0, 1);
        dueMet(7, 0, 1, 2, 4);
        dueMet(8, 0, 1, 3);
        // 5 is 1 0 0 + 5 1 1, but 5 goes into it and 20; 2 is 2 1 1, but 2 goes into both.
        dueMet(20, 0, 1, 9);
        dueMet(20, 1, 3, 7);
    }

    private static void restsFromZero() {
        sentence(0, "A PAIR MEETS a rest by N (0 to N - 1)");
        Used x = new Used();
        x.pairs(160);
        due("met(0, -1)", x.met(0, -1), OUTSIDE);
        due("met(0, 0)", x.met(0, 0), 0);
        due("met(0, 1)", x.met(0, 1), 1);
        due("met(3, 7)", x.met(3, 7), 1);
        due("met(0, 159)", x.met(0, 159), 0);
        due("met(0, 160)", x.met(0, 160), OUTSIDE);
        x.pairs(8);
        due("met(0, 7)", x.met(0, 7), 0);
        due("met(0, 8)", x.met(0, 8), OUTSIDE);
        // A X X + B X Y + C Y Y goes down to rests that no X, Y below 2 have.
        x.pairs(95);
        due("met(0, 94)", x.met(0, 94), 0);
        due("met(0, 49)", x.met(0, 49), 1);
    }

    private static int commonOf(int one, int other) {
        return other == 0 ? one : commonOf(other, one % other);
    }

    private static boolean[] restsOf(int n, int a, int b, int c) {
        boolean[] rests = new boolean[n];
        for (int x = 0; x < n; x++) {
            for (int y = 0; y < n; y++) {
                int rest = Math.floorMod(a * x * x + b * x * y + c * y * y, n);
                rests[rest] = commonOf(n, rest) == 1;
            }
        }
        return rests;
    }

    private static void dueAllRests(int n, int pair) {
        Used x = new Used();
        x.pairs(n);
        boolean[] rests = restsOf(n, x.pair(pair, 0), x.pair(pair, 1), x.pair(pair, 2));
        int met = 0;
        for (int rest = 0; rest < n; rest++) {
            due("met(" + pair + ", " + rest + ") of " + n, x.met(pair, rest), rests[rest] ? 1 : 0);
            met += rests[rest] ? 1 : 0;
        }
        due("pair(" + pair + ", 4) of " + n, x.pair(pair, 4), met);
    }

    private static void restsOfLargeN() {
        sentence(0, "for some whole X, Y it is the rest of A X X + B X Y + C Y Y by N");
        int[] ns = {63, 64, 127, 128, 131, 159, 160};
        for (int n : ns) {
            int size = new Used().pairs(n);
            for (int pair = 0; pair < size; pair++) dueAllRests(n, pair);
        }
    }

    private static void genusIsTheLeast() {
        sentence(0, "GENUS of a PAIR: the least number of a PAIR that MEETS just the same ones");
        int[][] genera = {{3, 0}, {23, 0, 0, 0}, {39, 0, 1, 1, 0}, {20, 0, 1}, {84, 0, 1, 2, 3}, {63, 0, 1, 1, 0}};
        int[] unlike = {1, 1, 2, 2, 4, 2};
        for (int k = 0; k < genera.length; k++) {
            Used x = new Used();
            x.pairs(genera[k][0]);
            for (int pair = 0; pair + 1 < genera[k].length; pair++)
                due("GENUS of " + pair + " of " + genera[k][0], x.pair(pair, 3), genera[k][pair + 1]);
            due("count(7) of " + genera[k][0], x.count(7), unlike[k]);
        }
    }

    private static void formOfPair() {
        sentence(0, "The FORM of a PAIR: two TERMS, the CLASS of A, and that of A times N");
        Used x = new Used();
        x.pairs(160);
        due("lay(3, 0)", x.lay(3, 0), 10);
        dueForm(x, 0, "7,70");
        due("lay(1, 1)", x.lay(1, 1), 10);
        dueForm(x, 1, "1,10");
        x.pairs(39);
        due("lay(3, 2)", x.lay(3, 2), 68);
        dueForm(x, 2, "3,13");
        x.pairs(4);
        due("lay(0, 7)", x.lay(0, 7), 0);
        dueForm(x, 7, "1,1");
    }

    private static void noPairsAtFirst() {
        sentence(0, "At first no PAIRS are open");
        Used x = new Used();
        for (int what = 5; what <= 7; what++) due("count(" + what + ")", x.count(what), 0);
        for (int what = 0; what <= 4; what++) due("pair(0, " + what + ")", x.pair(0, what), UNKNOWN);
        due("met(0, 0)", x.met(0, 0), UNKNOWN);
        due("lay(0, 0)", x.lay(0, 0), UNKNOWN);
        due("pairs(2)", x.pairs(2), OUTSIDE);
        due("pair(0, 0)", x.pair(0, 0), UNKNOWN);
        due("pairs(3)", x.pairs(3), 1);
        due("pair(0, 0)", x.pair(0, 0), 1);
    }
}
