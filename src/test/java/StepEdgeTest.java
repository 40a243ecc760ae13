/** The sentences about STEPS and undo() that name a boundary case, each with a test of its own. */
public final class StepEdgeTest extends Check {
    /** What is done to a new object with STEPS of its own behind it. */
    private interface Act {
        long on(Used x);
    }

    public static void main(String[] args) {
        eachCallIsAStep();
        stepThatChangesNothing();
        otherCallsAreNone();
        refusedCallsAreNone();
        twelveAreKept();
        eldestIsKeptNoMore();
        undoneIsKeptNoMore();
        doesNotComeBack();
        undoneMakesRoom();
        ringGoesRound();
        undoOfNothing();
        undoTellsTheShelf();
        undoToFormOrNone();
        undoLeavesTheRest();
        undoOfWhatWasMadeOfItself();
        countsOfManySteps();
        end("StepEdgeTest");
    }

    private static void dueStep(String call, Act act, int shelf, String was, String is) {
        Used x = with("2,3", "5", "1,1,-2");
        x.pairs(84);
        act.on(x);
        due("count(3) behind " + call, x.count(3), 4);
        due("count(8) behind " + call, x.count(8), 4);
        due("count(9) behind " + call, x.count(9), 0);
        dueForm(x, shelf, is);
        due("undo() behind " + call, x.undo(), shelf);
        dueForm(x, shelf, was);
        due("count(3) behind undo()", x.count(3), 3);
        due("count(8) behind undo()", x.count(8), 4);
        due("count(9) behind undo()", x.count(9), 1);
    }

    private static void eachCallIsAStep() {
        sentence(0, "What put(), clear(), join(), times(), scale(), turn(), drop(), lay() do .. is a STEP of one SHELF");
        dueStep("put(7)", x -> put(x, 7, "7,-7"), 7, "none", "7,-7");
        dueStep("put(0)", x -> put(x, 0, "7,-7"), 0, "2,3", "7,-7");
        dueStep("clear(0)", x -> x.clear(0), 0, "2,3", "none");
        dueStep("join(0, 1, 3)", x -> x.join(0, 1, 3), 3, "none", "2,3,5");
        dueStep("join(0, 1, 1)", x -> x.join(0, 1, 1), 1, "5", "2,3,5");
        dueStep("times(0, 1, 3)", x -> x.times(0, 1, 3), 3, "none", "10,15");
        dueStep("times(0, 1, 0)", x -> x.times(0, 1, 0), 0, "2,3", "10,15");
        dueStep("scale(2, 3)", x -> x.scale(2, 3), 2, "1,1,-2", "3,3,-6");
        dueStep("turn(2, 1, 0, 1, 2)", x -> x.turn(2, 1, 0, 1, 2), 2, "1,1,-2", "5,5,-2");
        dueStep("drop(2, 0)", x -> x.drop(2, 0), 2, "1,1,-2", "1,-2");
        dueStep("lay(3, 1)", x -> x.lay(3, 1), 1, "5", "5,105");
        dueStep("lay(3, 6)", x -> x.lay(3, 6), 6, "none", "5,105");
    }

    private static void stepThatChangesNothing() {
        sentence(0, "(also if it is as it was)");
        dueStep("put(0) of the same", x -> put(x, 0, "2,3"), 0, "2,3", "2,3");
        dueStep("put(0) of like NUMBERS", x -> put(x, 0, "8,12"), 0, "2,3", "2,3");
        dueStep("scale(0, 1)", x -> x.scale(0, 1), 0, "2,3", "2,3");
        dueStep("scale(0, 36)", x -> x.scale(0, 36), 0, "2,3", "2,3");
        dueStep("turn(0, 0, 1, 1, 0)", x -> x.turn(0, 0, 1, 1, 0), 0, "2,3", "2,3");
        dueStep("turn(0, 1, 0, 15, 0)", x -> x.turn(0, 1, 0, 15, 0), 0, "2,3", "2,3");
        sentence(0, "(also if it is as it was)", "by times(), lay() and join()");
        Used x = with("1", "2,3", "1,1", "1,1,1");
        x.pairs(4);
        due("times(0, 1, 1)", x.times(0, 1, 1), 2);
        due("lay(0, 2)", x.lay(0, 2), 0);
        due("join(2, 0, 3)", x.join(2, 0, 3), 3);
        due("count(3)", x.count(3), 7);
        int[] shelves = {3, 2, 1, 3, 2, 1, 0};
        for (int shelf : shelves) due("undo()", x.undo(), shelf);
    }

    private static void otherCallsAreNone() {
        sentence(0, "What put(), clear(), join(), times(), scale(), turn(), drop(), lay() do", "and no other call");
        Used x = with("2,3");
        x.letter('7');
        x.fault();
        x.blank();
        x.classOf(3);
        x.core(3);
        x.symbol(1, 1, 1);
        x.square(1, 1);
        x.at(0, 0);
        x.about(0, 8);
        x.like(0, 0);
        x.meets(0, 5);
        x.row(0, 0);
        x.way(0, 5, 2);
        x.pairs(23);
        x.pair(0, 0);
        x.met(0, 1);
        x.count(8);
        x.digest();
        due("count(3)", x.count(3), 1);
        due("count(8)", x.count(8), 1);
        due("undo()", x.undo(), 0);
        due("count(8): undo() is none", x.count(8), 1);
        due("count(3): undo() is none", x.count(3), 0);
    }

    private static void refusedCallsAreNone() {
        sentence(0, "if they are not refused");
        Used x = with("2,3", "5,7,11", "13");
        x.pairs(68);
        x.put(0);
        x.clear(5);
        x.join(0, 1, 0);
        x.times(0, 1, 0);
        x.scale(0, 0);
        x.turn(0, 0, 0, 1, 1);
        x.drop(2, 0);
        x.lay(0, 0);
        due("count(3)", x.count(3), 3);
        due("count(8)", x.count(8), 3);
        for (int shelf = 2; shelf >= 0; shelf--) due("undo()", x.undo(), shelf);
        due("undo()", x.undo(), STATE);
        due("undo() refused", x.count(9), 3);
    }

    /** An object with so many STEPS: the SHELVES from 0 on, again and again, have 2, 3, 5, 6, 7, ... */
    private static final String[] TEXTS = {"2", "3", "5", "6", "7", "10", "11", "13", "14", "15", "21", "22", "26", "30", "33"};

    private static Used stepped(int steps) {
        Used x = new Used();
        for (int step = 0; step < steps; step++) put(x, step % 8, TEXTS[step % TEXTS.length]);
        return x;
    }

    private static void twelveAreKept() {
        sentence(0, "STEPS are kept, 12 at most");
        int[] done = {0, 1, 11, 12, 13, 14, 24, 25};
        for (int steps : done) {
            Used x = stepped(steps);
            int kept = Math.min(steps, 12);
            due("count(3) after " + steps, x.count(3), kept);
            due("count(8) after " + steps, x.count(8), steps);
            for (int k = 1; k <= kept; k++) {
                due("undo() " + k + " after " + steps, x.undo(), (steps - k) % 8);
                due("count(3)", x.count(3), kept - k);
            }
            due("undo() of none after " + steps, x.undo(), STATE);
            due("count(9) after " + steps, x.count(9), kept);
        }
    }

    private static void eldestIsKeptNoMore() {
        sentence(0, "as one more comes, the eldest one is kept no more");
        Used x = stepped(13);
        for (int k = 0; k < 12; k++) x.undo();
        due("undo()", x.undo(), STATE);
        // The first STEP stands: it can't be undone.
        dueForm(x, 0, "2");
        for (int shelf = 1; shelf < 8; shelf++) dueForm(x, shelf, "none");
        Used twelve = stepped(12);
        for (int k = 0; k < 12; k++) twelve.undo();
        due("count(0) of twelve", twelve.count(0), 0);
    }

    private static void undoneIsKeptNoMore() {
        sentence(0, "nor is one that is undone");
        Used x = with("2", "3");
        due("undo()", x.undo(), 1);
        due("undo()", x.undo(), 0);
        due("undo()", x.undo(), STATE);
        due("count(3)", x.count(3), 0);
        due("count(8)", x.count(8), 2);
        due("count(9)", x.count(9), 2);
    }

    private static void doesNotComeBack() {
        sentence(0, "what is kept no more does not come back");
        Used x = stepped(14);
        for (int k = 0; k < 5; k++) x.undo();
        due("count(3)", x.count(3), 7);
        for (int k = 0; k < 7; k++) x.undo();
        due("the first two are gone", x.undo(), STATE);
        put(x, 5, "-1");
        due("count(3)", x.count(3), 1);
        due("undo()", x.undo(), 5);
        due("undo()", x.undo(), STATE);
        dueForm(x, 0, "2");
        dueForm(x, 1, "3");
        due("count(0)", x.count(0), 2);
    }

    private static void undoneMakesRoom() {
        sentence(0, "STEPS are kept, 12 at most", "one undone makes room for one more");
        Used x = stepped(12);
        x.undo();
        put(x, 6, "-1");
        due("count(3)", x.count(3), 12);
        due("count(8)", x.count(8), 13);
        for (int k = 0; k < 12; k++) x.undo();
        due("count(0): the eldest was still kept", x.count(0), 0);
        due("undo()", x.undo(), STATE);
    }

    private static void ringGoesRound() {
        sentence(0, "the eldest one is kept no more", "again and again");
        Used x = stepped(40);
        for (int k = 39; k >= 35; k--) due("undo()", x.undo(), k % 8);
        for (int k = 0; k < 9; k++) put(x, 7, TEXTS[k]);
        due("count(3)", x.count(3), 12);
        for (int k = 8; k >= 0; k--) {
            dueForm(x, 7, TEXTS[k]);
            due("undo()", x.undo(), 7);
        }
        for (int k = 34; k >= 32; k--) {
            dueForm(x, k % 8, TEXTS[k % TEXTS.length]);
            due("undo()", x.undo(), k % 8);
            dueForm(x, k % 8, TEXTS[(k - 8) % TEXTS.length]);
        }
        due("undo()", x.undo(), STATE);
        due("count(8)", x.count(8), 49);
        due("count(9)", x.count(9), 17);
    }

    private static void undoOfNothing() {
        sentence(22, "STATE: none is kept");
        Used x = new Used();
        due("undo()", x.undo(), STATE);
        due("count(9)", x.count(9), 0);
        put(x, 0, "7");
        due("undo()", x.undo(), 0);
        due("undo()", x.undo(), STATE);
        due("count(9)", x.count(9), 1);
    }

    private static void undoTellsTheShelf() {
        sentence(22, "the SHELF, on which is now what was there ahead of that STEP");
        for (int shelf = 0; shelf < 8; shelf++) {
            Used x = new Used();
            put(x, shelf, "2,3");
            put(x, 7 - shelf, "5");
            x.clear(shelf);
            due("undo()", x.undo(), shelf);
            dueForm(x, shelf, "2,3");
            due("undo()", x.undo(), 7 - shelf);
            dueForm(x, 7 - shelf, "none");
            due("undo()", x.undo(), shelf);
            due("count(0)", x.count(0), 0);
        }
    }

    private static void undoToFormOrNone() {
        sentence(22, "(a FORM, or none)");
        Used x = new Used();
        put(x, 4, "1,1,-2,-2");
        put(x, 4, "7");
        x.clear(4);
        due("undo()", x.undo(), 4);
        dueAbout(x, 4, 1, 1, 16, 0, 127, 0, 16, 0, 4);
        due("undo()", x.undo(), 4);
        dueForm(x, 4, "1,1,-2,-2");
        dueAbout(x, 4, 4, 2, 0, 3, 0, 2, 0, 0, 4);
        due("undo()", x.undo(), 4);
        dueForm(x, 4, "none");
    }

    private static void undoLeavesTheRest() {
        sentence(22, "The latest STEP that is kept is undone");
        Used x = with("2,3", "5");
        x.pairs(23);
        x.clear(0);
        type(x, "1,7");
        due("undo()", x.undo(), 0);
        dueCounts(x, 2, 3, 2, 2, 3, 23, 3, 1, 3, 1);
        due("fault()", x.fault(), 3);
        dueForm(x, 0, "2,3");
        dueForm(x, 1, "5");
        // The letters that put() took do not come back.
        x.blank();
        due("undo()", x.undo(), 1);
        due("count(4)", x.count(4), 0);
    }

    private static void undoOfWhatWasMadeOfItself() {
        sentence(22, "what was there ahead of that STEP", "though the FORM was made of it");
        Used x = with("2,3");
        x.join(0, 0, 0);
        dueForm(x, 0, "2,3,2,3");
        x.undo();
        dueForm(x, 0, "2,3");
        x.times(0, 0, 0);
        dueForm(x, 0, "1,6,6,1");
        x.turn(0, 0, 1, 1, 1);
        dueForm(x, 0, "7,42,6,1");
        x.drop(0, 3);
        x.scale(0, -7);
        dueForm(x, 0, "-1,-6,-42");
        String[] was = {"7,42,6", "7,42,6,1", "1,6,6,1", "2,3", "none"};
        for (String form : was) {
            due("undo()", x.undo(), 0);
            dueForm(x, 0, form);
        }
        due("undo()", x.undo(), STATE);
    }

    private static void countsOfManySteps() {
        sentence(0, "An object is used for at most 512 calls");
        Used x = with("2,3");
        while (x.calls() < Used.MOST_CALLS - 4) x.scale(0, 6);
        int done = Used.MOST_CALLS - 4 - 5 + 1;
        due("count(8)", x.count(8), done);
        due("count(3)", x.count(3), 12);
        due("undo()", x.undo(), 0);
        due("count(9), the 512th call", x.count(9), 1);
        Used back = with("2,3");
        int steps = 1;
        while (back.calls() < Used.MOST_CALLS - 3) {
            steps += back.scale(0, 6) == 6 ? 1 : 0;
            back.undo();
        }
        due("count(3)", back.count(3), 1);
        due("count(8)", back.count(8), steps);
        due("count(9), the 512th call", back.count(9), steps - 1);
    }
}
