/** What the tests share: how an answer is held against the one that is due, and how FORMS come to SHELVES. */
abstract class Check {
    static final int NONE = -1, UNKNOWN = -101, OUTSIDE = -102, STATE = -103, FULL = -104;
    /** Numbers that are far outside of everything. */
    static final int[] FAR = {Integer.MIN_VALUE, Integer.MIN_VALUE + 1, -1000, 1000, Integer.MAX_VALUE - 1, Integer.MAX_VALUE};
    private static final int MOST_TOLD = 60;
    private static int wrong = 0;
    private static String from = "";

    /** What follows tests this promise (0: the document's 'Terms'), by these words of it. */
    static void sentence(int promise, String words) {
        from = (promise == 0 ? "Terms" : "promise " + promise) + " (\"" + words + "\")";
    }

    static void sentence(int promise, String words, String here) {
        sentence(promise, words);
        from = from + ", " + here;
    }

    static void sentence(int promise) {
        from = "promise " + promise;
    }

    static void due(String call, long got, long want) {
        if (got != want) tellWrong(call + " answered " + got + ", due is " + want);
    }

    static void tellWrong(String told) {
        wrong++;
        if (wrong <= MOST_TOLD) System.out.println(from + (from.isEmpty() ? "" : ": ") + told);
    }

    static void end(String test) {
        System.out.println(test + ": " + (wrong == 0 ? "all as due" : wrong + " not as due"));
        if (wrong != 0) System.exit(1);
    }

    static void type(Used x, String text) {
        for (int k = 0; k < text.length(); k++) x.letter(text.charAt(k));
    }

    static int put(Used x, int shelf, String text) {
        x.blank();
        type(x, text);
        return x.put(shelf);
    }

    /** A new object, on whose SHELVES from 0 on these FORMS lie ("": none). */
    static Used with(String... forms) {
        Used x = new Used();
        for (int shelf = 0; shelf < forms.length; shelf++) {
            if (!forms[shelf].isEmpty()) put(x, shelf, forms[shelf]);
        }
        return x;
    }

    /** The COREs of a FORM with "," between; "none" if there is no FORM. */
    static void dueForm(Used x, int shelf, String want) {
        StringBuilder got = new StringBuilder();
        int rank = Math.max(0, x.about(shelf, 0));
        for (int term = 0; term < rank; term++) got.append(term == 0 ? "" : ",").append(x.at(shelf, term));
        String told = rank == 0 ? "none" : got.toString();
        if (!told.equals(want)) tellWrong("SHELF " + shelf + " has " + told + ", due is " + want);
    }

    /** What about() tells from 0 on. */
    static void dueAbout(Used x, int shelf, int... want) {
        for (int what = 0; what < want.length; what++) due("about(" + shelf + ", " + what + ")", x.about(shelf, what), want[what]);
    }

    /** What pair() tells from 0 on. */
    static void duePair(Used x, int pair, int... want) {
        for (int what = 0; what < want.length; what++) due("pair(" + pair + ", " + what + ")", x.pair(pair, what), want[what]);
    }

    /** What count() tells from 0 on. */
    static void dueCounts(Used x, int... want) {
        for (int what = 0; what < want.length; what++) due("count(" + what + ")", x.count(what), want[what]);
    }
}
