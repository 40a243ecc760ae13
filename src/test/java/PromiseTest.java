/** Each promise by its number: ordinary inputs, the edges that the document names, wrong inputs. */
public final class PromiseTest extends Check {
    private static long digestOf(int... told) {
        long h = 1487;
        for (int number : told) h = 31 * h + number;
        return h;
    }

    public static void main(String[] args) {
        newObject();
        letters();
        blanks();
        faults();
        puts();
        numbers();
        symbols();
        squares();
        ats();
        abouts();
        likes();
        meets();
        rows();
        ways();
        clears();
        joins();
        productsOfForms();
        scales();
        turns();
        drops();
        undos();
        pairs();
        mets();
        lays();
        counts();
        digests();
        refusalsChangeNothing();
        end("PromiseTest");
    }

    private static void newObject() {
        sentence(1);
        Used x = new Used();
        for (int what = 0; what <= 9; what++) due("count(" + what + ")", x.count(what), 0);
        for (int shelf = 0; shelf < 8; shelf++) due("about", x.about(shelf, 0), UNKNOWN);
        due("pair", x.pair(0, 0), UNKNOWN);
        due("undo", x.undo(), STATE);
        due("blank", x.blank(), 0);
        due("digest", x.digest(), digestOf(new int[18]));
        with("1,2").put(0);
        due("another object", new Used().count(0), 0);
    }

    private static void letters() {
        sentence(2);
        Used x = new Used();
        due("letter(31)", x.letter(31), OUTSIDE);
        due("letter(127)", x.letter(127), OUTSIDE);
        for (int code : FAR) due("letter", x.letter(code), OUTSIDE);
        due("letter(32)", x.letter(32), 1);
        due("letter(126)", x.letter(126), 2);
        for (int k = 3; k <= 18; k++) due("letter " + k, x.letter('7'), k);
        due("letter 19", x.letter('7'), FULL);
        due("letter 19, outside", x.letter(31), OUTSIDE);
        due("count(4)", x.count(4), 18);
        due("blank", x.blank(), 18);
        due("letter", x.letter('7'), 1);
    }

    private static void blanks() {
        sentence(3);
        Used x = new Used();
        due("blank", x.blank(), 0);
        type(x, "1,x");
        due("blank", x.blank(), 3);
        due("blank", x.blank(), 0);
        due("fault", x.fault(), 0);
        type(x, "5");
        due("put", x.put(0), 1);
        dueForm(x, 0, "5");
    }

    private static void dueFault(String text, int want) {
        Used x = new Used();
        type(x, text);
        due("fault of \"" + text + "\"", x.fault(), want);
        due("fault again of \"" + text + "\"", x.fault(), want);
        due("length of \"" + text + "\"", x.count(4), text.length());
    }

    private static void faults() {
        sentence(4);
        String[] good = {"", "-", "1", "-1", "1,", "1,-", "12,-98,99,-99", "9,8,7,6", "96", "-64,"};
        for (String text : good) dueFault(text, text.length());
        dueFault("0", 0);
        dueFault("-0", 1);
        dueFault("--1", 1);
        dueFault("1-", 1);
        dueFault("17", 1);
        dueFault("-97", 2);
        dueFault("38", 1);
        dueFault("34", 1);
        dueFault("100", 2);
        dueFault("10", 2);
        dueFault("01", 0);
        dueFault(",1", 0);
        dueFault("1,,1", 2);
        dueFault("-,1", 1);
        dueFault("1, 2", 2);
        dueFault(" 1", 0);
        dueFault("+1", 0);
        dueFault("1.", 1);
        dueFault("1,2,3,4,", 7);
        dueFault("-12,-24,-36,-48,", 15);
        dueFault("-12,-24,-36,-487", 15);
        dueFault("1,2,3,4,5", 7);
        dueFault("1/", 1);
        dueFault("1:", 1);
    }

    private static void puts() {
        sentence(5);
        Used x = new Used();
        due("put(0) of nothing", x.put(0), STATE);
        String[] none = {"-", "1,", "1,-", "0", "17", "1,2,3,4,", "1,2,3,4,5", "1 ", "1,19", "-1,-"};
        for (String text : none) {
            due("put of \"" + text + "\"", put(x, 0, text), STATE);
            due("length of \"" + text + "\"", x.count(4), text.length());
            due("put(8) of \"" + text + "\"", x.put(8), UNKNOWN);
        }
        due("count(8)", x.count(8), 0);
        due("put", put(x, 7, "-98,30,7,12"), 4);
        due("count(4)", x.count(4), 0);
        dueForm(x, 7, "-2,30,7,3");
        type(x, "8,-72");
        due("put(-1)", x.put(-1), UNKNOWN);
        due("put(8)", x.put(8), UNKNOWN);
        for (int shelf : FAR) due("put far", x.put(shelf), UNKNOWN);
        due("count(4)", x.count(4), 5);
        due("put(7)", x.put(7), 2);
        dueForm(x, 7, "2,-2");
        due("put", put(x, 0, "-99,-98,-96,-91"), 4);
        dueForm(x, 0, "-11,-2,-6,-91");
        due("count(3)", x.count(3), 3);
    }

    private static void numbers() {
        sentence(6);
        Used x = new Used();
        int[] numbers = {1, -1, 2, 4, -8, 3, 9, 30, 77, 91, -99, 98, 64, 96, 13, -26};
        int[] kinds = {0, 1, 2, 0, 3, 4, 0, 14, 48, 80, 33, 2, 0, 6, 64, 67};
        for (int k = 0; k < numbers.length; k++) due("classOf(" + numbers[k] + ")", x.classOf(numbers[k]), kinds[k]);
        int[] outside = {0, 100, -100, 17, -17, 19, 34, 51, 85, 97, -97, 38, 62, 74, 82, 86, 94, 46, 58, 95, 93};
        for (int number : outside) due("classOf(" + number + ")", x.classOf(number), OUTSIDE);
        for (int number : FAR) due("classOf far", x.classOf(number), OUTSIDE);
        sentence(7);
        int[] cores = {1, -1, 2, -2, 3, -3, 6, -6, 5};
        for (int kind = 0; kind < cores.length; kind++) due("core(" + kind + ")", x.core(kind), cores[kind]);
        due("core(64)", x.core(64), 13);
        due("core(126)", x.core(126), 30030);
        due("core(127)", x.core(127), -30030);
        due("core(128)", x.core(128), OUTSIDE);
        due("core(-1)", x.core(-1), OUTSIDE);
        for (int kind : FAR) due("core far", x.core(kind), OUTSIDE);
    }

    private static void symbols() {
        sentence(8);
        Used x = new Used();
        due("symbol(1, 1, 0)", x.symbol(1, 1, 0), -1);
        due("symbol(1, 1, 1)", x.symbol(1, 1, 1), -1);
        for (int place = 2; place < 7; place++) due("symbol(1, 1, " + place + ")", x.symbol(1, 1, place), 1);
        due("symbol(1, 2, 0)", x.symbol(1, 2, 0), 1);
        due("symbol(2, 8, 1)", x.symbol(2, 8, 1), -1);
        due("symbol(2, 8, 3)", x.symbol(2, 8, 3), -1);
        due("symbol(4, 8, 2)", x.symbol(4, 8, 2), -1);
        due("symbol(4, 8, 3)", x.symbol(4, 8, 3), -1);
        due("symbol(4, 8, 1)", x.symbol(4, 8, 1), 1);
        due("symbol(4, 4, 2)", x.symbol(4, 4, 2), -1);
        due("symbol(64, 1, 6)", x.symbol(64, 1, 6), 1);
        due("symbol(32, 1, 5)", x.symbol(32, 1, 5), -1);
        for (int one = 0; one < 128; one++) {
            for (int other = 0; other < 128; other++) {
                Used anew = new Used();
                int product = 1;
                for (int place = 0; place < 7; place++) product *= anew.symbol(one, other, place);
                due("symbols of all PLACES of " + one + ", " + other, product, 1);
            }
        }
        due("symbol(0, 0, -1)", x.symbol(0, 0, -1), UNKNOWN);
        due("symbol(128, 0, 7)", x.symbol(128, 0, 7), UNKNOWN);
        due("symbol(128, 0, 6)", x.symbol(128, 0, 6), OUTSIDE);
        due("symbol(0, 128, 0)", x.symbol(0, 128, 0), OUTSIDE);
        due("symbol(-1, 0, 0)", x.symbol(-1, 0, 0), OUTSIDE);
        due("symbol(0, -1, 0)", x.symbol(0, -1, 0), OUTSIDE);
        for (int far : FAR) {
            due("symbol far", x.symbol(far, 0, 1), OUTSIDE);
            due("symbol far", x.symbol(0, far, 1), OUTSIDE);
            due("symbol far", x.symbol(far, far, far), UNKNOWN);
        }
    }

    private static void squares() {
        sentence(9);
        Used x = new Used();
        for (int place = 0; place < 7; place++) due("square(0, " + place + ")", x.square(0, place), 1);
        int[] minusOne = {0, 0, 0, 1, 0, 0, 1};
        for (int place = 0; place < 7; place++) due("square(1, " + place + ")", x.square(1, place), minusOne[place]);
        int[] two = {1, 0, 0, 0, 1, 0, 0};
        for (int place = 0; place < 7; place++) due("square(2, " + place + ")", x.square(2, place), two[place]);
        due("-7 at 2", x.square(17, 1), 1);
        due("-15 at 2", x.square(13, 1), 1);
        due("33 at 2", x.square(36, 1), 1);
        due("5 at 2", x.square(8, 1), 0);
        due("13 at 13", x.square(64, 6), 0);
        due("square(0, 7)", x.square(0, 7), UNKNOWN);
        due("square(128, -1)", x.square(128, -1), UNKNOWN);
        due("square(128, 0)", x.square(128, 0), OUTSIDE);
        due("square(-1, 0)", x.square(-1, 0), OUTSIDE);
        for (int far : FAR) {
            due("square far", x.square(far, 0), OUTSIDE);
            due("square far", x.square(far, far), UNKNOWN);
        }
    }

    private static void ats() {
        sentence(10);
        Used x = with("1,-5,14");
        due("at(0, 0)", x.at(0, 0), 1);
        due("at(0, 1)", x.at(0, 1), -5);
        due("at(0, 2)", x.at(0, 2), 14);
        due("at(0, 3)", x.at(0, 3), UNKNOWN);
        due("at(0, -1)", x.at(0, -1), UNKNOWN);
        due("at(1, 0)", x.at(1, 0), UNKNOWN);
        due("at(8, 0)", x.at(8, 0), UNKNOWN);
        due("at(-1, 0)", x.at(-1, 0), UNKNOWN);
        for (int far : FAR) {
            due("at far", x.at(far, 0), UNKNOWN);
            due("at far", x.at(0, far), UNKNOWN);
        }
    }

    private static void abouts() {
        sentence(11);
        Used x = with("1,-5,14", "1,1,-2", "1,1,1,1", "1,-1", "1,-1,1,-1", "-7", "1,-1,1,-2", "3,3");
        dueAbout(x, 0, 3, 2, 27, 0, 18, 0, 27, 0, 0);
        dueAbout(x, 1, 3, 2, 3, 0, 0, 1, 2, 0, 1);
        dueAbout(x, 2, 4, 4, 0, 0, 3, 0, 0, 0, 2);
        dueAbout(x, 3, 2, 1, 1, 0, 0, 1, 0, 0, 3);
        // Two PLANES go out: the SYMBOL of -1 and -1 is -1 at the REAL one and at 2.
        dueAbout(x, 4, 4, 2, 0, 3, 0, 2, 0, 0, 4);
        dueAbout(x, 5, 1, 0, 17, 0, 127, 0, 17, 0, 5);
        dueAbout(x, 6, 4, 2, 2, 3, 0, 1, 3, 0, 6);
        dueAbout(x, 7, 2, 2, 0, 6, 55, 0, 0, 6, 7);
        // By 2, 1, 1 this comes to nothing, an even number ahead of odd ones.
        dueAbout(with("1,2,-6"), 0, 3, 2, 5, 6, 0, 1, 4, 0);
        due("about(0, -1)", x.about(0, -1), OUTSIDE);
        due("about(0, 9)", x.about(0, 9), OUTSIDE);
        for (int far : FAR) due("about far", x.about(0, far), OUTSIDE);
        for (int far : FAR) due("about far", x.about(far, 0), UNKNOWN);
        due("about(8, 9)", x.about(8, 9), UNKNOWN);
        due("about(-1, 0)", x.about(-1, 0), UNKNOWN);
        x.clear(0);
        due("about(0, 0)", x.about(0, 0), UNKNOWN);
        Used same = with("7", "2,2", "1,1", "1,1", "5,5", "2,-2", "1,-1");
        int[] least = {0, 1, 1, 1, 1, 5, 5};
        for (int shelf = 0; shelf < 7; shelf++) due("about(" + shelf + ", 8)", same.about(shelf, 8), least[shelf]);
        same.clear(1);
        due("about(4, 8)", same.about(4, 8), 2);
    }

    private static void likes() {
        sentence(12);
        Used x = with("1,-5,14", "1,1,-2", "1,1", "-1,-1", "2,2", "3,3", "1");
        due("like(0, 1)", x.like(0, 1), 62);
        due("like(1, 0)", x.like(1, 0), 62);
        due("like(0, 0)", x.like(0, 0), 0);
        due("like(2, 3)", x.like(2, 3), 3);
        due("like(2, 4)", x.like(2, 4), 0);
        due("like(2, 5)", x.like(2, 5), 6);
        due("like(2, 6)", x.like(2, 6), 127);
        due("like(0, 7)", x.like(0, 7), UNKNOWN);
        due("like(7, 0)", x.like(7, 0), UNKNOWN);
        due("like(0, 8)", x.like(0, 8), UNKNOWN);
        due("like(-1, 0)", x.like(-1, 0), UNKNOWN);
        for (int far : FAR) {
            due("like far", x.like(0, far), UNKNOWN);
            due("like far", x.like(far, 0), UNKNOWN);
        }
    }

    private static void meets() {
        sentence(13);
        Used x = with("1,1,1", "1", "1,1");
        due("meets(0, 7)", x.meets(0, 7), 2);
        due("meets(0, -7)", x.meets(0, -7), 1);
        due("meets(0, 3)", x.meets(0, 3), 0);
        due("meets(1, 64)", x.meets(1, 64), 0);
        due("meets(1, 2)", x.meets(1, 2), 110);
        due("meets(2, 3)", x.meets(2, 3), 6);
        due("meets(2, 5)", x.meets(2, 5), 0);
        due("meets(2, 99)", x.meets(2, 99), 34);
        due("meets(0, 0)", x.meets(0, 0), OUTSIDE);
        due("meets(0, 17)", x.meets(0, 17), OUTSIDE);
        due("meets(0, 100)", x.meets(0, 100), OUTSIDE);
        due("meets(3, 0)", x.meets(3, 0), UNKNOWN);
        due("meets(8, 1)", x.meets(8, 1), UNKNOWN);
        due("meets(-1, 1)", x.meets(-1, 1), UNKNOWN);
        for (int far : FAR) {
            due("meets far", x.meets(0, far), OUTSIDE);
            due("meets far", x.meets(far, 1), UNKNOWN);
        }
    }

    private static void dueRow(String form, int... want) {
        Used x = with(form);
        for (int term = 0; term < want.length; term++) due("row(0, " + term + ") of " + form, x.row(0, term), want[term]);
        due("row of one more", x.row(0, want.length), UNKNOWN);
    }

    private static void rows() {
        sentence(14);
        dueRow("1,1,-2", 1, 1, 1);
        dueRow("1,-5,14", -1, -1, -1);
        dueRow("1,-1", 1, 1);
        dueRow("5", -1);
        dueRow("1,1,-1", 0, 1, 1);
        dueRow("-1,1,1", 1, 0, 1);
        dueRow("1,-1,1,-1", 0, 0, 1, 1);
        dueRow("1,2,-3,-6", 1, 1, 1, 0);
        dueRow("1,1,2,-7", 1, 2, 1, 1);
        dueRow("1,1,-13", 2, 3, 1);
        dueRow("1,13,-77", 5, 2, 1);
        // The greatest number is least, not that of the first TERMS: 1, 5, 8 is another row.
        dueRow("15,-39,15", 4, 5, 7);
        dueRow("-65,1,-10", 1, 15, 4);
        // The least row here is 1, 9, 22, which is no ROW.
        dueRow("-77,-11,2", -1, -1, -1);
        Used x = with("1,1,-2");
        due("row(0, 3)", x.row(0, 3), UNKNOWN);
        due("row(0, -1)", x.row(0, -1), UNKNOWN);
        due("row(1, 0)", x.row(1, 0), UNKNOWN);
        for (int far : FAR) {
            due("row far", x.row(0, far), UNKNOWN);
            due("row far", x.row(far, 0), UNKNOWN);
        }
    }

    private static void dueWay(String form, int number, int... want) {
        Used x = with(form);
        for (int term = 0; term < want.length; term++)
            due("way(0, " + number + ", " + term + ") of " + form, x.way(0, number, term), want[term]);
        due("way of one more", x.way(0, number, want.length), UNKNOWN);
    }

    private static void ways() {
        sentence(15);
        dueWay("1,-5,14", 7, 7, 0, 1, 3);
        dueWay("1,1,-2", 77, 6, 7, 2, 1);
        dueWay("1,1,1,1", 7, 1, 1, 1, 2, 1);
        dueWay("1,1,1", 7, -1, -1, -1, -1);
        dueWay("1", 4, 1, 1);
        dueWay("1", 2, -1, -1);
        dueWay("1,1", 5, 1, 2, 1);
        // A row whose last number is 0 is no WAY: 1, 1, 0 would be the least here.
        dueWay("1,-1", 3, 2, 1, 1);
        dueWay("1,1,1,1", 1, 0, 0, 0, 1, 1);
        dueWay("-78,15", 2, 1, 4, 9);
        // The least row here is 1, 11, 2, which is no WAY.
        dueWay("-77,1", 11, -1, -1, -1);
        Used x = with("1,1");
        due("way(0, 5, 3)", x.way(0, 5, 3), UNKNOWN);
        due("way(0, 17, 3)", x.way(0, 17, 3), UNKNOWN);
        due("way(0, 17, 2)", x.way(0, 17, 2), OUTSIDE);
        due("way(0, 0, 0)", x.way(0, 0, 0), OUTSIDE);
        due("way(0, 5, -1)", x.way(0, 5, -1), UNKNOWN);
        due("way(1, 5, 0)", x.way(1, 5, 0), UNKNOWN);
        due("way(8, 0, 0)", x.way(8, 0, 0), UNKNOWN);
        for (int far : FAR) {
            due("way far", x.way(0, far, 0), OUTSIDE);
            due("way far", x.way(0, 5, far), UNKNOWN);
            due("way far", x.way(far, 5, 0), UNKNOWN);
        }
    }

    private static void clears() {
        sentence(16);
        Used x = with("1,2,3", "5");
        due("clear(0)", x.clear(0), 3);
        dueForm(x, 0, "none");
        due("clear(0)", x.clear(0), UNKNOWN);
        due("clear(8)", x.clear(8), UNKNOWN);
        due("clear(-1)", x.clear(-1), UNKNOWN);
        for (int far : FAR) due("clear far", x.clear(far), UNKNOWN);
        due("clear(1)", x.clear(1), 1);
        due("count(0)", x.count(0), 0);
        due("count(8)", x.count(8), 4);
        due("undo", x.undo(), 1);
        dueForm(x, 1, "5");
    }

    private static void joins() {
        sentence(17);
        Used x = with("2,3", "-6", "1,1,1");
        due("join(0, 1, 3)", x.join(0, 1, 3), 3);
        dueForm(x, 3, "2,3,-6");
        due("join(1, 0, 1)", x.join(1, 0, 1), 3);
        dueForm(x, 1, "-6,2,3");
        due("join(0, 0, 0)", x.join(0, 0, 0), 4);
        dueForm(x, 0, "2,3,2,3");
        due("about(0, 4)", x.about(0, 4), 5);
        due("join(0, 2, 5)", x.join(0, 2, 5), FULL);
        due("join(2, 2, 2)", x.join(2, 2, 2), FULL);
        due("join(2, 2, 8)", x.join(2, 2, 8), UNKNOWN);
        due("join(2, 2, -1)", x.join(2, 2, -1), UNKNOWN);
        due("join(7, 2, 0)", x.join(7, 2, 0), UNKNOWN);
        due("join(2, 7, 0)", x.join(2, 7, 0), UNKNOWN);
        for (int far : FAR) {
            due("join far", x.join(far, 0, 0), UNKNOWN);
            due("join far", x.join(0, far, 0), UNKNOWN);
            due("join far", x.join(0, 0, far), UNKNOWN);
        }
        dueForm(x, 2, "1,1,1");
    }

    private static void productsOfForms() {
        sentence(18);
        Used x = with("2,3", "-6", "1,1,1", "5,7");
        due("times(0, 3, 4)", x.times(0, 3, 4), 4);
        dueForm(x, 4, "10,14,15,21");
        due("times(3, 0, 3)", x.times(3, 0, 3), 4);
        dueForm(x, 3, "10,15,14,21");
        due("times(0, 1, 1)", x.times(0, 1, 1), 2);
        dueForm(x, 1, "-3,-2");
        due("times(0, 0, 0)", x.times(0, 0, 0), 4);
        dueForm(x, 0, "1,6,6,1");
        due("times(2, 1, 5)", x.times(2, 1, 5), FULL);
        due("times(2, 2, 5)", x.times(2, 2, 5), FULL);
        due("times(2, 2, 8)", x.times(2, 2, 8), UNKNOWN);
        due("times(5, 2, 0)", x.times(5, 2, 0), UNKNOWN);
        due("times(2, 5, 0)", x.times(2, 5, 0), UNKNOWN);
        for (int far : FAR) {
            due("times far", x.times(far, 0, 0), UNKNOWN);
            due("times far", x.times(0, far, 0), UNKNOWN);
            due("times far", x.times(0, 0, far), UNKNOWN);
        }
    }

    private static void scales() {
        sentence(19);
        Used x = with("2,3,-5", "7");
        due("scale(0, 6)", x.scale(0, 6), 9);
        dueForm(x, 0, "3,2,-30");
        due("scale(0, 6)", x.scale(0, 6), 15);
        dueForm(x, 0, "2,3,-5");
        due("scale(1, -98)", x.scale(1, -98), 19);
        dueForm(x, 1, "-14");
        due("scale(1, 4)", x.scale(1, 4), 19);
        due("count(8)", x.count(8), 6);
        due("scale(0, 0)", x.scale(0, 0), OUTSIDE);
        due("scale(0, 17)", x.scale(0, 17), OUTSIDE);
        due("scale(0, 100)", x.scale(0, 100), OUTSIDE);
        due("scale(2, 0)", x.scale(2, 0), UNKNOWN);
        due("scale(8, 1)", x.scale(8, 1), UNKNOWN);
        for (int far : FAR) {
            due("scale far", x.scale(0, far), OUTSIDE);
            due("scale far", x.scale(far, 1), UNKNOWN);
        }
    }

    private static void turns() {
        sentence(20);
        Used x = with("2,3,-2", "1,-1", "1,1");
        due("turn", x.turn(0, 0, 1, 1, 1), 5);
        dueForm(x, 0, "5,30,-2");
        due("turn", x.turn(0, 1, 0, 1, 1), 35);
        dueForm(x, 0, "210,35,-2");
        due("turn to 0", x.turn(1, 0, 1, 1, 1), STATE);
        due("turn to 0", x.turn(1, 0, 1, 0, 0), STATE);
        due("turn of 17", x.turn(2, 0, 1, 4, 1), STATE);
        due("turn of 289", x.turn(2, 0, 1, 15, 8), 1);
        dueForm(x, 2, "1,1");
        due("turn of 169", x.turn(2, 1, 0, 12, 5), 1);
        due("turn i, i", x.turn(2, 1, 1, 1, 1), STATE);
        due("turn i, i, outside", x.turn(2, 1, 1, 16, 1), OUTSIDE);
        due("turn outside", x.turn(2, 0, 1, 1, 16), OUTSIDE);
        due("turn outside", x.turn(2, 0, 1, -1, 1), OUTSIDE);
        due("turn outside", x.turn(2, 0, 1, 1, -1), OUTSIDE);
        due("turn unknown", x.turn(2, 2, 1, 16, 1), UNKNOWN);
        due("turn unknown", x.turn(2, 1, 2, 1, 1), UNKNOWN);
        due("turn unknown", x.turn(2, -1, 1, 1, 1), UNKNOWN);
        due("turn unknown", x.turn(2, 1, -1, 1, 1), UNKNOWN);
        due("turn unknown", x.turn(3, 0, 1, 1, 1), UNKNOWN);
        due("turn by one alone", x.turn(2, 0, 1, 0, 7), 1);
        for (int far : FAR) {
            due("turn far", x.turn(far, 0, 1, 1, 1), UNKNOWN);
            due("turn far", x.turn(2, far, 1, 1, 1), UNKNOWN);
            due("turn far", x.turn(2, 0, far, 1, 1), UNKNOWN);
            due("turn far", x.turn(2, 0, 1, far, 1), OUTSIDE);
            due("turn far", x.turn(2, 0, 1, 1, far), OUTSIDE);
        }
        Used great = with("42,-66");
        due("turn below 0", great.turn(0, 0, 1, 1, 1), -6);
        dueForm(great, 0, "-6,462");
        Used swap = with("2,3");
        due("turn that swaps", swap.turn(0, 0, 1, 0, 1), 3);
        dueForm(swap, 0, "3,2");
    }

    private static void drops() {
        sentence(21);
        Used x = with("2,3,5,7", "11");
        due("drop(0, 1)", x.drop(0, 1), 3);
        dueForm(x, 0, "2,5,7");
        due("drop(0, 2)", x.drop(0, 2), 2);
        dueForm(x, 0, "2,5");
        due("drop(0, 0)", x.drop(0, 0), 1);
        dueForm(x, 0, "5");
        due("drop(0, 0)", x.drop(0, 0), STATE);
        due("drop(0, 1)", x.drop(0, 1), UNKNOWN);
        due("drop(0, -1)", x.drop(0, -1), UNKNOWN);
        due("drop(2, 0)", x.drop(2, 0), UNKNOWN);
        due("drop(8, 0)", x.drop(8, 0), UNKNOWN);
        for (int far : FAR) {
            due("drop far", x.drop(far, 0), UNKNOWN);
            due("drop far", x.drop(0, far), UNKNOWN);
        }
        dueForm(x, 0, "5");
        dueForm(x, 1, "11");
    }

    private static void undos() {
        sentence(22);
        Used x = with("2,3", "5");
        x.pairs(84);
        x.join(0, 1, 2);
        x.times(0, 1, 1);
        x.turn(0, 0, 1, 1, 1);
        x.drop(2, 0);
        x.clear(0);
        x.lay(2, 0);
        x.scale(0, 5);
        put(x, 5, "7");
        int[] shelves = {5, 0, 0, 0, 2, 0, 1, 2, 1, 0};
        String[] forms = {"none", "3,7", "none", "5,30", "2,3,5", "2,3", "5", "none", "none", "none"};
        for (int k = 0; k < shelves.length; k++) {
            due("count(3)", x.count(3), 10 - k);
            due("undo " + k, x.undo(), shelves[k]);
            dueForm(x, shelves[k], forms[k]);
            due("count(9)", x.count(9), k + 1);
        }
        due("undo", x.undo(), STATE);
        due("count(8)", x.count(8), 10);
        due("count(9)", x.count(9), 10);
        due("PAIRS stay", x.count(5), 84);
        undoOfTwelve();
    }

    private static void undoOfTwelve() {
        Used x = new Used();
        for (int k = 0; k < 14; k++) put(x, k % 8, k % 2 == 0 ? "2" : "3");
        due("count(3)", x.count(3), 12);
        for (int k = 13; k >= 2; k--) due("undo", x.undo(), k % 8);
        due("undo", x.undo(), STATE);
        due("count(0)", x.count(0), 2);
        put(x, 4, "5");
        due("count(3)", x.count(3), 1);
        due("undo", x.undo(), 4);
        due("undo", x.undo(), STATE);
        due("count(8)", x.count(8), 15);
        due("count(9)", x.count(9), 13);
    }

    private static void pairs() {
        sentence(23);
        Used x = new Used();
        int[] outside = {-4, -1, 0, 1, 2, 5, 6, 9, 157, 158, 161, 163, 164, 1000};
        for (int n : outside) due("pairs(" + n + ")", x.pairs(n), OUTSIDE);
        for (int far : FAR) due("pairs far", x.pairs(far), OUTSIDE);
        due("count(5)", x.count(5), 0);
        int[] ns = {3, 4, 7, 8, 11, 12, 15, 16, 20, 23, 27, 28, 47, 71, 84, 95, 119, 131, 143, 159, 160};
        int[] sizes = {1, 1, 1, 1, 1, 1, 2, 1, 2, 3, 1, 1, 5, 7, 4, 8, 10, 5, 10, 10, 4};
        for (int k = 0; k < ns.length; k++) due("pairs(" + ns[k] + ")", x.pairs(ns[k]), sizes[k]);
        due("pairs(5)", x.pairs(5), OUTSIDE);
        due("count(5)", x.count(5), 160);
        sentence(24);
        due("pair, none open", new Used().pair(0, 9), UNKNOWN);
        x.pairs(3);
        duePair(x, 0, 1, 1, 1, 0, 1);
        x.pairs(20);
        duePair(x, 0, 1, 0, 5, 0, 2);
        duePair(x, 1, 2, 2, 3, 1, 2);
        x.pairs(23);
        duePair(x, 0, 1, 1, 6, 0, 11);
        duePair(x, 1, 2, -1, 3, 0, 11);
        duePair(x, 2, 2, 1, 3, 0, 11);
        due("pair(3, 0)", x.pair(3, 0), UNKNOWN);
        due("pair(3, 9)", x.pair(3, 9), UNKNOWN);
        due("pair(-1, 0)", x.pair(-1, 0), UNKNOWN);
        due("pair(0, 5)", x.pair(0, 5), OUTSIDE);
        due("pair(0, -1)", x.pair(0, -1), OUTSIDE);
        for (int far : FAR) {
            due("pair far", x.pair(far, 0), UNKNOWN);
            due("pair far", x.pair(0, far), OUTSIDE);
        }
        x.pairs(4);
        due("pair(1, 0), others no more", x.pair(1, 0), UNKNOWN);
    }

    private static void mets() {
        sentence(25);
        Used x = new Used();
        due("met, none open", x.met(0, 0), UNKNOWN);
        x.pairs(20);
        int[][] met = {{1, 9}, {3, 7}};
        for (int pair = 0; pair < 2; pair++)
            for (int rest = 0; rest < 20; rest++)
                due("met(" + pair + ", " + rest + ")", x.met(pair, rest), rest == met[pair][0] || rest == met[pair][1] ? 1 : 0);
        due("met(0, 20)", x.met(0, 20), OUTSIDE);
        due("met(0, -1)", x.met(0, -1), OUTSIDE);
        due("met(2, -1)", x.met(2, -1), UNKNOWN);
        due("met(-1, 0)", x.met(-1, 0), UNKNOWN);
        for (int far : FAR) {
            due("met far", x.met(far, 0), UNKNOWN);
            due("met far", x.met(0, far), OUTSIDE);
        }
        x.pairs(3);
        due("met(0, 2)", x.met(0, 2), 0);
        due("met(0, 3)", x.met(0, 3), OUTSIDE);
        x.pairs(160);
        due("met(0, 159)", x.met(0, 159), 0);
        due("met(0, 81)", x.met(0, 81), 1);
    }

    private static void lays() {
        sentence(26);
        Used x = new Used();
        due("lay, none open", x.lay(0, 0), UNKNOWN);
        x.pairs(84);
        due("lay(1, 1)", x.lay(1, 1), 20);
        dueForm(x, 1, "2,42");
        due("lay(3, 1)", x.lay(3, 1), 20);
        dueForm(x, 1, "5,105");
        due("lay(4, 1)", x.lay(4, 1), UNKNOWN);
        due("lay(-1, 1)", x.lay(-1, 1), UNKNOWN);
        due("lay(0, 8)", x.lay(0, 8), UNKNOWN);
        due("lay(0, -1)", x.lay(0, -1), UNKNOWN);
        due("count(8)", x.count(8), 2);
        x.pairs(68);
        due("lay, 17 goes into 68", x.lay(0, 0), STATE);
        due("lay, 17 goes into 68", x.lay(0, 8), UNKNOWN);
        for (int far : FAR) {
            due("lay far", x.lay(far, 0), UNKNOWN);
            due("lay far", x.lay(0, far), UNKNOWN);
        }
        x.pairs(143);
        due("lay(0, 0)", x.lay(0, 0), 96);
        dueForm(x, 0, "1,143");
    }

    private static void counts() {
        sentence(27);
        Used x = with("1,1", "2,2", "3,3", "7", "1,1");
        x.pairs(84);
        x.pairs(23);
        x.undo();
        type(x, "12x");
        int[] want = {4, 7, 3, 4, 3, 23, 3, 1, 5, 1};
        for (int what = 0; what < want.length; what++) due("count(" + what + ")", x.count(what), want[what]);
        due("count(-1)", x.count(-1), OUTSIDE);
        due("count(10)", x.count(10), OUTSIDE);
        for (int far : FAR) due("count far", x.count(far), OUTSIDE);
        x.pairs(84);
        due("count(7)", x.count(7), 4);
    }

    private static void digests() {
        sentence(28);
        Used x = new Used();
        put(x, 1, "1,1,-2");
        x.pairs(4);
        type(x, "-7");
        due("digest", x.digest(), digestOf(0, 3, 2, 3, 0, 0, 1, 2, 0, 1, 1, 1, -2, 0, 0, 0, 0, 0, 0,
                1, 0, 1, 0, 1, 45, 55, 1, 3, 1, 1, 2, 4, 1, 1, 1, 0));
        due("digest again", x.digest(), x.digest());
    }

    private static void refusalsChangeNothing() {
        sentence(0, "they change nothing");
        Used x = with("1,2", "3,5,7", "11");
        x.pairs(68);
        type(x, "1,");
        long before = x.digest();
        x.letter(31);
        x.put(0);
        x.put(9);
        x.classOf(0);
        x.core(128);
        x.symbol(0, 0, 7);
        x.square(0, 7);
        x.clear(3);
        x.join(0, 1, 0);
        x.join(0, 3, 0);
        x.times(0, 1, 0);
        x.scale(0, 17);
        x.turn(0, 0, 0, 1, 1);
        x.drop(2, 0);
        x.pairs(5);
        x.lay(0, 0);
        x.fault();
        x.row(0, 0);
        x.way(0, 3, 0);
        x.meets(0, 3);
        due("digest", x.digest(), before);
        dueForm(x, 0, "1,2");
    }
}
