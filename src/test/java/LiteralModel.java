import java.util.ArrayDeque;
import java.util.ArrayList;
import java.util.Arrays;
import java.util.HashMap;
import java.util.HashSet;
import java.util.List;
import java.util.Map;
import java.util.Set;

/**
 * The document, word for word and slowly: what is to be sought is sought by trying all, so that it
 * shares no thought with FormPlaces. ModelTest holds the two against one another.
 */
final class LiteralModel {
    static final int NONE = -1, UNKNOWN = -101, OUTSIDE = -102, STATE = -103, FULL = -104;
    private static final int[] PRIMES = {2, 3, 5, 7, 11, 13};
    private static final Map<Long, Boolean> VANISHES = new HashMap<>();
    private static final Map<List<Integer>, Integer> HASSES = new HashMap<>();
    private static final Map<String, Integer> NUMBERS = numberTexts();
    private static final Map<String, int[]> ROWS = new HashMap<>();
    private static final Map<Integer, List<int[]>> PAIRS = new HashMap<>();
    private static final Map<String, Set<Integer>> METS = new HashMap<>();

    private final StringBuilder page = new StringBuilder();
    private final List<List<Integer>> shelves = new ArrayList<>();
    private final ArrayDeque<Object[]> steps = new ArrayDeque<>();
    private int done, undone, n;

    LiteralModel() {
        for (int k = 0; k < 8; k++) shelves.add(null);
    }

    // ---- terms of the document

    static boolean isNumber(int number) {
        if (number < -99 || number > 99 || number == 0) return false;
        return !hasPrimeAbove13(number);
    }

    static boolean hasPrimeAbove13(int number) {
        int size = Math.abs(number);
        for (int d = 2; d <= size; d++) {
            boolean prime = true;
            for (int e = 2; e < d; e++) prime &= d % e != 0;
            if (prime && d > 13 && size % d == 0) return true;
        }
        return false;
    }

    static int classOfWhole(long whole) {
        int kind = whole < 0 ? 1 : 0;
        for (int k = 0; k < 6; k++) {
            int times = 0;
            for (long left = whole; left % PRIMES[k] == 0; left /= PRIMES[k]) times++;
            if (times % 2 == 1) kind += 1 << (k + 1);
        }
        return kind;
    }

    static int coreOf(int kind) {
        int product = 1;
        for (int k = 0; k < 6; k++) if ((kind & 1 << (k + 1)) != 0) product *= PRIMES[k];
        return (kind & 1) != 0 ? -product : product;
    }

    static int q(int place) {
        return place == 1 ? 16 : PRIMES[place - 1] * PRIMES[place - 1];
    }

    static boolean isSquare(int kind, int place) {
        int core = coreOf(kind);
        if (place == 0) return core > 0;
        for (int x = 0; x < q(place); x++) {
            if (x % PRIMES[place - 1] != 0 && (x * x - core) % q(place) == 0) return true;
        }
        return false;
    }

    /** Whether numbers, not all multiples of the PRIME, bring the sum of core times square to a multiple of Q. */
    static boolean reachesNothing(List<Integer> cores, int place) {
        int q = q(place);
        List<Integer> rests = new ArrayList<>();
        long key = place;
        for (int core : cores) {
            rests.add(Math.floorMod(core, q));
            key = 200 * key + 1 + Math.floorMod(core, q);
        }
        Boolean known = VANISHES.get(key);
        if (known != null) return known;
        boolean[][] reached = new boolean[2][q];
        reached[0][0] = true;
        for (int core : rests) {
            boolean[][] next = new boolean[2][q];
            boolean[][] squares = new boolean[2][q];
            for (int x = 0; x < q; x++) squares[x % PRIMES[place - 1] != 0 ? 1 : 0][x * x % q] = true;
            for (int s = 0; s < 2; s++) for (int square = 0; square < q; square++) if (squares[s][square])
                for (int some = 0; some < 2; some++) for (int r = 0; r < q; r++) if (reached[some][r])
                    next[some | s][(r + core * square) % q] = true;
            reached = next;
        }
        VANISHES.put(key, reached[1][0]);
        return reached[1][0];
    }

    static int symbolAt(int one, int other, int place) {
        int a = coreOf(one), b = coreOf(other);
        if (place == 0) return a < 0 && b < 0 ? -1 : 1;
        return reachesNothing(Arrays.asList(a, b, -1), place) ? 1 : -1;
    }

    static List<Integer> coresOf(List<Integer> form) {
        List<Integer> cores = new ArrayList<>();
        for (int kind : form) cores.add(coreOf(kind));
        return cores;
    }

    static boolean vanishes(List<Integer> form, int place) {
        List<Integer> cores = coresOf(form);
        if (place > 0) return reachesNothing(cores, place);
        boolean above = false, below = false;
        for (int core : cores) {
            above |= core > 0;
            below |= core < 0;
        }
        return above && below;
    }

    static int bars(List<Integer> form) {
        int bits = 0;
        for (int place = 0; place < 7; place++) if (!vanishes(form, place)) bits += 1 << place;
        return bits;
    }

    static int above(List<Integer> form) {
        int above = 0;
        for (int core : coresOf(form)) if (core > 0) above++;
        return above;
    }

    static int det(List<Integer> form) {
        int det = 0;
        for (int kind : form) det ^= kind;
        return det;
    }

    static int hasse(List<Integer> form) {
        return HASSES.computeIfAbsent(new ArrayList<>(form), LiteralModel::findHasse);
    }

    private static int findHasse(List<Integer> form) {
        int bits = 0;
        for (int place = 0; place < 7; place++) {
            int product = 1;
            for (int i = 0; i < form.size(); i++)
                for (int j = i + 1; j < form.size(); j++) product *= symbolAt(form.get(i), form.get(j), place);
            if (product == -1) bits += 1 << place;
        }
        return bits;
    }

    static int planes(List<Integer> form) {
        if (bars(form) != 0) return 0;
        return form.size() == 4 && det(form) == 0 ? 2 : 1;
    }

    static int restDet(List<Integer> form) {
        int det = det(form);
        for (int k = 0; k < planes(form); k++) det ^= 1;
        return det;
    }

    static int restHasse(List<Integer> form) {
        if (planes(form) == 0) return hasse(form);
        if (form.size() - 2 * planes(form) == 0) return 0;
        int bits = hasse(form);
        for (int place = 0; place < 7; place++) if (symbolAt(1, restDet(form), place) == -1) bits ^= 1 << place;
        return bits;
    }

    static List<Integer> longer(List<Integer> form, int number) {
        List<Integer> longer = new ArrayList<>(form);
        longer.add(classOfWhole(number) ^ 1);
        return longer;
    }

    static int unlike(List<Integer> one, List<Integer> other) {
        if (one.size() != other.size()) return 127;
        int bits = above(one) != above(other) ? 1 : 0;
        for (int place = 1; place < 7; place++) {
            boolean sameHasse = (hasse(one) & 1 << place) == (hasse(other) & 1 << place);
            if (!isSquare(det(one) ^ det(other), place) || !sameHasse) bits += 1 << place;
        }
        return bits;
    }

    static int[] leastRow(List<Integer> form, int most, boolean lastNotZero) {
        String key = form + ":" + most + lastNotZero;
        if (ROWS.containsKey(key)) return ROWS.get(key);
        List<Integer> listed = coresOf(form);
        int terms = listed.size();
        int[] cores = new int[terms];
        for (int k = 0; k < terms; k++) cores[k] = listed.get(k);
        int all = 1;
        for (int k = 0; k < terms; k++) all *= most + 1;
        int[] best = null;
        int bestMost = Integer.MAX_VALUE;
        int[] row = new int[terms];
        for (int code = 1; code < all; code++) {
            int left = code, sum = 0, greatest = 0;
            for (int k = terms - 1; k >= 0; k--) {
                row[k] = left % (most + 1);
                left /= most + 1;
                sum += cores[k] * row[k] * row[k];
                greatest = Math.max(greatest, row[k]);
            }
            if (sum != 0 || lastNotZero && row[terms - 1] == 0) continue;
            if (greatest < bestMost) {
                bestMost = greatest;
                best = row.clone();
            }
        }
        ROWS.put(key, best);
        return best;
    }

    static int common(int... numbers) {
        for (int d = 200; d > 1; d--) {
            boolean all = true;
            for (int number : numbers) all &= number % d == 0;
            if (all) return d;
        }
        return 1;
    }

    static List<int[]> pairsOf(int n) {
        if (n == 0) return new ArrayList<>();
        return PAIRS.computeIfAbsent(n, key -> {
            List<int[]> list = new ArrayList<>();
            for (int a = 1; a <= n; a++)
                for (int b = -a + 1; b <= a; b++)
                    for (int c = a; c <= n; c++)
                        if (4 * a * c - b * b == n && (a != c || b >= 0) && common(a, b, c) == 1)
                            list.add(new int[] {a, b, c});
            return list;
        });
    }

    static Set<Integer> metBy(int n, int pair) {
        return METS.computeIfAbsent(n + ":" + pair, key -> {
            int[] abc = pairsOf(n).get(pair);
            Set<Integer> rests = new HashSet<>();
            for (int x = 0; x < n; x++) for (int y = 0; y < n; y++) {
                int rest = Math.floorMod(abc[0] * x * x + abc[1] * x * y + abc[2] * y * y, n);
                if (common(rest, n) == 1) rests.add(rest);
            }
            return rests;
        });
    }

    static int genus(int n, int pair) {
        for (int other = 0; ; other++) if (metBy(n, other).equals(metBy(n, pair))) return other;
    }

    // ---- the calls

    private List<Integer> on(int shelf) {
        return shelf < 0 || shelf > 7 ? null : shelves.get(shelf);
    }

    private boolean hasTerm(int shelf, int term) {
        return on(shelf) != null && term >= 0 && term < on(shelf).size();
    }

    private void step(int shelf, List<Integer> form) {
        steps.addLast(new Object[] {shelf, shelves.get(shelf)});
        if (steps.size() > 12) steps.removeFirst();
        shelves.set(shelf, form);
        done++;
    }

    int letter(int code) {
        if (code < 32 || code > 126) return OUTSIDE;
        if (page.length() == 18) return FULL;
        page.append((char) code);
        return page.length();
    }

    int blank() {
        int had = page.length();
        page.setLength(0);
        return had;
    }

    private static Map<String, Integer> numberTexts() {
        Map<String, Integer> texts = new HashMap<>();
        for (int number = -99; number <= 99; number++)
            if (isNumber(number)) texts.put(Integer.toString(number), number);
        return texts;
    }

    private static Integer numberOf(String text) {
        return NUMBERS.get(text);
    }

    private static boolean beginsNumber(String text) {
        for (String number : NUMBERS.keySet()) if (number.startsWith(text)) return true;
        return false;
    }

    private static boolean beginsForm(String text) {
        String[] parts = text.split(",", -1);
        if (parts.length > 4) return false;
        for (int k = 0; k < parts.length - 1; k++) if (numberOf(parts[k]) == null) return false;
        return beginsNumber(parts[parts.length - 1]);
    }

    int fault() {
        for (int place = 0; place < page.length(); place++)
            if (!beginsForm(page.substring(0, place + 1))) return place;
        return page.length();
    }

    int put(int shelf) {
        if (shelf < 0 || shelf > 7) return UNKNOWN;
        String[] parts = page.toString().split(",", -1);
        if (parts.length > 4) return STATE;
        List<Integer> form = new ArrayList<>();
        for (String part : parts) {
            if (numberOf(part) == null) return STATE;
            form.add(classOfWhole(numberOf(part)));
        }
        page.setLength(0);
        step(shelf, form);
        return form.size();
    }

    int classOf(int number) {
        return isNumber(number) ? classOfWhole(number) : OUTSIDE;
    }

    int core(int kind) {
        return kind < 0 || kind > 127 ? OUTSIDE : coreOf(kind);
    }

    int symbol(int one, int other, int place) {
        if (place < 0 || place > 6) return UNKNOWN;
        if (one < 0 || one > 127 || other < 0 || other > 127) return OUTSIDE;
        return symbolAt(one, other, place);
    }

    int square(int kind, int place) {
        if (place < 0 || place > 6) return UNKNOWN;
        if (kind < 0 || kind > 127) return OUTSIDE;
        return isSquare(kind, place) ? 1 : 0;
    }

    int at(int shelf, int term) {
        return hasTerm(shelf, term) ? coreOf(on(shelf).get(term)) : UNKNOWN;
    }

    int about(int shelf, int what) {
        List<Integer> form = on(shelf);
        if (form == null) return UNKNOWN;
        switch (what) {
            case 0: return form.size();
            case 1: return above(form);
            case 2: return det(form);
            case 3: return hasse(form);
            case 4: return bars(form);
            case 5: return planes(form);
            case 6: return restDet(form);
            case 7: return restHasse(form);
            case 8:
                for (int other = 0; ; other++)
                    if (on(other) != null && unlike(on(other), form) == 0) return other;
            default: return OUTSIDE;
        }
    }

    int like(int one, int other) {
        return on(one) == null || on(other) == null ? UNKNOWN : unlike(on(one), on(other));
    }

    int meets(int shelf, int number) {
        if (on(shelf) == null) return UNKNOWN;
        return isNumber(number) ? bars(longer(on(shelf), number)) : OUTSIDE;
    }

    int row(int shelf, int term) {
        if (!hasTerm(shelf, term)) return UNKNOWN;
        int[] row = leastRow(on(shelf), 15, false);
        return row == null ? NONE : row[term];
    }

    int way(int shelf, int number, int term) {
        if (on(shelf) == null || term < 0 || term > on(shelf).size()) return UNKNOWN;
        if (!isNumber(number)) return OUTSIDE;
        int[] row = leastRow(longer(on(shelf), number), 9, true);
        return row == null ? NONE : row[term];
    }

    int clear(int shelf) {
        if (on(shelf) == null) return UNKNOWN;
        int rank = on(shelf).size();
        step(shelf, null);
        return rank;
    }

    int join(int one, int other, int to) {
        if (on(one) == null || on(other) == null || to < 0 || to > 7) return UNKNOWN;
        List<Integer> form = new ArrayList<>(on(one));
        form.addAll(on(other));
        if (form.size() > 4) return FULL;
        step(to, form);
        return form.size();
    }

    int times(int one, int other, int to) {
        if (on(one) == null || on(other) == null || to < 0 || to > 7) return UNKNOWN;
        List<Integer> form = new ArrayList<>();
        for (int first : on(one)) for (int second : on(other)) form.add(first ^ second);
        if (form.size() > 4) return FULL;
        step(to, form);
        return form.size();
    }

    int scale(int shelf, int number) {
        if (on(shelf) == null) return UNKNOWN;
        if (!isNumber(number)) return OUTSIDE;
        List<Integer> form = new ArrayList<>();
        for (int kind : on(shelf)) form.add(kind ^ classOfWhole(number));
        step(shelf, form);
        return det(form);
    }

    int turn(int shelf, int i, int j, int x, int y) {
        if (!hasTerm(shelf, i) || !hasTerm(shelf, j)) return UNKNOWN;
        if (x < 0 || x > 15 || y < 0 || y > 15) return OUTSIDE;
        List<Integer> form = new ArrayList<>(on(shelf));
        long c = (long) coreOf(form.get(i)) * x * x + (long) coreOf(form.get(j)) * y * y;
        if (i == j || c == 0) return STATE;
        int kind = classOfWhole(c);
        boolean square = false;
        for (long s = 0; s < 5000; s++) square |= coreOf(kind) * s * s == c;
        if (!square) return STATE;
        int product = form.get(i) ^ form.get(j) ^ kind;
        form.set(i, kind);
        form.set(j, product);
        step(shelf, form);
        return coreOf(kind);
    }

    int drop(int shelf, int term) {
        if (!hasTerm(shelf, term)) return UNKNOWN;
        if (on(shelf).size() == 1) return STATE;
        List<Integer> form = new ArrayList<>(on(shelf));
        form.remove(term);
        step(shelf, form);
        return form.size();
    }

    @SuppressWarnings("unchecked")
    int undo() {
        if (steps.isEmpty()) return STATE;
        Object[] step = steps.removeLast();
        shelves.set((Integer) step[0], (List<Integer>) step[1]);
        undone++;
        return (Integer) step[0];
    }

    int pairs(int number) {
        if (number < 3 || number > 160 || number % 4 == 1 || number % 4 == 2) return OUTSIDE;
        n = number;
        return pairsOf(n).size();
    }

    private boolean hasPair(int pair) {
        return pair >= 0 && pair < pairsOf(n).size();
    }

    int pair(int pair, int what) {
        if (!hasPair(pair)) return UNKNOWN;
        if (what < 0 || what > 4) return OUTSIDE;
        if (what < 3) return pairsOf(n).get(pair)[what];
        return what == 3 ? genus(n, pair) : metBy(n, pair).size();
    }

    int met(int pair, int rest) {
        if (!hasPair(pair)) return UNKNOWN;
        if (rest < 0 || rest > n - 1) return OUTSIDE;
        return metBy(n, pair).contains(rest) ? 1 : 0;
    }

    int lay(int pair, int shelf) {
        if (!hasPair(pair) || shelf < 0 || shelf > 7) return UNKNOWN;
        if (hasPrimeAbove13(n)) return STATE;
        int a = pairsOf(n).get(pair)[0];
        List<Integer> form = new ArrayList<>(Arrays.asList(classOfWhole(a), classOfWhole((long) a * n)));
        step(shelf, form);
        return det(form);
    }

    /** Tries all choices of SHELVES. */
    private int mostUnlike() {
        int most = 0;
        for (int choice = 0; choice < 256; choice++) {
            boolean fine = true;
            for (int i = 0; i < 8; i++) {
                if ((choice & 1 << i) == 0) continue;
                fine &= on(i) != null;
                for (int j = 0; j < i && fine; j++)
                    if ((choice & 1 << j) != 0) fine = unlike(on(i), on(j)) != 0;
                if (!fine) break;
            }
            if (fine) most = Math.max(most, Integer.bitCount(choice));
        }
        return most;
    }

    int count(int what) {
        int forms = 0, terms = 0;
        for (List<Integer> form : shelves) {
            forms += form == null ? 0 : 1;
            terms += form == null ? 0 : form.size();
        }
        Set<Integer> genera = new HashSet<>();
        for (int pair = 0; pair < pairsOf(n).size(); pair++) genera.add(genus(n, pair));
        switch (what) {
            case 0: return forms;
            case 1: return terms;
            case 2: return mostUnlike();
            case 3: return steps.size();
            case 4: return page.length();
            case 5: return n;
            case 6: return pairsOf(n).size();
            case 7: return genera.size();
            case 8: return done;
            case 9: return undone;
            default: return OUTSIDE;
        }
    }

    long digest() {
        List<Integer> told = new ArrayList<>();
        for (int shelf = 0; shelf < 8; shelf++) {
            if (on(shelf) == null) {
                told.add(0);
                continue;
            }
            for (int what = 0; what <= 8; what++) told.add(about(shelf, what));
            for (int term = 0; term < on(shelf).size(); term++) told.add(at(shelf, term));
        }
        for (int pair = 0; pair < pairsOf(n).size(); pair++)
            for (int what = 0; what <= 4; what++) told.add(pair(pair, what));
        for (int k = 0; k < page.length(); k++) told.add((int) page.charAt(k));
        for (int what = 0; what <= 9; what++) told.add(count(what));
        long h = 1487;
        for (int number : told) h = 31 * h + number;
        return h;
    }
}
