import java.util.ArrayDeque;
import java.util.ArrayList;
import java.util.Arrays;
import java.util.Deque;
import java.util.List;

/**
 * The document once more, as plainly as it can be told and by other ways than the class: minute by minute, every
 * order from its beginning, laws worked out on their text, acts by Java's own classes. For comparison only.
 */
final class PlainGorge {
    private static final int BAD = -1, NOT = -2, FULL = -3, STATE = -5, VOID = -2000000000;

    static final class Numbers {
        List<int[]> rows = new ArrayList<>(); // HANDS, OVER, TASTE, ENVY
        List<int[]> turns = new ArrayList<>(); // GOOD, LASTS
        int[] rest = {8, 1, 15, 0}; // LONG, WARM, REST, HISSES

        Numbers copy() {
            Numbers n = new Numbers();
            for (int[] r : rows) {
                n.rows.add(r.clone());
            }
            for (int[] t : turns) {
                n.turns.add(t.clone());
            }
            n.rest = rest.clone();
            return n;
        }

        int[] holder(int number, int what) {
            if (what >= 0 && what <= 3) {
                return number >= 0 && number < rows.size() ? rows.get(number) : null;
            }
            if (what == 4 || what == 5) {
                return number >= 0 && number < turns.size() ? turns.get(number) : null;
            }
            return what >= 6 && what <= 9 && number == 0 ? rest : null;
        }

        static int at(int what) {
            return what < 4 ? what : what < 6 ? what - 4 : what - 6;
        }
    }

    private Numbers numbers = new Numbers();
    private String lawText = null;
    private StringBuilder tape = new StringBuilder();
    private int[] ice = new int[16];
    private int[] led = new int[5];
    private int[] imageIce = null;
    private int[] imageLed = null;
    private final List<int[]> undoable = new ArrayList<>();
    private final List<int[]> redoable = new ArrayList<>();
    private final Object[] shelves = new Object[6];
    private final List<Plank> bodies = new ArrayList<>();
    private List<Integer> trace = new ArrayList<>();

    static final class Row {
        int sort;
        long[] at;
    }

    // ---- numbers

    private static boolean within(int v, int low, int high) {
        return low <= v && v <= high;
    }

    private static boolean may(int what, int v) {
        switch (what) {
            case 0: return within(v, 0, 99);
            case 1: return within(v, 0, 15);
            case 2: case 3: case 4: case 7: return within(v, 0, 9);
            case 5: case 8: return within(v, 1, 60);
            case 6: return within(v, 2, 16);
            case 9: return within(v, 0, 12);
            default: return false;
        }
    }

    int hands(int hands, int over) {
        if (!may(0, hands) || !may(1, over)) {
            return BAD;
        }
        if (numbers.rows.size() == 6) {
            return FULL;
        }
        numbers.rows.add(new int[] {hands, over, 5, 0});
        return numbers.rows.size() - 1;
    }

    int rows(int shelf, int i, int n) {
        if (!within(shelf, 0, 5) || !within(n, 1, 6)) {
            return BAD;
        }
        if (shelves[shelf] == null) {
            return 0;
        }
        Row row = rowOf(shelf, 0);
        if (row == null) {
            return -12;
        }
        if (i < 0) {
            return 0;
        }
        int came = 0;
        for (long at = i; came < n && at + 2 < row.at.length && numbers.rows.size() < 6; at += 3) {
            int h = (int) row.at[(int) at];
            int o = (int) row.at[(int) at + 1];
            int e = (int) row.at[(int) at + 2];
            if (!may(0, h) || !may(1, o) || !may(3, e)) {
                break;
            }
            numbers.rows.add(new int[] {h, o, 5, e});
            came++;
        }
        return came;
    }

    int turn(int good, int lasts) {
        if (!may(4, good) || !may(5, lasts)) {
            return BAD;
        }
        if (numbers.turns.size() == 8) {
            return FULL;
        }
        numbers.turns.add(new int[] {good, lasts});
        return numbers.turns.size() - 1;
    }

    int mend(int number, int what, int v) {
        int[] holder = numbers.holder(number, what);
        if (holder == null || !may(what, v)) {
            return BAD;
        }
        int was = holder[Numbers.at(what)];
        if (was != v) {
            holder[Numbers.at(what)] = v;
            undoable.add(new int[] {number, what, was, v});
            redoable.clear();
            if (undoable.size() > 40) {
                undoable.remove(0);
            }
        }
        return was;
    }

    int of(int number, int what) {
        if (what == 10) {
            return within(number, 0, 15) ? ice[number] : BAD;
        }
        int[] holder = numbers.holder(number, what);
        return holder == null ? BAD : holder[Numbers.at(what)];
    }

    int undo() {
        if (undoable.isEmpty()) {
            return STATE;
        }
        int[] c = undoable.remove(undoable.size() - 1);
        numbers.holder(c[0], c[1])[Numbers.at(c[1])] = c[2];
        redoable.add(c);
        return undoable.size();
    }

    int redo() {
        if (redoable.isEmpty()) {
            return STATE;
        }
        int[] c = redoable.remove(redoable.size() - 1);
        numbers.holder(c[0], c[1])[Numbers.at(c[1])] = c[3];
        undoable.add(c);
        return redoable.size();
    }

    // ---- the law

    int feed(int letter) {
        if (!within(letter, 0, 255)) {
            return BAD;
        }
        if (tape.length() == 120) {
            return FULL;
        }
        tape.append((char) letter);
        return tape.length();
    }

    int law() {
        String text = tape.toString();
        tape = new StringBuilder();
        int fault = fault(text);
        if (fault >= 0) {
            return -100 - fault;
        }
        lawText = text;
        return 1;
    }

    /** By a machine with a stack of what is open, byte by byte. */
    static int fault(String text) {
        Deque<Character> open = new ArrayDeque<>();
        Deque<Boolean> compared = new ArrayDeque<>();
        compared.push(false);
        boolean asked = false;
        boolean wantsOperand = true;
        int digits = 0;
        for (int at = 0; at < text.length(); at++) {
            char c = text.charAt(at);
            boolean closes = false;
            if (wantsOperand) {
                if (c >= '0' && c <= '9') {
                    digits = 1;
                    closes = true;
                } else if ("ghtedi".indexOf(c) >= 0) {
                    digits = 0;
                    closes = true;
                } else if ((c == '(' || c == '!' || c == '-') && open.size() < 6) {
                    open.push(c);
                    if (c == '(') {
                        compared.push(false);
                    }
                } else {
                    return at;
                }
            } else if (c >= '0' && c <= '9') {
                digits++;
                if (digits < 2 || digits > 4) {
                    return at;
                }
            } else if (c == ')') {
                if (open.isEmpty()) {
                    return at;
                }
                open.pop();
                compared.pop();
                digits = 0;
                closes = true;
            } else if (c == '|' || c == '&') {
                compared.pop();
                compared.push(false);
                wantsOperand = true;
            } else if (c == '<' || c == '=' || c == '>') {
                if (compared.pop()) {
                    return at;
                }
                compared.push(true);
                wantsOperand = true;
            } else if ("+-*/%".indexOf(c) >= 0) {
                wantsOperand = true;
            } else if (c == '?' && !asked && open.isEmpty()) {
                asked = true;
                compared.clear();
                compared.push(false);
                wantsOperand = true;
            } else if (c == ';' && open.isEmpty()) {
                asked = false;
                compared.clear();
                compared.push(false);
                wantsOperand = true;
            } else {
                return at;
            }
            if (closes) {
                wantsOperand = false;
                while (!open.isEmpty() && open.peek() != '(') {
                    open.pop();
                }
            }
        }
        return wantsOperand || !open.isEmpty() ? text.length() : -1;
    }

    private static final String[] LEVELS = {"|", "&", "<=>", "+-", "*/%"};

    /** Cut at the last sign of the loosest level outside of ( ), again and again. */
    static int worth(String text, int[] names) {
        for (String signs : LEVELS) {
            int deep = 0;
            for (int at = text.length() - 1; at > 0; at--) {
                char c = text.charAt(at);
                deep += c == ')' ? 1 : c == '(' ? -1 : 0;
                char ahead = text.charAt(at - 1);
                boolean joins = ahead == ')' || Character.isLetterOrDigit(ahead);
                if (deep == 0 && joins && signs.indexOf(c) >= 0) {
                    return join(c, worth(text.substring(0, at), names), worth(text.substring(at + 1), names));
                }
            }
        }
        char c = text.charAt(0);
        if (c == '!') {
            return worth(text.substring(1), names) == 0 ? 1 : 0;
        }
        if (c == '-') {
            return -worth(text.substring(1), names);
        }
        if (c == '(') {
            return worth(text.substring(1, text.length() - 1), names);
        }
        int name = "ghtedi".indexOf(c);
        return name >= 0 ? names[name] : Integer.parseInt(text);
    }

    private static int join(char c, int a, int b) {
        switch (c) {
            case '|': return a != 0 || b != 0 ? 1 : 0;
            case '&': return a != 0 && b != 0 ? 1 : 0;
            case '<': return a < b ? 1 : 0;
            case '=': return a == b ? 1 : 0;
            case '>': return a > b ? 1 : 0;
            case '+': return a + b;
            case '-': return a - b;
            case '*': return a * b;
            case '/': return b == 0 ? 0 : a / b;
            default: return b == 0 ? 0 : a % b;
        }
    }

    private int lawGives(int[] names) {
        if (lawText == null) {
            return (names[0] - names[3]) * names[1] / (names[4] + 1) / 4;
        }
        for (String line : lawText.split(";")) {
            int mark = line.indexOf('?');
            if (mark < 0) {
                return worth(line, names);
            }
            if (worth(line.substring(0, mark), names) != 0) {
                return worth(line.substring(mark + 1), names);
            }
        }
        return 0;
    }

    private int rowGives(Numbers n, int row, int turn, int plank, int there) {
        int[] r = n.rows.get(row);
        int[] names = {n.turns.get(turn)[0], r[0], r[2], r[3], Math.abs(r[1] - plank), there};
        return Math.max(-99, Math.min(99, lawGives(names)));
    }

    int gives(int ht, int plank) {
        if (ht < 0 || ht / 10 >= numbers.rows.size() || ht % 10 >= numbers.turns.size()
                || !within(plank, 0, numbers.rest[0] - 1)) {
            return VOID;
        }
        return rowGives(numbers, ht / 10, ht % 10, plank, ice[plank]);
    }

    // ---- ice, minute by minute

    private static void minutes(Numbers n, int[] on, int minutes) {
        for (int m = 0; m < minutes; m++) {
            for (int p = 0; p < n.rest[0]; p++) {
                on[p] = Math.max(0, on[p] - n.rest[1]);
            }
        }
    }

    private void clap(Numbers n, int[] on, int turn) {
        for (int p = 0; p < n.rest[0]; p++) {
            int more = 0;
            for (int r = 0; r < n.rows.size(); r++) {
                more += rowGives(n, r, turn, p, on[p]);
            }
            on[p] = Math.max(0, Math.min(999, on[p] + more));
        }
    }

    private int step(Numbers n, int[] on, int sign) {
        int lasts = sign == 20 ? n.rest[2] : n.turns.get(sign)[1];
        minutes(n, on, lasts);
        if (sign != 20) {
            clap(n, on, sign);
        }
        return lasts;
    }

    private int[] behind(Numbers n, List<Integer> programme) {
        int[] on = ice.clone();
        for (int sign : programme) {
            step(n, on, sign);
        }
        return on;
    }

    private static int fallsOn(Numbers n, int[] on, int weight, int pace) {
        int[] then = on.clone();
        for (int p = 0; p < n.rest[0]; p++) {
            if (then[p] < weight) {
                return p;
            }
            minutes(n, then, pace);
        }
        return NOT;
    }

    private static int carried(Numbers n, int[] on, int pace) {
        int weight = 999;
        while (fallsOn(n, on, weight, pace) != NOT) {
            weight--;
        }
        return weight;
    }

    private static int thinnest(Numbers n, int[] on) {
        int least = 999;
        for (int p = 0; p < n.rest[0]; p++) {
            least = Math.min(least, on[p]);
        }
        return least;
    }

    // ---- programmes

    private Row rowOf(int shelf, int sort) {
        return shelves[shelf] instanceof Row row && row.sort == sort ? row : null;
    }

    private int refusal(int shelf, int sort) {
        if (!within(shelf, 0, 5)) {
            return BAD;
        }
        return shelves[shelf] == null ? -11 : rowOf(shelf, sort) == null ? -12 : 0;
    }

    private List<Integer> programme(int shelf) {
        List<Integer> signs = new ArrayList<>();
        for (long v : rowOf(shelf, 0).at) {
            if (signs.size() == 20 || v != 20 && (v < 0 || v >= numbers.turns.size())) {
                break;
            }
            signs.add((int) v);
        }
        return signs;
    }

    int ice(int shelf, int plank) {
        if (!within(plank, -4, numbers.rest[0] - 1)) {
            return BAD;
        }
        if (refusal(shelf, 0) != 0) {
            return refusal(shelf, 0);
        }
        int[] on = ice.clone();
        int passed = 0;
        for (int sign : programme(shelf)) {
            passed += step(numbers, on, sign);
        }
        if (plank == -1) {
            return programme(shelf).size();
        }
        if (plank == -2) {
            return passed;
        }
        int thin = thinnest(numbers, on);
        if (plank == -3) {
            for (int p = 0; p < 16; p++) {
                if (on[p] == thin) {
                    return p;
                }
            }
        }
        return plank == -4 ? thin : on[plank];
    }

    int cross(int shelf, int wp) {
        if (!within(wp, 0, 9999)) {
            return BAD;
        }
        if (refusal(shelf, 0) != 0) {
            return refusal(shelf, 0);
        }
        return fallsOn(numbers, behind(numbers, programme(shelf)), wp / 10, wp % 10);
    }

    int heaviest(int shelf, int pace) {
        if (!within(pace, 0, 9)) {
            return BAD;
        }
        if (refusal(shelf, 0) != 0) {
            return refusal(shelf, 0);
        }
        return carried(numbers, behind(numbers, programme(shelf)), pace);
    }

    int waits(int shelf, int wp) {
        if (!within(wp, 0, 9999)) {
            return BAD;
        }
        if (refusal(shelf, 0) != 0) {
            return refusal(shelf, 0);
        }
        int[] on = behind(numbers, programme(shelf));
        int longest = NOT;
        for (int wait = 0; wait <= 999; wait++) {
            if (fallsOn(numbers, on, wp / 10, wp % 10) == NOT) {
                longest = wait;
            }
            minutes(numbers, on, 1);
        }
        return longest;
    }

    int first(int shelf, int wp) {
        if (!within(wp, 0, 9999)) {
            return BAD;
        }
        if (refusal(shelf, 0) != 0) {
            return refusal(shelf, 0);
        }
        List<Integer> all = programme(shelf);
        for (int k = 0; k <= all.size(); k++) {
            if (fallsOn(numbers, behind(numbers, all.subList(0, k)), wp / 10, wp % 10) == NOT) {
                return k;
            }
        }
        return NOT;
    }

    private void allOrders(List<Integer> ahead, int turns, List<List<Integer>> into) {
        if (ahead.size() == turns) {
            into.add(new ArrayList<>(ahead));
            return;
        }
        for (int t = 0; t < turns; t++) {
            if (!ahead.contains(t)) {
                ahead.add(t);
                allOrders(ahead, turns, into);
                ahead.remove(ahead.size() - 1);
            }
        }
    }

    int order(int k) {
        int turns = numbers.turns.size();
        if (k < -1) {
            return BAD;
        }
        if (turns > 6) {
            return STATE;
        }
        List<List<Integer>> all = new ArrayList<>();
        allOrders(new ArrayList<>(), turns, all);
        int best = -1;
        List<Integer> chosen = null;
        for (List<Integer> o : all) {
            int c = thinnest(numbers, behind(numbers, o));
            if (c > best) {
                best = c;
                chosen = o;
            }
        }
        return k == -1 ? best : k < turns ? chosen.get(k) : NOT;
    }

    int fewest(int weight, int k) {
        int turns = numbers.turns.size();
        if (!within(weight, 0, 999) || k < -1) {
            return BAD;
        }
        if (turns > 5) {
            return STATE;
        }
        List<List<Integer>> level = new ArrayList<>();
        level.add(new ArrayList<>());
        for (int many = 0; many <= 5; many++) {
            for (List<Integer> pick : level) {
                if (thinnest(numbers, behind(numbers, pick)) >= weight) {
                    return k == -1 ? many : k < many ? pick.get(k) : NOT;
                }
            }
            List<List<Integer>> next = new ArrayList<>();
            for (List<Integer> pick : level) {
                for (int t = 0; t < turns; t++) {
                    List<Integer> longer = new ArrayList<>(pick);
                    longer.add(t);
                    next.add(longer);
                }
            }
            level = next;
        }
        return NOT;
    }

    int spare(int shelf, int what) {
        if (!within(what, 0, 1)) {
            return BAD;
        }
        if (refusal(shelf, 0) != 0) {
            return refusal(shelf, 0);
        }
        List<Integer> all = programme(shelf);
        int best = NOT;
        int place = NOT;
        for (int k = 0; k < all.size(); k++) {
            List<Integer> less = new ArrayList<>(all);
            less.remove(k);
            int c = thinnest(numbers, behind(numbers, less));
            if (c > best) {
                best = c;
                place = k;
            }
        }
        return what == 0 ? place : best;
    }

    int harm(int shelf) {
        if (refusal(shelf, 0) != 0) {
            return refusal(shelf, 0);
        }
        List<Integer> all = programme(shelf);
        int bits = 0;
        for (int r = 0; r < numbers.rows.size(); r++) {
            Numbers less = numbers.copy();
            less.rows.remove(r);
            if (thinnest(less, behind(less, all)) > thinnest(numbers, behind(numbers, all))) {
                bits += 1 << r;
            }
        }
        return bits;
    }

    int seat(int shelf, int row, int what) {
        if (!within(row, 0, numbers.rows.size() - 1) || !within(what, 0, 1)) {
            return BAD;
        }
        if (refusal(shelf, 0) != 0) {
            return refusal(shelf, 0);
        }
        int best = -1;
        int where = -1;
        for (int p = 0; p < numbers.rest[0]; p++) {
            Numbers other = numbers.copy();
            other.rows.get(row)[1] = p;
            int c = thinnest(other, behind(other, programme(shelf)));
            if (c > best) {
                best = c;
                where = p;
            }
        }
        return what == 0 ? where : best;
    }

    int encore(int shelf) {
        if (refusal(shelf, 0) != 0) {
            return VOID;
        }
        List<Integer> all = programme(shelf);
        int last = -1;
        for (int sign : all) {
            last = sign == 20 ? last : sign;
        }
        if (last < 0) {
            return 0;
        }
        int without = thinnest(numbers, behind(numbers, all));
        all.add(last);
        return thinnest(numbers, behind(numbers, all)) - without;
    }

    int claque(int shelf, int rw) {
        if (rw < 0 || rw / 1000 >= numbers.rows.size()) {
            return BAD;
        }
        if (refusal(shelf, 0) != 0) {
            return refusal(shelf, 0);
        }
        for (int more = 0; more <= 99; more++) {
            Numbers other = numbers.copy();
            other.rows.get(rw / 1000)[0] += more;
            if (other.rows.get(rw / 1000)[0] <= 99
                    && thinnest(other, behind(other, programme(shelf))) >= rw % 1000) {
                return more;
            }
        }
        return NOT;
    }

    // ---- ice seen, draws

    private int unlike(Numbers n, int[] on, int seen) {
        long[] at = rowOf(seen, 1).at;
        for (int p = 0; p < at.length && p < n.rest[0]; p++) {
            if (at[p] != on[p]) {
                return p;
            }
        }
        return NOT;
    }

    private int refusalOfBoth(int ps) {
        if (ps < 0 || ps / 10 > 5 || ps % 10 > 5) {
            return BAD;
        }
        if (shelves[ps / 10] == null || shelves[ps % 10] == null) {
            return -11;
        }
        return rowOf(ps / 10, 0) == null || rowOf(ps % 10, 1) == null ? -12 : 0;
    }

    int judge(int ps) {
        int refusal = refusalOfBoth(ps);
        return refusal != 0 ? refusal : unlike(numbers, behind(numbers, programme(ps / 10)), ps % 10);
    }

    int which(int shelf, int what) {
        if (!within(what, 0, 1)) {
            return BAD;
        }
        if (refusal(shelf, 1) != 0) {
            return refusal(shelf, 1);
        }
        List<Integer> found = new ArrayList<>();
        for (int t = 0; t < numbers.turns.size(); t++) {
            if (unlike(numbers, behind(numbers, List.of(t)), shelf) == NOT) {
                found.add(t);
            }
        }
        return what == 0 ? found.size() : found.isEmpty() ? NOT : found.get(0);
    }

    int good(int shelf, int turn, int what) {
        if (!within(turn, 0, numbers.turns.size() - 1) || !within(what, 0, 1)) {
            return BAD;
        }
        if (refusal(shelf, 1) != 0) {
            return refusal(shelf, 1);
        }
        List<Integer> found = new ArrayList<>();
        for (int g = 0; g <= 9; g++) {
            Numbers other = numbers.copy();
            other.turns.get(turn)[0] = g;
            if (unlike(other, behind(other, List.of(turn)), shelf) == NOT) {
                found.add(g);
            }
        }
        return what == 0 ? found.size() : found.isEmpty() ? NOT : found.get(0);
    }

    int orders(int shelf, int what) {
        if (!within(what, 0, 1)) {
            return BAD;
        }
        if (refusal(shelf, 1) != 0) {
            return refusal(shelf, 1);
        }
        if (numbers.turns.size() > 6) {
            return STATE;
        }
        List<List<Integer>> all = new ArrayList<>();
        allOrders(new ArrayList<>(), numbers.turns.size(), all);
        List<String> found = new ArrayList<>();
        for (List<Integer> o : all) {
            if (unlike(numbers, behind(numbers, o), shelf) == NOT) {
                StringBuilder digits = new StringBuilder("0");
                for (int t : o) {
                    digits.append(t);
                }
                found.add(digits.toString());
            }
        }
        return what == 0 ? found.size() : found.isEmpty() ? NOT : Integer.parseInt(found.get(0));
    }

    int warm(int ps) {
        int refusal = refusalOfBoth(ps);
        if (refusal != 0) {
            return refusal;
        }
        for (int w = 0; w <= 9; w++) {
            Numbers other = numbers.copy();
            other.rest[1] = w;
            if (unlike(other, behind(other, programme(ps / 10)), ps % 10) == NOT) {
                return w;
            }
        }
        return NOT;
    }

    int drawn(int seed, int nm, int what) {
        int n = nm / 100;
        int m = nm % 100;
        if (!within(n, 1, 30) || !within(m, 1, 20) || !within(what, 0, 1)) {
            return BAD;
        }
        if (numbers.turns.isEmpty()) {
            return 0;
        }
        int z = seed;
        int sum = 0;
        int cross = 0;
        for (int evening = 0; evening < n; evening++) {
            int[] on = ice.clone();
            for (int k = 0; k < m; k++) {
                z = z * 1103515245 + 12345;
                int turn = (z >>> 8) % numbers.turns.size();
                minutes(numbers, on, numbers.turns.get(turn)[1]);
                if ((z >>> 16) % 12 >= numbers.rest[3]) {
                    clap(numbers, on, turn);
                }
            }
            sum += carried(numbers, on, 0);
            cross += fallsOn(numbers, on, 100, 0) == NOT ? 1 : 0;
        }
        return what == 0 ? sum : cross;
    }

    // ---- in deed

    int play(int turn) {
        if (!within(turn, 0, numbers.turns.size() - 1)) {
            return BAD;
        }
        led[4] += step(numbers, ice, turn);
        led[0]++;
        return thinnest(numbers, ice);
    }

    int interval() {
        led[4] += step(numbers, ice, 20);
        led[1]++;
        return thinnest(numbers, ice);
    }

    int goes(int wp) {
        if (!within(wp, 0, 9999)) {
            return BAD;
        }
        led[2]++;
        for (int p = 0; p < numbers.rest[0]; p++) {
            boolean falls = ice[p] < wp / 10;
            minutes(numbers, ice, wp % 10);
            led[4] += wp % 10;
            if (falls) {
                ice[p] = 0;
                led[3]++;
                return p;
            }
        }
        return NOT;
    }

    int salt(int plank) {
        if (!within(plank, 0, 15)) {
            return BAD;
        }
        int had = ice[plank];
        ice[plank] = 0;
        return had;
    }

    int led(int what) {
        return within(what, 0, 4) ? led[what] : BAD;
    }

    int image() {
        imageIce = ice.clone();
        imageLed = led.clone();
        return led[0];
    }

    int back() {
        if (imageIce == null) {
            return STATE;
        }
        ice = imageIce.clone();
        led = imageLed.clone();
        return led[0];
    }

    // ---- acts, by Java's own classes

    interface Bears {
        int n();

        List<Integer> ran();

        default int bears(int x) {
            ran().add(1);
            return x + n();
        }
    }

    interface Tells {
        int n();

        List<Integer> ran();

        int claps(int x);

        int thaws(int x);

        default int tells(int x) {
            ran().add(2);
            return claps(x) - thaws(1);
        }
    }

    static class Plank implements Bears, Tells {
        final int kind;
        final int n;
        List<Integer> ran = new ArrayList<>();

        Plank(int kind, int n) {
            this.kind = kind;
            this.n = n;
        }

        @Override public int n() {
            return n;
        }

        @Override public List<Integer> ran() {
            return ran;
        }

        @Override public int claps(int x) {
            ran.add(10);
            return bears(x) * 2;
        }

        @Override public int thaws(int x) {
            ran.add(11);
            return x ^ n;
        }
    }

    static class Lace extends Plank {
        Lace(int kind, int n) {
            super(kind, n);
        }

        @Override public int bears(int x) {
            ran.add(20);
            return super.bears(x) + 3;
        }
    }

    static class Ovation extends Plank {
        Ovation(int kind, int n) {
            super(kind, n);
        }

        @Override public int claps(int x) {
            ran.add(30);
            return -super.claps(x);
        }
    }

    static class Encore extends Ovation {
        Encore(int kind, int n) {
            super(kind, n);
        }

        @Override public int thaws(int x) {
            ran.add(40);
            return super.thaws(x) * 3;
        }

        @Override public int claps(int x) {
            ran.add(41);
            return super.claps(x + 1);
        }
    }

    static class Claque extends Lace {
        Claque(int kind, int n) {
            super(kind, n);
        }

        @Override public int tells(int x) {
            ran.add(50);
            return super.tells(x) ^ 5;
        }
    }

    static class Critic extends Encore {
        Critic(int kind, int n) {
            super(kind, n);
        }

        @Override public int thaws(int x) {
            ran.add(60);
            return super.thaws(x) - bears(2);
        }

        @Override public int tells(int x) {
            ran.add(61);
            return super.tells(x) + 1;
        }
    }

    static class Hiss extends Plank {
        Hiss(int kind, int n) {
            super(kind, n);
        }

        @Override public int bears(int x) {
            ran.add(70);
            return super.bears(x) * 2;
        }
    }

    static class Silence extends Hiss {
        Silence(int kind, int n) {
            super(kind, n);
        }

        @Override public int claps(int x) {
            ran.add(80);
            return super.claps(x) + thaws(2);
        }

        @Override public int bears(int x) {
            ran.add(81);
            return super.bears(x) - 1;
        }
    }

    private static final Class<?>[] KINDS = {Plank.class, Lace.class, Ovation.class, Encore.class, Claque.class,
        Critic.class, Hiss.class, Silence.class};

    int body(int kind) {
        if (!within(kind, 0, 7)) {
            return BAD;
        }
        int n = bodies.size();
        if (n == 50) {
            return FULL;
        }
        switch (kind) {
            case 0: bodies.add(new Plank(kind, n)); break;
            case 1: bodies.add(new Lace(kind, n)); break;
            case 2: bodies.add(new Ovation(kind, n)); break;
            case 3: bodies.add(new Encore(kind, n)); break;
            case 4: bodies.add(new Claque(kind, n)); break;
            case 5: bodies.add(new Critic(kind, n)); break;
            case 6: bodies.add(new Hiss(kind, n)); break;
            default: bodies.add(new Silence(kind, n));
        }
        return n;
    }

    int act(int body, int act, int x) {
        trace = new ArrayList<>();
        if (!within(body, 0, bodies.size() - 1) || !within(act, 0, 3)) {
            return 0;
        }
        Plank plank = bodies.get(body);
        plank.ran = trace;
        switch (act) {
            case 0: return plank.bears(x);
            case 1: return plank.claps(x);
            case 2: return plank.thaws(x);
            default: return plank.tells(x);
        }
    }

    int trace(int i) {
        return within(i, 0, Math.min(24, trace.size()) - 1) ? trace.get(i) : BAD;
    }

    // ---- shelves

    int keep(int shelf, int body) {
        if (!within(shelf, 0, 5) || !within(body, -1, bodies.size() - 1)) {
            return BAD;
        }
        shelves[shelf] = body == -1 ? null : bodies.get(body);
        return 1;
    }

    int row(int shelf, int sort, int n) {
        if (!within(shelf, 0, 5) || !within(sort, 0, 4) || n > 60) {
            return BAD;
        }
        if (n < 0) {
            return -14;
        }
        Row row = new Row();
        row.sort = sort;
        row.at = new long[n];
        shelves[shelf] = row;
        return 1;
    }

    int put(int shelf, int i, long v) {
        if (!within(shelf, 0, 5)) {
            return BAD;
        }
        if (shelves[shelf] == null) {
            return -11;
        }
        if (!(shelves[shelf] instanceof Row row)) {
            return -12;
        }
        if (!within(i, 0, row.at.length - 1)) {
            return -13;
        }
        switch (row.sort) {
            case 0: row.at[i] = (byte) v; break;
            case 1: row.at[i] = (short) v; break;
            case 2: row.at[i] = (int) v; break;
            case 3: row.at[i] = v; break;
            default: row.at[i] = v == 0 ? 0 : 1;
        }
        return 1;
    }

    long element(int shelf, int i) {
        if (!within(shelf, 0, 5) || !(shelves[shelf] instanceof Row row) || !within(i, 0, row.at.length - 1)) {
            return Long.MIN_VALUE;
        }
        return row.at[i];
    }

    int shift(int shelf, int i, int other, int j, int n) {
        if (!within(shelf, 0, 5) || !within(other, 0, 5)) {
            return BAD;
        }
        if (shelves[shelf] == null || shelves[other] == null) {
            return -11;
        }
        if (!(shelves[shelf] instanceof Row from) || !(shelves[other] instanceof Row to) || from.sort != to.sort) {
            return -12;
        }
        if (n < 0 || i < 0 || j < 0 || (long) i + n > from.at.length || (long) j + n > to.at.length) {
            return -13;
        }
        long[] before = Arrays.copyOfRange(from.at, i, i + n);
        for (int k = 0; k < n; k++) {
            to.at[j + k] = before[k];
        }
        return n;
    }

    int taken(int shelf, int k) {
        if (!within(shelf, 0, 5) || !within(k, 0, 7)) {
            return BAD;
        }
        if (shelves[shelf] == null) {
            return -11;
        }
        return KINDS[k].isInstance(shelves[shelf]) ? ((Plank) shelves[shelf]).kind : -12;
    }

    int count(int what) {
        switch (what) {
            case 0: return numbers.rows.size();
            case 1: return numbers.turns.size();
            case 2: return tape.length();
            case 3: return undoable.size();
            case 4: return bodies.size();
            case 5: return trace.size();
            default: return BAD;
        }
    }
}
