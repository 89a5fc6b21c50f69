import java.util.Arrays;

/** Ice bridges of applause: what clapping freezes over a gorge, plank by plank, and who can cross it. */
public final class IceOfApplause {
    public static final int BAD = -1, NOT = -2, FULL = -3, STATE = -5, VOID = -2000000000;

    private static final int NOTHING_THERE = -11, ANOTHER_KIND = -12, NO_PLACE = -13, NO_SIZE = -14;
    private static final int MOST_PLANKS = 16, MOST_ROWS = 6, MOST_TURNS = 8, MOST_SHELVES = 6;
    private static final int MOST_ICE = 999, MOST_WEIGHT = 999, MOST_PACE = 9, LONGEST_WAIT = 999;
    private static final int INTERVAL = 20, LONGEST_PROGRAMME = 20;
    private static final int MOST_TO_ORDER = 6, MOST_TO_PICK = 5, LONGEST_PICK = 5;
    private static final int LONGEST_TAPE = 120, FAULT_AHEAD = -100;
    private static final int NOBODY = -1;
    private static final long NO_ELEMENT = -9223372036854775808L;

    private final Hall hall;
    private final Law law;
    private final Tape tape;
    private final Applause applause;
    private final Deeds deeds;
    private final Changes changes;
    private final Shelf[] shelves;
    private final Thought thought;
    private final Search search;
    private final Bodies bodies;

    public IceOfApplause() {
        hall = new Hall();
        law = new Law();
        tape = new Tape();
        applause = new Applause(hall, law);
        deeds = new Deeds();
        changes = new Changes();
        shelves = new Shelf[MOST_SHELVES];
        for (int k = 0; k < MOST_SHELVES; k++) {
            shelves[k] = new Shelf();
        }
        thought = new Thought(hall, applause, deeds.bridge);
        search = new Search(hall, applause, deeds.bridge);
        bodies = new Bodies();
    }

    // ---- hands, turns

    public int hands(int hands, int over) {
        if (!Hall.fits(Hall.HANDS, hands) || !Hall.fits(Hall.OVER, over)) {
            return BAD;
        }
        return hall.rowCount == MOST_ROWS ? FULL : hall.addRow(hands, over, 0);
    }

    public int rows(int shelf, int i, int n) {
        if (n < 1 || n > MOST_ROWS) {
            return BAD;
        }
        int refusal = refusal(shelf, Shelf.BYTES);
        if (refusal == NOTHING_THERE) {
            return 0;
        }
        if (refusal != 0) {
            return refusal;
        }
        return i < 0 ? 0 : hall.addRowsFrom(shelves[shelf], i, n);
    }

    public int turn(int good, int lasts) {
        if (!Hall.fits(Hall.GOOD, good) || !Hall.fits(Hall.LASTS, lasts)) {
            return BAD;
        }
        return hall.turnCount == MOST_TURNS ? FULL : hall.addTurn(good, lasts);
    }

    public int mend(int number, int what, int v) {
        int place = hall.placeOf(number, what);
        if (place < 0 || !Hall.fits(what, v)) {
            return BAD;
        }
        int was = hall.numbers[place];
        if (was != v) {
            changes.note(place, was, v);
            hall.change(place, v);
        }
        return was;
    }

    public int of(int number, int what) {
        if (what == Hall.HISSES + 1) {
            return number < 0 || number >= MOST_PLANKS ? BAD : deeds.bridge.ice[number];
        }
        int place = hall.placeOf(number, what);
        return place < 0 ? BAD : hall.numbers[place];
    }

    public int feed(int letter) {
        if (letter < 0 || letter > 255) {
            return BAD;
        }
        return tape.length == LONGEST_TAPE ? FULL : tape.add(letter);
    }

    public int law() {
        int fault = tape.fault();
        if (fault < 0) {
            law.become(tape.draft);
            applause.forget();
        }
        tape.length = 0;
        return fault < 0 ? 1 : FAULT_AHEAD - fault;
    }

    public int gives(int ht, int plank) {
        if (ht < 0 || plank < 0 || plank >= hall.planks()) {
            return VOID;
        }
        int row = ht / 10;
        int turn = ht % 10;
        if (row >= hall.rowCount || turn >= hall.turnCount) {
            return VOID;
        }
        return applause.given(turn, plank, deeds.bridge.ice[plank], row, row + 1);
    }

    // ---- programmes in thought

    public int ice(int shelf, int plank) {
        if (plank < -4 || plank >= hall.planks()) {
            return BAD;
        }
        int refusal = readProgramme(shelf);
        return refusal != 0 ? refusal : thought.behind(plank);
    }

    public int cross(int shelf, int wp) {
        int refusal = readProgrammeFor(shelf, wp);
        if (refusal != 0) {
            return refusal;
        }
        thought.carriedWithout(Thought.NO_BYTE);
        return thought.then.fallsOn(wp / 10, wp % 10, hall);
    }

    public int heaviest(int shelf, int pace) {
        if (pace < 0 || pace > MOST_PACE) {
            return BAD;
        }
        int refusal = readProgramme(shelf);
        if (refusal != 0) {
            return refusal;
        }
        thought.carriedWithout(Thought.NO_BYTE);
        return thought.then.carries(pace, hall);
    }

    public int waits(int shelf, int wp) {
        int refusal = readProgrammeFor(shelf, wp);
        if (refusal != 0) {
            return refusal;
        }
        thought.carriedWithout(Thought.NO_BYTE);
        return thought.then.longestWait(wp / 10, wp % 10, hall);
    }

    public int first(int shelf, int wp) {
        int refusal = readProgrammeFor(shelf, wp);
        return refusal != 0 ? refusal : thought.bytesUntil(wp / 10, wp % 10);
    }

    public int order(int k) {
        if (k < -1) {
            return BAD;
        }
        if (hall.turnCount > MOST_TO_ORDER) {
            return STATE;
        }
        if (k >= hall.turnCount) {
            return NOT;
        }
        int carried = search.bestOrder();
        return k < 0 ? carried : search.chosen[k];
    }

    public int fewest(int weight, int k) {
        if (weight < 0 || weight > MOST_WEIGHT || k < -1) {
            return BAD;
        }
        if (hall.turnCount > MOST_TO_PICK) {
            return STATE;
        }
        int many = search.fewestFor(weight);
        if (many == NOT || k >= many) {
            return NOT;
        }
        return k < 0 ? many : search.chosen[k];
    }

    public int spare(int shelf, int what) {
        if (!isHalf(what)) {
            return BAD;
        }
        int refusal = readProgramme(shelf);
        return refusal != 0 ? refusal : thought.bestSpared(what);
    }

    public int harm(int shelf) {
        int refusal = readProgramme(shelf);
        return refusal != 0 ? refusal : thought.harmfulRows();
    }

    public int seat(int shelf, int row, int what) {
        if (row < 0 || row >= hall.rowCount || !isHalf(what)) {
            return BAD;
        }
        int refusal = readProgramme(shelf);
        return refusal != 0 ? refusal : thought.bestSeat(row, what);
    }

    public int encore(int shelf) {
        return readProgramme(shelf) != 0 ? VOID : thought.moreByEncore();
    }

    public int claque(int shelf, int rw) {
        if (rw < 0 || rw / 1000 >= hall.rowCount) {
            return BAD;
        }
        int refusal = readProgramme(shelf);
        return refusal != 0 ? refusal : thought.fewestHands(rw / 1000, rw % 1000);
    }

    // ---- ice seen, draws

    public int judge(int ps) {
        int refusal = readProgrammeAndSeen(ps);
        if (refusal != 0) {
            return refusal;
        }
        thought.carriedWithout(Thought.NO_BYTE);
        return thought.firstUnlike(shelves[ps % 10]);
    }

    public int which(int shelf, int what) {
        if (!isHalf(what)) {
            return BAD;
        }
        int refusal = refusal(shelf, Shelf.SHORTS);
        return refusal != 0 ? refusal : thought.turnsThatMake(shelves[shelf], what);
    }

    public int good(int shelf, int turn, int what) {
        if (turn < 0 || turn >= hall.turnCount || !isHalf(what)) {
            return BAD;
        }
        int refusal = refusal(shelf, Shelf.SHORTS);
        return refusal != 0 ? refusal : thought.goodsThatMake(shelves[shelf], turn, what);
    }

    public int orders(int shelf, int what) {
        if (!isHalf(what)) {
            return BAD;
        }
        int refusal = refusal(shelf, Shelf.SHORTS);
        if (refusal != 0) {
            return refusal;
        }
        return hall.turnCount > MOST_TO_ORDER ? STATE : search.ordersThatMake(shelves[shelf], what);
    }

    public int warm(int ps) {
        int refusal = readProgrammeAndSeen(ps);
        return refusal != 0 ? refusal : thought.leastWarm(shelves[ps % 10]);
    }

    public int drawn(int seed, int nm, int what) {
        int evenings = nm / 100;
        int turns = nm % 100;
        if (evenings < 1 || evenings > 30 || turns < 1 || turns > 20 || !isHalf(what)) {
            return BAD;
        }
        return thought.drawnEvenings(seed, evenings, turns, what);
    }

    // ---- in deed

    public int play(int turn) {
        if (turn < 0 || turn >= hall.turnCount) {
            return BAD;
        }
        deeds.led[Deeds.MINUTES] += applause.step(turn, deeds.bridge);
        deeds.led[Deeds.TURNS]++;
        return deeds.bridge.carries(0, hall);
    }

    public int interval() {
        deeds.led[Deeds.MINUTES] += applause.step(INTERVAL, deeds.bridge);
        deeds.led[Deeds.INTERVALS]++;
        return deeds.bridge.carries(0, hall);
    }

    public int goes(int wp) {
        return isWeightAndPace(wp) ? deeds.someoneCrosses(wp / 10, wp % 10, hall) : BAD;
    }

    public int salt(int plank) {
        if (plank < 0 || plank >= MOST_PLANKS) {
            return BAD;
        }
        int had = deeds.bridge.ice[plank];
        deeds.bridge.ice[plank] = 0;
        return had;
    }

    public int led(int what) {
        return what < 0 || what > Deeds.MINUTES ? BAD : deeds.led[what];
    }

    public int image() {
        deeds.keepImage();
        return deeds.led[Deeds.TURNS];
    }

    public int back() {
        if (!deeds.hasImage) {
            return STATE;
        }
        deeds.layBack();
        return deeds.led[Deeds.TURNS];
    }

    public int undo() {
        return changes.done == 0 ? STATE : changes.takeBack(hall);
    }

    public int redo() {
        return changes.done == changes.known ? STATE : changes.doAgain(hall);
    }

    // ---- acts, shelves

    public int body(int kind) {
        if (kind < 0 || kind >= Bodies.KINDS) {
            return BAD;
        }
        return bodies.many == Bodies.MOST ? FULL : bodies.add(kind);
    }

    public int act(int body, int act, int x) {
        bodies.ran = 0;
        if (!bodies.has(body) || act < 0 || act >= Bodies.ACTS) {
            return 0;
        }
        return bodies.perform(body, act, x);
    }

    public int trace(int i) {
        return i < 0 || i >= Math.min(bodies.ran, Bodies.LONGEST_TRACE) ? BAD : bodies.begun[i];
    }

    public int keep(int shelf, int body) {
        if (!isShelf(shelf) || body != NOBODY && !bodies.has(body)) {
            return BAD;
        }
        shelves[shelf].hold(body);
        return 1;
    }

    public int row(int shelf, int sort, int n) {
        if (!isShelf(shelf) || sort < Shelf.BYTES || sort > Shelf.BOOLEANS || n > Shelf.LONGEST_ROW) {
            return BAD;
        }
        if (n < 0) {
            return NO_SIZE;
        }
        shelves[shelf].holdRow(sort, n);
        return 1;
    }

    public int put(int shelf, int i, long v) {
        int refusal = refusalOfPlace(shelf, i);
        if (refusal != 0) {
            return refusal;
        }
        shelves[shelf].set(i, v);
        return 1;
    }

    public long element(int shelf, int i) {
        return refusalOfPlace(shelf, i) != 0 ? NO_ELEMENT : shelves[shelf].elements[i];
    }

    public int shift(int shelf, int i, int other, int j, int n) {
        int refusal = refusalOfTwo(shelf, other);
        if (refusal != 0) {
            return refusal;
        }
        Shelf from = shelves[shelf];
        Shelf to = shelves[other];
        if (!from.hasPlaces(i, n) || !to.hasPlaces(j, n)) {
            return NO_PLACE;
        }
        System.arraycopy(from.elements, i, to.elements, j, n);
        return n;
    }

    public int taken(int shelf, int k) {
        if (!isShelf(shelf) || k < 0 || k >= Bodies.KINDS) {
            return BAD;
        }
        Shelf held = shelves[shelf];
        if (held.holds == Shelf.NOTHING) {
            return NOTHING_THERE;
        }
        if (held.holds != Shelf.A_BODY || !Bodies.isUnder(bodies.kinds[held.body], k)) {
            return ANOTHER_KIND;
        }
        return bodies.kinds[held.body];
    }

    public int count(int what) {
        switch (what) {
            case 0: return hall.rowCount;
            case 1: return hall.turnCount;
            case 2: return tape.length;
            case 3: return changes.done;
            case 4: return bodies.many;
            case 5: return bodies.ran;
            default: return BAD;
        }
    }

    // ---- what several calls ask of their numbers

    private static boolean isHalf(int what) {
        return what == 0 || what == 1;
    }

    private static boolean isWeightAndPace(int wp) {
        return wp >= 0 && wp <= MOST_WEIGHT * 10 + MOST_PACE;
    }

    private static boolean isShelf(int shelf) {
        return shelf >= 0 && shelf < MOST_SHELVES;
    }

    /** What a shelf without a row of a sort answers: BAD, -11, -12; 0 is no refusal. */
    private int refusal(int shelf, int sort) {
        if (!isShelf(shelf)) {
            return BAD;
        }
        Shelf held = shelves[shelf];
        if (held.holds == Shelf.NOTHING) {
            return NOTHING_THERE;
        }
        return held.holds == Shelf.A_ROW && held.sort == sort ? 0 : ANOTHER_KIND;
    }

    private int refusalOfPlace(int shelf, int i) {
        int refusal = isShelf(shelf) ? refusal(shelf, shelves[shelf].sort) : BAD;
        if (refusal != 0) {
            return refusal;
        }
        return shelves[shelf].hasPlaces(i, 1) ? 0 : NO_PLACE;
    }

    private int refusalOfTwo(int shelf, int other) {
        if (!isShelf(shelf) || !isShelf(other)) {
            return BAD;
        }
        int sort = shelves[shelf].sort;
        return firstNamed(refusal(shelf, sort), refusal(other, sort));
    }

    /** Of two refusals (0: none) the one that the document names first: -1, then -11, then -12. */
    private static int firstNamed(int one, int other) {
        return one == 0 ? other : other == 0 ? one : Math.max(one, other);
    }

    private int readProgramme(int shelf) {
        int refusal = refusal(shelf, Shelf.BYTES);
        if (refusal == 0) {
            thought.read(shelves[shelf]);
        }
        return refusal;
    }

    private int readProgrammeFor(int shelf, int wp) {
        return isWeightAndPace(wp) ? readProgramme(shelf) : BAD;
    }

    private int readProgrammeAndSeen(int ps) {
        if (ps < 0) {
            return BAD;
        }
        int refusal = firstNamed(refusal(ps / 10, Shelf.BYTES), refusal(ps % 10, Shelf.SHORTS));
        return refusal != 0 ? refusal : readProgramme(ps / 10);
    }

    /** The numbers that mend() can change, all in one array: a change is then a place and two numbers. */
    private static final class Hall {
        static final int HANDS = 0, OVER = 1, TASTE = 2, ENVY = 3, GOOD = 4, LASTS = 5, LONG = 6, WARM = 7, REST = 8,
            HISSES = 9;
        private static final int[] LEAST = {0, 0, 0, 0, 0, 1, 2, 0, 1, 0};
        private static final int[] MOST = {99, 15, 9, 9, 9, 60, 16, 9, 60, 12};
        private static final int STRIDE = 8;

        final int[] numbers = new int[STRIDE * (HISSES + 1)];
        int rowCount;
        int turnCount;
        // Tells the applause that what it has kept may no longer be so.
        int version;

        Hall() {
            numbers[LONG * STRIDE] = 8;
            numbers[WARM * STRIDE] = 1;
            numbers[REST * STRIDE] = 15;
        }

        static boolean fits(int what, int v) {
            return what >= HANDS && what <= HISSES && v >= LEAST[what] && v <= MOST[what];
        }

        int placeOf(int number, int what) {
            if (what < HANDS || what > HISSES || number < 0) {
                return -1;
            }
            int many = what <= ENVY ? rowCount : what <= LASTS ? turnCount : 1;
            return number < many ? what * STRIDE + number : -1;
        }

        int get(int what, int number) {
            return numbers[what * STRIDE + number];
        }

        int planks() {
            return numbers[LONG * STRIDE];
        }

        int thawOf(int minutes) {
            return minutes * numbers[WARM * STRIDE];
        }

        void change(int place, int v) {
            numbers[place] = v;
            version++;
        }

        int addRow(int hands, int over, int envy) {
            numbers[HANDS * STRIDE + rowCount] = hands;
            numbers[OVER * STRIDE + rowCount] = over;
            numbers[TASTE * STRIDE + rowCount] = 5;
            numbers[ENVY * STRIDE + rowCount] = envy;
            version++;
            return rowCount++;
        }

        int addRowsFrom(Shelf shelf, int from, int most) {
            int came = 0;
            // Counted down from the end, as from + 3 might wrap.
            while (came < most && rowCount < MOST_ROWS && from <= shelf.size - 3 * (came + 1)) {
                int at = from + 3 * came;
                int hands = (int) shelf.elements[at];
                int over = (int) shelf.elements[at + 1];
                int envy = (int) shelf.elements[at + 2];
                if (!fits(HANDS, hands) || !fits(OVER, over) || !fits(ENVY, envy)) {
                    break;
                }
                addRow(hands, over, envy);
                came++;
            }
            return came;
        }

        int addTurn(int good, int lasts) {
            numbers[GOOD * STRIDE + turnCount] = good;
            numbers[LASTS * STRIDE + turnCount] = lasts;
            version++;
            return turnCount++;
        }
    }

    /** Changes that may be undone stand ahead of done, those that may be done again from there to known. */
    private static final class Changes {
        private static final int MOST = 40;

        private final int[] places = new int[MOST];
        private final int[] olds = new int[MOST];
        private final int[] news = new int[MOST];
        int done;
        int known;

        void note(int place, int old, int fresh) {
            if (done == MOST) {
                dropOldest();
            }
            places[done] = place;
            olds[done] = old;
            news[done] = fresh;
            done++;
            known = done;
        }

        private void dropOldest() {
            System.arraycopy(places, 1, places, 0, MOST - 1);
            System.arraycopy(olds, 1, olds, 0, MOST - 1);
            System.arraycopy(news, 1, news, 0, MOST - 1);
            done--;
        }

        int takeBack(Hall hall) {
            done--;
            hall.change(places[done], olds[done]);
            return done;
        }

        int doAgain(Hall hall) {
            hall.change(places[done], news[done]);
            done++;
            return known - done;
        }
    }

    /** A law in the order in which it is worked out: numbers and names come ahead of the sign that joins them. */
    private static final class Law {
        // Each byte of a text makes one step at the most (a ; ends a line), and the end of the text one more.
        static final int LONGEST = LONGEST_TAPE + 1;
        // Steps below the first name are numbers (of four digits at the most).
        static final int FIRST_NAME = 10000, ICE_NAME = FIRST_NAME + 5, FIRST_JOIN = ICE_NAME + 1;
        private static final int OR = FIRST_JOIN, AND = OR + 1, LESS = OR + 2, LIKE = OR + 3, MORE = OR + 4,
            PLUS = OR + 5, MINUS = OR + 6, TIMES = OR + 7, BY = OR + 8;
        static final int NOT_SO = FIRST_JOIN + 10, NEGATED = NOT_SO + 1, WHEN = NOT_SO + 2, LINE_END = NOT_SO + 3;

        private final int[] steps = new int[LONGEST];
        // For a WHEN: the end of its line, where the working out goes on if the line doesn't count.
        private final int[] lineEnds = new int[LONGEST];
        private final int[] stack = new int[LONGEST];
        int length;
        boolean looksAtIce;

        void clear() {
            length = 0;
            looksAtIce = false;
        }

        void add(int step) {
            if (length < LONGEST) {
                steps[length] = step;
                length++;
            }
            if (step == ICE_NAME) {
                looksAtIce = true;
            }
        }

        void endLine(int when) {
            if (when >= 0 && when < LONGEST) {
                lineEnds[when] = length;
            }
            add(LINE_END);
        }

        void become(Law other) {
            length = other.length;
            looksAtIce = other.looksAtIce;
            System.arraycopy(other.steps, 0, steps, 0, length);
            System.arraycopy(other.lineEnds, 0, lineEnds, 0, length);
        }

        int value(int[] names) {
            int top = -1;
            for (int at = 0; at < length; at++) {
                int step = steps[at];
                // A step that joins takes two from the stack, one that turns or ends something takes one.
                int takes = step <= ICE_NAME ? 0 : step < NOT_SO ? 2 : 1;
                if (top + 1 < takes || top + 1 >= LONGEST) {
                    return 0;
                }
                if (step < FIRST_NAME) {
                    stack[++top] = step;
                } else if (step <= ICE_NAME) {
                    stack[++top] = names[step - FIRST_NAME];
                } else if (step == LINE_END) {
                    return stack[top];
                } else if (step == WHEN) {
                    // Only ever forward, so that the loop ends.
                    at = stack[top--] == 0 && lineEnds[at] > at ? lineEnds[at] : at;
                } else if (step == NOT_SO) {
                    stack[top] = stack[top] == 0 ? 1 : 0;
                } else if (step == NEGATED) {
                    stack[top] = -stack[top];
                } else {
                    int b = stack[top--];
                    int a = stack[top];
                    switch (step) {
                        case OR: stack[top] = a != 0 || b != 0 ? 1 : 0; break;
                        case AND: stack[top] = a != 0 && b != 0 ? 1 : 0; break;
                        case LESS: stack[top] = a < b ? 1 : 0; break;
                        case LIKE: stack[top] = a == b ? 1 : 0; break;
                        case MORE: stack[top] = a > b ? 1 : 0; break;
                        case PLUS: stack[top] = a + b; break;
                        case MINUS: stack[top] = a - b; break;
                        case TIMES: stack[top] = a * b; break;
                        case BY: stack[top] = b == 0 ? 0 : a / b; break;
                        default: stack[top] = b == 0 ? 0 : a % b;
                    }
                }
            }
            return 0;
        }
    }

    /** The tape and its reading into a draft; each reading method answers whether the text can still go on. */
    private static final class Tape {
        private static final int MOST_OPEN = 6, MOST_DIGITS = 4;
        private static final int COMPARED = 2, OPERAND = 5;
        private static final String NAMES = "ghtedi";
        // The signs that join, in the order of their steps in Law, and how tightly each of them joins.
        private static final String JOINS = "|&<=>+-*/%";
        private static final int[] LEVELS = {0, 1, COMPARED, COMPARED, COMPARED, 3, 3, 4, 4, 4};

        private final int[] letters = new int[LONGEST_TAPE];
        final Law draft = new Law();
        int length;
        private int at;

        int add(int letter) {
            letters[length] = letter;
            length++;
            return length;
        }

        /** The place of the first byte with which no text goes on, or -1. */
        int fault() {
            at = 0;
            draft.clear();
            for (int lines = 0; lines <= length; lines++) {
                if (!readLine()) {
                    return at;
                }
                if (at == length) {
                    return -1;
                }
                if (!take(';')) {
                    return at;
                }
            }
            return at;
        }

        private boolean readLine() {
            if (!readLevel(0, 0)) {
                return false;
            }
            int when = -1;
            if (take('?')) {
                when = draft.length;
                draft.add(Law.WHEN);
                if (!readLevel(0, 0)) {
                    return false;
                }
            }
            draft.endLine(when);
            return true;
        }

        private boolean readLevel(int level, int open) {
            if (level >= OPERAND) {
                return readOperand(open);
            }
            if (!readLevel(level + 1, open)) {
                return false;
            }
            int most = level == COMPARED ? 1 : length;
            for (int joins = 0; joins < most; joins++) {
                int step = takeJoin(level);
                if (step == 0) {
                    return true;
                }
                if (!readLevel(level + 1, open)) {
                    return false;
                }
                draft.add(step);
            }
            return true;
        }

        private int takeJoin(int level) {
            int sign = at < length ? JOINS.indexOf((char) letters[at]) : -1;
            if (sign < 0 || LEVELS[sign] != level) {
                return 0;
            }
            at++;
            return Law.FIRST_JOIN + sign;
        }

        private boolean readOperand(int open) {
            if (at >= length) {
                return false;
            }
            int letter = letters[at];
            if (isDigit(letter)) {
                readNumber();
                return true;
            }
            int name = NAMES.indexOf((char) letter);
            if (name >= 0) {
                at++;
                draft.add(Law.FIRST_NAME + name);
                return true;
            }
            return open < MOST_OPEN && readOpened(open + 1);
        }

        private boolean readOpened(int open) {
            if (take('(')) {
                return readLevel(0, open) && take(')');
            }
            int step = take('!') ? Law.NOT_SO : take('-') ? Law.NEGATED : 0;
            if (step == 0 || !readOperand(open)) {
                return false;
            }
            draft.add(step);
            return true;
        }

        private void readNumber() {
            int number = 0;
            for (int digits = 0; digits < MOST_DIGITS && at < length && isDigit(letters[at]); digits++) {
                number = number * 10 + letters[at] - '0';
                at++;
            }
            draft.add(number);
        }

        private static boolean isDigit(int letter) {
            return letter >= '0' && letter <= '9';
        }

        private boolean take(char sign) {
            if (at < length && letters[at] == sign) {
                at++;
                return true;
            }
            return false;
        }
    }

    /** Ice on planks, those beyond the bridge too. */
    private static final class Bridge {
        final int[] ice = new int[MOST_PLANKS];

        void become(Bridge other) {
            System.arraycopy(other.ice, 0, ice, 0, MOST_PLANKS);
        }

        void thaw(int minutes, Hall hall) {
            int loss = hall.thawOf(minutes);
            int planks = hall.planks();
            for (int p = 0; p < planks; p++) {
                ice[p] = Math.max(0, ice[p] - loss);
            }
        }

        int thinnest(Hall hall) {
            int planks = hall.planks();
            int least = 0;
            for (int p = 1; p < planks; p++) {
                if (ice[p] < ice[least]) {
                    least = p;
                }
            }
            return least;
        }

        int carries(int pace, Hall hall) {
            int planks = hall.planks();
            int lossAPlank = hall.thawOf(pace);
            int carried = MOST_WEIGHT;
            for (int p = 0; p < planks; p++) {
                carried = Math.min(carried, ice[p] - lossAPlank * p);
            }
            return Math.max(0, carried);
        }

        int fallsOn(int weight, int pace, Hall hall) {
            int planks = hall.planks();
            int lossAPlank = hall.thawOf(pace);
            for (int p = 0; p < planks; p++) {
                if (Math.max(0, ice[p] - lossAPlank * p) < weight) {
                    return p;
                }
            }
            return NOT;
        }

        int longestWait(int weight, int pace, Hall hall) {
            if (fallsOn(weight, pace, hall) != NOT) {
                return NOT;
            }
            int lossAMinute = hall.thawOf(1);
            if (weight == 0 || lossAMinute == 0) {
                return LONGEST_WAIT;
            }
            int planks = hall.planks();
            int longest = LONGEST_WAIT;
            for (int p = 0; p < planks; p++) {
                longest = Math.min(longest, (ice[p] - weight) / lossAMinute - pace * p);
            }
            return longest;
        }
    }

    /** What the hands make of turns; sums of all rows are kept, as searches play the same turns again and again. */
    private static final class Applause {
        private static final int MOST_GIVEN = 99, UNKNOWN = -1;

        private final Hall hall;
        private final Law law;
        private final int[] names = new int[6];
        private final int[] sums = new int[MOST_TURNS * MOST_PLANKS];
        // The ice for which a sum was worked out; 0 for all, if the law doesn't look at ice.
        private final int[] sumsIce = new int[MOST_TURNS * MOST_PLANKS];
        private int version = UNKNOWN;
        private int leftOut = NOBODY;

        Applause(Hall hall, Law law) {
            this.hall = hall;
            this.law = law;
        }

        void forget() {
            Arrays.fill(sumsIce, UNKNOWN);
            version = hall.version;
        }

        void leaveOut(int row) {
            leftOut = row;
            forget();
        }

        /** One byte of a programme on a bridge: how many minutes it took. */
        int step(int sign, Bridge bridge) {
            if (sign == INTERVAL) {
                int rest = hall.get(Hall.REST, 0);
                bridge.thaw(rest, hall);
                return rest;
            }
            int minutes = hall.get(Hall.LASTS, sign);
            bridge.thaw(minutes, hall);
            clap(sign, bridge);
            return minutes;
        }

        private void clap(int turn, Bridge bridge) {
            if (version != hall.version) {
                forget();
            }
            int planks = hall.planks();
            for (int p = 0; p < planks; p++) {
                int at = turn * MOST_PLANKS + p;
                int there = bridge.ice[p];
                int looked = law.looksAtIce ? there : 0;
                if (sumsIce[at] != looked) {
                    sums[at] = given(turn, p, there, 0, hall.rowCount);
                    sumsIce[at] = looked;
                }
                bridge.ice[p] = Math.max(0, Math.min(MOST_ICE, there + sums[at]));
            }
        }

        /** What the rows of hands from one on, ahead of another, give together, less the one left out. */
        int given(int turn, int plank, int there, int from, int ahead) {
            int sum = 0;
            names[0] = hall.get(Hall.GOOD, turn);
            names[5] = there;
            for (int row = from; row < ahead; row++) {
                if (row != leftOut) {
                    names[1] = hall.get(Hall.HANDS, row);
                    names[2] = hall.get(Hall.TASTE, row);
                    names[3] = hall.get(Hall.ENVY, row);
                    names[4] = Math.abs(hall.get(Hall.OVER, row) - plank);
                    int more = law.length == 0 ? givenWithoutText() : law.value(names);
                    sum += Math.max(-MOST_GIVEN, Math.min(MOST_GIVEN, more));
                }
            }
            return sum;
        }

        private int givenWithoutText() {
            return (names[0] - names[3]) * names[1] / (names[4] + 1) / 4;
        }
    }

    /** A programme that is played in thought, and what may be asked of it. */
    private static final class Thought {
        static final int NO_BYTE = -1;

        private final Hall hall;
        private final Applause applause;
        private final Bridge now;
        private final int[] bytes = new int[LONGEST_PROGRAMME];
        private int length;
        private int minutes;
        final Bridge then = new Bridge();

        Thought(Hall hall, Applause applause, Bridge now) {
            this.hall = hall;
            this.applause = applause;
            this.now = now;
        }

        void read(Shelf shelf) {
            int most = Math.min(shelf.size, LONGEST_PROGRAMME);
            for (length = 0; length < most; length++) {
                int sign = (int) shelf.elements[length];
                if (sign != INTERVAL && !isTurn(sign)) {
                    return;
                }
                bytes[length] = sign;
            }
        }

        private boolean isTurn(int sign) {
            return sign >= 0 && sign < hall.turnCount;
        }

        private void begin() {
            then.become(now);
            minutes = 0;
        }

        /** Plays the programme without one of its bytes (or NO_BYTE): the heaviest at pace 0 behind it. */
        int carriedWithout(int place) {
            begin();
            for (int k = 0; k < length; k++) {
                if (k != place) {
                    minutes += applause.step(bytes[k], then);
                }
            }
            return then.carries(0, hall);
        }

        int behind(int plank) {
            carriedWithout(NO_BYTE);
            switch (plank) {
                case -1: return length;
                case -2: return minutes;
                case -3: return then.thinnest(hall);
                case -4: return then.ice[then.thinnest(hall)];
                default: return plank < 0 || plank >= MOST_PLANKS ? BAD : then.ice[plank];
            }
        }

        int bytesUntil(int weight, int pace) {
            begin();
            for (int k = 0; k < length; k++) {
                if (then.fallsOn(weight, pace, hall) == NOT) {
                    return k;
                }
                applause.step(bytes[k], then);
            }
            return then.fallsOn(weight, pace, hall) == NOT ? length : NOT;
        }

        int bestSpared(int what) {
            int best = NOT;
            int place = NOT;
            for (int k = 0; k < length; k++) {
                int carried = carriedWithout(k);
                if (carried > best) {
                    best = carried;
                    place = k;
                }
            }
            return what == 0 ? place : best;
        }

        int harmfulRows() {
            int byAll = carriedWithout(NO_BYTE);
            int bits = 0;
            for (int row = 0; row < hall.rowCount; row++) {
                applause.leaveOut(row);
                if (carriedWithout(NO_BYTE) > byAll) {
                    bits |= 1 << row;
                }
            }
            applause.leaveOut(NOBODY);
            return bits;
        }

        int bestSeat(int row, int what) {
            int place = hall.placeOf(row, Hall.OVER);
            if (place < 0) {
                return BAD;
            }
            int was = hall.numbers[place];
            int planks = hall.planks();
            int best = -1;
            int seat = 0;
            for (int p = 0; p < planks; p++) {
                hall.change(place, p);
                int carried = carriedWithout(NO_BYTE);
                if (carried > best) {
                    best = carried;
                    seat = p;
                }
            }
            hall.change(place, was);
            return what == 0 ? seat : best;
        }

        int moreByEncore() {
            int carried = carriedWithout(NO_BYTE);
            for (int k = length - 1; k >= 0; k--) {
                if (isTurn(bytes[k])) {
                    applause.step(bytes[k], then);
                    return then.carries(0, hall) - carried;
                }
            }
            return 0;
        }

        int fewestHands(int row, int weight) {
            int place = hall.placeOf(row, Hall.HANDS);
            if (place < 0) {
                return BAD;
            }
            int was = hall.numbers[place];
            int fewest = NOT;
            for (int hands = was; fewest == NOT && hands <= Hall.MOST[Hall.HANDS]; hands++) {
                hall.change(place, hands);
                if (carriedWithout(NO_BYTE) >= weight) {
                    fewest = hands - was;
                }
            }
            hall.change(place, was);
            return fewest;
        }

        int firstUnlike(Shelf seen) {
            return seen.firstUnlike(then, hall.planks());
        }

        private boolean makes(Shelf seen, int turn) {
            begin();
            applause.step(turn, then);
            return firstUnlike(seen) == NOT;
        }

        int turnsThatMake(Shelf seen, int what) {
            int many = 0;
            int first = NOT;
            for (int turn = 0; turn < hall.turnCount; turn++) {
                if (makes(seen, turn)) {
                    first = many == 0 ? turn : first;
                    many++;
                }
            }
            return what == 0 ? many : first;
        }

        int goodsThatMake(Shelf seen, int turn, int what) {
            int place = hall.placeOf(turn, Hall.GOOD);
            if (place < 0) {
                return BAD;
            }
            int was = hall.numbers[place];
            int many = 0;
            int least = NOT;
            for (int good = 0; good <= Hall.MOST[Hall.GOOD]; good++) {
                hall.change(place, good);
                if (makes(seen, turn)) {
                    least = many == 0 ? good : least;
                    many++;
                }
            }
            hall.change(place, was);
            return what == 0 ? many : least;
        }

        int leastWarm(Shelf seen) {
            int place = hall.placeOf(0, Hall.WARM);
            if (place < 0) {
                return BAD;
            }
            int was = hall.numbers[place];
            int least = NOT;
            for (int warm = 0; least == NOT && warm <= Hall.MOST[Hall.WARM]; warm++) {
                hall.change(place, warm);
                carriedWithout(NO_BYTE);
                if (firstUnlike(seen) == NOT) {
                    least = warm;
                }
            }
            hall.change(place, was);
            return least;
        }

        int drawnEvenings(int seed, int evenings, int turns, int what) {
            int z = seed;
            int sum = 0;
            int crossed = 0;
            int hisses = hall.get(Hall.HISSES, 0);
            for (int evening = 0; evening < evenings && hall.turnCount > 0; evening++) {
                begin();
                for (int k = 0; k < turns; k++) {
                    z = z * 1103515245 + 12345;
                    int turn = (z >>> 8) % hall.turnCount;
                    if ((z >>> 16) % 12 < hisses) {
                        then.thaw(hall.get(Hall.LASTS, turn), hall);
                    } else {
                        applause.step(turn, then);
                    }
                }
                int carried = then.carries(0, hall);
                sum += carried;
                crossed += carried >= 100 ? 1 : 0;
            }
            return what == 0 ? sum : crossed;
        }
    }

    /** Turns in many orders; bridges behind each length are kept, so that only what changed is played again. */
    private static final class Search {
        // Orders of six turns; picks of none to five out of five.
        private static final int MOST_ORDERS = 720, MOST_PICKS = 1 + 5 + 25 + 125 + 625 + 3125;

        private final Hall hall;
        private final Applause applause;
        private final Bridge now;
        private final Bridge[] behind = new Bridge[MOST_TO_ORDER + 1];
        private final int[] picked = new int[MOST_TO_ORDER];
        final int[] chosen = new int[MOST_TO_ORDER];

        Search(Hall hall, Applause applause, Bridge now) {
            this.hall = hall;
            this.applause = applause;
            this.now = now;
            for (int k = 0; k <= MOST_TO_ORDER; k++) {
                behind[k] = new Bridge();
            }
        }

        int bestOrder() {
            int many = hall.turnCount;
            int best = -1;
            int changed = beginOrders();
            for (int tries = 0; tries < MOST_ORDERS && changed >= 0; tries++) {
                playFrom(changed, many);
                int carried = behind[many].carries(0, hall);
                if (carried > best) {
                    best = carried;
                    choose();
                }
                changed = nextOrder(many);
            }
            return best;
        }

        int ordersThatMake(Shelf seen, int what) {
            int many = hall.turnCount;
            int orders = 0;
            int first = NOT;
            int changed = beginOrders();
            for (int tries = 0; tries < MOST_ORDERS && changed >= 0; tries++) {
                playFrom(changed, many);
                if (seen.firstUnlike(behind[many], hall.planks()) == NOT) {
                    first = orders == 0 ? asDigits(many) : first;
                    orders++;
                }
                changed = nextOrder(many);
            }
            return what == 0 ? orders : first;
        }

        /** Tries the picks from the shortest on, and by numbers those of a length. */
        int fewestFor(int weight) {
            behind[0].become(now);
            Arrays.fill(picked, 0);
            int longest = hall.turnCount == 0 ? 0 : LONGEST_PICK;
            int many = 0;
            int changed = 0;
            for (int tries = 0; tries < MOST_PICKS && many <= longest; tries++) {
                playFrom(changed, many);
                if (behind[many].carries(0, hall) >= weight) {
                    choose();
                    return many;
                }
                changed = nextPick(many);
                if (changed < 0) {
                    many++;
                    changed = 0;
                }
            }
            return NOT;
        }

        private int beginOrders() {
            behind[0].become(now);
            for (int k = 0; k < MOST_TO_ORDER; k++) {
                picked[k] = k;
            }
            return 0;
        }

        private void playFrom(int changed, int many) {
            for (int k = changed; k < many; k++) {
                behind[k + 1].become(behind[k]);
                applause.step(picked[k], behind[k + 1]);
            }
        }

        private void choose() {
            System.arraycopy(picked, 0, chosen, 0, MOST_TO_ORDER);
        }

        private int asDigits(int many) {
            int digits = 0;
            for (int k = 0; k < many; k++) {
                digits = digits * 10 + picked[k];
            }
            return digits;
        }

        /** The next order by numbers: the first place that has changed, or -1 behind the last order. */
        private int nextOrder(int many) {
            int place = many - 2;
            while (place >= 0 && picked[place] > picked[place + 1]) {
                place--;
            }
            if (place < 0) {
                return -1;
            }
            int other = many - 1;
            while (other > place && picked[other] < picked[place]) {
                other--;
            }
            swap(place, other);
            int low = place + 1;
            for (int high = many - 1; low < high; high--) {
                swap(low, high);
                low++;
            }
            return place;
        }

        private void swap(int a, int b) {
            int held = picked[a];
            picked[a] = picked[b];
            picked[b] = held;
        }

        /** The next pick by numbers: the first place that has changed, or -1 behind the last pick (all 0 then). */
        private int nextPick(int many) {
            for (int place = many - 1; place >= 0; place--) {
                picked[place]++;
                if (picked[place] < hall.turnCount) {
                    return place;
                }
                picked[place] = 0;
            }
            return -1;
        }
    }

    /** The evening in deed, and its image. */
    private static final class Deeds {
        static final int TURNS = 0, INTERVALS = 1, CROSSINGS = 2, FALLS = 3, MINUTES = 4;

        final Bridge bridge = new Bridge();
        final int[] led = new int[MINUTES + 1];
        private final Bridge imageBridge = new Bridge();
        private final int[] imageLed = new int[MINUTES + 1];
        boolean hasImage;

        int someoneCrosses(int weight, int pace, Hall hall) {
            int fall = bridge.fallsOn(weight, pace, hall);
            int minutes = pace * (fall == NOT ? hall.planks() : fall + 1);
            bridge.thaw(minutes, hall);
            led[CROSSINGS]++;
            led[MINUTES] += minutes;
            if (fall != NOT) {
                bridge.ice[fall] = 0;
                led[FALLS]++;
            }
            return fall;
        }

        void keepImage() {
            imageBridge.become(bridge);
            System.arraycopy(led, 0, imageLed, 0, led.length);
            hasImage = true;
        }

        void layBack() {
            bridge.become(imageBridge);
            System.arraycopy(imageLed, 0, led, 0, led.length);
        }
    }

    private static final class Shelf {
        static final int NOTHING = 0, A_BODY = 1, A_ROW = 2;
        static final int BYTES = 0, SHORTS = 1, INTS = 2, BOOLEANS = 4, LONGEST_ROW = 60;

        final long[] elements = new long[LONGEST_ROW];
        int holds;
        int body;
        int sort;
        int size;

        void hold(int newBody) {
            holds = newBody == NOBODY ? NOTHING : A_BODY;
            body = newBody;
        }

        void holdRow(int newSort, int newSize) {
            holds = A_ROW;
            sort = newSort;
            size = newSize;
            Arrays.fill(elements, 0L);
        }

        void set(int i, long v) {
            elements[i] = held(v);
        }

        private long held(long v) {
            switch (sort) {
                case BYTES: return (byte) v;
                case SHORTS: return (short) v;
                case INTS: return (int) v;
                case BOOLEANS: return v != 0 ? 1 : 0;
                default: return v;
            }
        }

        boolean hasPlaces(int from, int n) {
            // n is looked at first: size - n can't wrap then.
            return n >= 0 && from >= 0 && from <= size - n;
        }

        int firstUnlike(Bridge bridge, int planks) {
            int seen = Math.min(size, planks);
            for (int p = 0; p < seen; p++) {
                if (elements[p] != bridge.ice[p]) {
                    return p;
                }
            }
            return NOT;
        }
    }

    /** Bodies kept by their kinds, and their acts. */
    private static final class Bodies {
        static final int MOST = 50, KINDS = 8, ACTS = 4, LONGEST_TRACE = 24;
        private static final int PLANK = 0, LACE = 1, OVATION = 2, ENCORE = 3, HISS = 6;
        private static final int BEARS = 0, CLAPS = 1, THAWS = 2, TELLS = 3;
        private static final int[] ABOVE = {-1, 0, 0, 2, 1, 3, 0, 6};
        // Which body runs for a kind (a line each) and an act, those from the kinds above it told too.
        private static final int[] RUNS = {
            1, 10, 11, 2,
            20, 10, 11, 2,
            1, 30, 11, 2,
            1, 41, 40, 2,
            20, 10, 11, 50,
            1, 41, 60, 61,
            70, 10, 11, 2,
            81, 80, 11, 2};
        // The longest chain of acts is some eight deep; this only shows that there is an end.
        private static final int DEEPEST = 40;

        final int[] kinds = new int[MOST];
        final int[] begun = new int[LONGEST_TRACE];
        int many;
        int ran;
        private int number;
        private int kind;

        int add(int newKind) {
            kinds[many] = newKind;
            return many++;
        }

        boolean has(int body) {
            return body >= 0 && body < many;
        }

        static boolean isUnder(int kind, int upper) {
            int k = kind;
            for (int level = 0; level < KINDS && k >= 0 && k != upper; level++) {
                k = ABOVE[k];
            }
            return k == upper;
        }

        int perform(int body, int act, int x) {
            number = body;
            kind = kinds[body];
            return called(kind, act, x, 0);
        }

        private int called(int from, int act, int x, int depth) {
            int code = RUNS[from * ACTS + act];
            if (ran < LONGEST_TRACE) {
                begun[ran] = code;
            }
            ran++;
            return depth < DEEPEST ? run(code, x, depth + 1) : 0;
        }

        private int run(int code, int x, int depth) {
            switch (code) {
                case 1: return x + number;
                case 2: return called(kind, CLAPS, x, depth) - called(kind, THAWS, 1, depth);
                case 10: return called(kind, BEARS, x, depth) * 2;
                case 11: return x ^ number;
                case 20: return called(PLANK, BEARS, x, depth) + 3;
                case 30: return -called(PLANK, CLAPS, x, depth);
                case 40: return called(OVATION, THAWS, x, depth) * 3;
                case 41: return called(OVATION, CLAPS, x + 1, depth);
                case 50: return called(LACE, TELLS, x, depth) ^ 5;
                case 60: return called(ENCORE, THAWS, x, depth) - called(kind, BEARS, 2, depth);
                case 61: return called(ENCORE, TELLS, x, depth) + 1;
                case 70: return called(PLANK, BEARS, x, depth) * 2;
                case 80: return called(HISS, CLAPS, x, depth) + called(kind, THAWS, 2, depth);
                case 81: return called(HISS, BEARS, x, depth) - 1;
                default: return 0;
            }
        }
    }
}
