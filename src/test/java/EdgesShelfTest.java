/** The edges that part 5 of the document's terms and promises 37 to 46 name, sentence by sentence. */
public final class EdgesShelfTest extends Told {
    private static final int[] ABOVE = {-1, 0, 0, 2, 1, 3, 0, 6};
    private static final long NONE = Long.MIN_VALUE;

    public static void main(String[] args) {
        bodies();
        actsThatWrap();
        actsOfItsNumber();
        actsOfOthers();
        noSuchAct();
        trace();
        traceOfTheLatest();
        keepNothingOrABody();
        rowSizes();
        rowAtFirst();
        putKeepsLowestBits();
        putBooleans();
        putRefused();
        elementRefused();
        shiftRefused();
        shiftPlaces();
        shiftOntoItself();
        shiftOfEachSort();
        takenForOrUnder();
        takenRefused();
        count();
        C.end();
    }

    // ---- BODIES

    private static void bodies() {
        says("BODIES 0 .. 49 are kept by call; of a KIND (0 .. 7): its number. BAD, FULL");
        IceOfApplause x = new IceOfApplause();
        for (int kind : new int[] {-1, 8, MIN, MAX}) {
            due("kind " + kind, x.body(kind), BAD);
        }
        for (int k = 0; k < 50; k++) {
            due("body " + k, x.body(k * 3 % 8), k);
            due("as many", x.count(4), k + 1);
        }
        due("a fifty-first", x.body(0), FULL);
        due("of kind 7", x.body(7), FULL);
        due("BAD goes ahead of FULL", x.body(8), BAD);
        due("BAD goes ahead of FULL", x.body(-1), BAD);
        due("fifty", x.count(4), 50);
        due("the last one, an ENCORE, bears", x.act(49, 0, 1), 50);
        x.keep(0, 49);
        due("its KIND", x.taken(0, 0), 3);
    }

    private static void actsThatWrap() {
        says("ACTS with x (an int that wraps)");
        IceOfApplause x = oneOfEach();
        for (int v : new int[] {MAX, MIN, MAX - 1, MIN + 1, -1, 0, 1 << 30, -(1 << 30) - 1, MAX / 2 + 1}) {
            due("PLANK bears " + v, x.act(0, 0, v), v);
            due("PLANK claps " + v, x.act(0, 1, v), v * 2);
            due("PLANK tells " + v, x.act(0, 3, v), v * 2 - 1);
            due("LACE bears " + v, x.act(1, 0, v), v + 1 + 3);
            due("LACE claps " + v, x.act(1, 1, v), (v + 4) * 2);
            due("OVATION claps " + v, x.act(2, 1, v), -((v + 2) * 2));
            due("OVATION tells " + v, x.act(2, 3, v), -((v + 2) * 2) - (1 ^ 2));
            due("ENCORE thaws " + v, x.act(3, 2, v), (v ^ 3) * 3);
            due("ENCORE claps " + v, x.act(3, 1, v), -((v + 1 + 3) * 2));
            due("CLAQUE tells " + v, x.act(4, 3, v), ((v + 4 + 3) * 2 - (1 ^ 4)) ^ 5);
            due("CRITIC thaws " + v, x.act(5, 2, v), (v ^ 5) * 3 - (2 + 5));
            due("CRITIC tells " + v, x.act(5, 3, v), -((v + 1 + 5) * 2) - ((1 ^ 5) * 3 - 7) + 1);
            due("HISS bears " + v, x.act(6, 0, v), (v + 6) * 2);
            due("HISS claps " + v, x.act(6, 1, v), (v + 6) * 4);
            due("SILENCE bears " + v, x.act(7, 0, v), (v + 7) * 2 - 1);
            due("SILENCE claps " + v, x.act(7, 1, v), ((v + 7) * 2 - 1) * 2 + (2 ^ 7));
            due("SILENCE thaws " + v, x.act(7, 2, v), v ^ 7);
        }
    }

    private static void actsOfItsNumber() {
        says("n its number");
        IceOfApplause x = new IceOfApplause();
        for (int k = 0; k < 50; k++) {
            x.body(5);
            due("CRITIC " + k + " bears", x.act(k, 0, 100), 100 + k);
            due("CRITIC " + k + " thaws", x.act(k, 2, 100), (100 ^ k) * 3 - (2 + k));
        }
        due("the first one still", x.act(0, 0, 100), 100);
    }

    private static void actsOfOthers() {
        says("the body of its own KIND, or of the next KIND above that has one; super: from the KIND above the body's on");
        int[][] ran = {
            {1}, {10, 1}, {11}, {2, 10, 1, 11},
            {20, 1}, {10, 20, 1}, {11}, {2, 10, 20, 1, 11},
            {1}, {30, 10, 1}, {11}, {2, 30, 10, 1, 11},
            {1}, {41, 30, 10, 1}, {40, 11}, {2, 41, 30, 10, 1, 40, 11},
            {20, 1}, {10, 20, 1}, {11}, {50, 2, 10, 20, 1, 11},
            {1}, {41, 30, 10, 1}, {60, 40, 11, 1}, {61, 2, 41, 30, 10, 1, 60, 40, 11, 1},
            {70, 1}, {10, 70, 1}, {11}, {2, 10, 70, 1, 11},
            {81, 70, 1}, {80, 10, 81, 70, 1, 11}, {11}, {2, 80, 10, 81, 70, 1, 11, 11}};
        IceOfApplause x = oneOfEach();
        for (int k = 0; k < ran.length; k++) {
            x.act(k / 4, k % 4, 9);
            due("bodies that ran in act " + k % 4 + " of kind " + k / 4, x.count(5), ran[k].length);
            for (int i = 0; i < ran[k].length; i++) {
                due("trace " + i + " of act " + k % 4 + " of kind " + k / 4, x.trace(i), ran[k][i]);
            }
            due("behind the trace", x.trace(ran[k].length), BAD);
        }
    }

    private static void noSuchAct() {
        says("0, and no TRACE then: no such BODY, ACT");
        int[][] wrong = {{-1, 0}, {8, 0}, {49, 0}, {50, 0}, {MIN, 0}, {MAX, 0}, {0, -1}, {0, 4}, {0, MIN}, {0, MAX},
            {8, 4}, {-1, -1}};
        IceOfApplause x = oneOfEach();
        for (int[] pair : wrong) {
            due("an act that is", x.act(5, 3, 1), -14 - 5 + 1);
            due("ten ran", x.count(5), 10);
            due("body " + pair[0] + ", act " + pair[1], x.act(pair[0], pair[1], 5), 0);
            due("no TRACE", x.trace(0), BAD);
            due("none ran", x.count(5), 0);
        }
        IceOfApplause y = new IceOfApplause();
        due("no bodies at all", y.act(0, 0, 1), 0);
        due("no TRACE", y.trace(0), BAD);
    }

    private static void trace() {
        says("THE TRACE's i-th body. BAD; the first 24 are kept");
        IceOfApplause x = oneOfEach();
        due("none as yet", x.trace(0), BAD);
        x.act(7, 3, 4);
        int[] ran = {2, 80, 10, 81, 70, 1, 11, 11};
        for (int i = 0; i < 8; i++) {
            due("place " + i, x.trace(i), ran[i]);
        }
        for (int i : new int[] {8, 9, 23, 24, 25, -1, MIN, MAX}) {
            due("place " + i, x.trace(i), BAD);
        }
    }

    private static void traceOfTheLatest() {
        says("numbers of the bodies that ran in the latest act(), as they began");
        IceOfApplause x = oneOfEach();
        x.act(5, 3, 4);
        due("ten ran", x.count(5), 10);
        x.act(2, 2, 4);
        due("one ran", x.count(5), 1);
        due("it", x.trace(0), 11);
        due("not those of the act before", x.trace(1), BAD);
        x.body(0);
        x.keep(0, 8);
        x.mend(0, 7, 2);
        due("it stays until another act", x.trace(0), 11);
        due("one ran", x.count(5), 1);
    }

    // ---- SHELVES

    private static void keepNothingOrABody() {
        says("A SHELF holds nothing (body -1), or a BODY: 1. BAD");
        IceOfApplause x = oneOfEach();
        for (int shelf : new int[] {-1, 6, MIN, MAX}) {
            due("shelf " + shelf, x.keep(shelf, 0), BAD);
            due("nothing on shelf " + shelf, x.keep(shelf, -1), BAD);
        }
        for (int body : new int[] {-2, 8, 49, 50, MIN, MAX}) {
            due("body " + body, x.keep(0, body), BAD);
        }
        due("nothing came", x.taken(0, 0), NOTHING_THERE);
        for (int shelf = 0; shelf < 6; shelf++) {
            due("nothing for nothing", x.keep(shelf, -1), 1);
            due("a body", x.keep(shelf, shelf + 2), 1);
        }
        for (int shelf = 0; shelf < 6; shelf++) {
            due("it is there", x.taken(shelf, 0), shelf + 2);
            x.row(shelf, 2, 3);
            due("a row for it", x.taken(shelf, 0), ANOTHER_KIND);
            due("a row is there", x.element(shelf, 2), 0);
            due("a body for a row", x.keep(shelf, 7), 1);
            due("no row is there", x.element(shelf, 2), NONE);
            due("nothing for it", x.keep(shelf, -1), 1);
            due("nothing is there", x.taken(shelf, 0), NOTHING_THERE);
        }
        IceOfApplause y = new IceOfApplause();
        due("no body 0", y.keep(0, 0), BAD);
    }

    private static void rowSizes() {
        says("a ROW: of 0 bytes, 1 shorts, 2 ints, 3 longs, 4 booleans, of 0 .. 60 elements. BAD (sort, n above 60); -14");
        IceOfApplause x = new IceOfApplause();
        for (int shelf : new int[] {-1, 6, MIN, MAX}) {
            due("shelf " + shelf, x.row(shelf, 0, 1), BAD);
            due("shelf " + shelf + ", a size below 0", x.row(shelf, 0, -1), BAD);
        }
        for (int sort : new int[] {-1, 5, MIN, MAX}) {
            due("sort " + sort, x.row(0, sort, 1), BAD);
            due("sort " + sort + ", a size below 0", x.row(0, sort, -1), BAD);
        }
        for (int sort = 0; sort < 5; sort++) {
            due("61 of " + sort, x.row(0, sort, 61), BAD);
            due("MAX of " + sort, x.row(0, sort, MAX), BAD);
            due("-1 of " + sort, x.row(0, sort, -1), NO_SIZE);
            due("MIN of " + sort, x.row(0, sort, MIN), NO_SIZE);
            due("nothing came", x.put(0, 0, 1), NOTHING_THERE);
        }
        for (int sort = 0; sort < 5; sort++) {
            for (int n : new int[] {0, 1, 59, 60}) {
                due(n + " of " + sort, x.row(5, sort, n), 1);
                due("the last of " + n, x.put(5, n - 1, 1), n == 0 ? NO_PLACE : 1);
                due("behind the last of " + n, x.put(5, n, 1), NO_PLACE);
            }
        }
    }

    private static void rowAtFirst() {
        says("0 at first (false)");
        for (int sort = 0; sort < 5; sort++) {
            IceOfApplause x = new IceOfApplause();
            x.row(0, 3, 60);
            for (int i = 0; i < 60; i++) {
                x.put(0, i, -1 - i);
            }
            x.row(0, sort, 60);
            for (int i = 0; i < 60; i++) {
                due("element " + i, x.element(0, i), 0);
            }
            x.put(0, 3, 1);
            x.row(0, sort, 2);
            x.row(0, sort, 4);
            due("a shorter one is none of the longer", x.element(0, 3), 0);
        }
    }

    private static void putKeepsLowestBits() {
        says("what is put in keeps its lowest bits");
        long[] values = {0, 1, -1, 127, 128, 255, 256, -128, -129, 32767, 32768, 65535, 65536, -32768, -32769,
            2147483647L, 2147483648L, 4294967295L, 4294967296L, -2147483648L, -2147483649L, Long.MAX_VALUE,
            Long.MIN_VALUE + 1, 0x1234_5678_9ABC_DEF0L};
        IceOfApplause x = new IceOfApplause();
        for (int sort = 0; sort < 4; sort++) {
            x.row(sort, sort, 3);
        }
        for (long v : values) {
            for (int sort = 0; sort < 4; sort++) {
                due("put " + v, x.put(sort, 1, v), 1);
            }
            due("byte of " + v, x.element(0, 1), (byte) v);
            due("short of " + v, x.element(1, 1), (short) v);
            due("int of " + v, x.element(2, 1), (int) v);
            due("long of " + v, x.element(3, 1), v);
        }
        for (int sort = 0; sort < 4; sort++) {
            due("the one ahead", x.element(sort, 0), 0);
            due("the one behind", x.element(sort, 2), 0);
        }
        due("Long.MIN_VALUE may be put", x.put(3, 0, Long.MIN_VALUE), 1);
        due("and is there", x.element(3, 0), Long.MIN_VALUE);
        due("its byte is 0", x.put(0, 0, Long.MIN_VALUE), 1);
        due("its byte is 0", x.element(0, 0), 0);
    }

    private static void putBooleans() {
        says("(a boolean: whether it is not 0; 1 or 0)");
        IceOfApplause x = new IceOfApplause();
        x.row(0, 4, 2);
        for (long v : new long[] {1, -1, 2, 7, 256, 65536, 1L << 32, 1L << 63, Long.MAX_VALUE, -256}) {
            x.put(0, 1, 0);
            due("false", x.element(0, 1), 0);
            due("put " + v, x.put(0, 1, v), 1);
            due("true of " + v, x.element(0, 1), 1);
        }
        due("the other", x.element(0, 0), 0);
    }

    private static void putRefused() {
        says("put: BAD, -11, -12, -13");
        IceOfApplause x = oneOfEach();
        for (int shelf : new int[] {-1, 6, MIN, MAX}) {
            due("shelf " + shelf, x.put(shelf, -1, 1), BAD);
        }
        for (int i : new int[] {0, -1, 60, MIN, MAX}) {
            due("on nothing, place " + i, x.put(3, i, 1), NOTHING_THERE);
        }
        x.keep(3, 4);
        for (int i : new int[] {0, -1, 60, MIN, MAX}) {
            due("on a body, place " + i, x.put(3, i, 1), ANOTHER_KIND);
        }
        for (int sort = 0; sort < 5; sort++) {
            x.row(3, sort, 4);
            for (int i : new int[] {-1, 4, 5, 59, 60, MIN, MAX}) {
                due("place " + i + " of 4", x.put(3, i, 1), NO_PLACE);
            }
            due("place 3 of 4", x.put(3, 3, 1), 1);
            due("place 0 of 4", x.put(3, 0, 1), 1);
        }
    }

    private static void elementRefused() {
        says("Element i of a ROW; Long.MIN_VALUE: BAD, -11 to -13");
        IceOfApplause x = oneOfEach();
        for (int shelf : new int[] {-1, 6, MIN, MAX}) {
            due("shelf " + shelf, x.element(shelf, 0), NONE);
        }
        due("on nothing", x.element(3, 0), NONE);
        x.keep(3, 4);
        due("on a body", x.element(3, 0), NONE);
        for (int sort = 0; sort < 5; sort++) {
            x.row(3, sort, 4);
            for (int i : new int[] {-1, 4, 5, 59, 60, MIN, MAX}) {
                due("place " + i + " of 4", x.element(3, i), NONE);
            }
            due("place 3 of 4", x.element(3, 3), 0);
        }
        x.row(3, 0, 0);
        due("place 0 of none", x.element(3, 0), NONE);
    }

    // ---- shift

    private static void shiftRefused() {
        says("shift: BAD, -11 (either), -12 (no ROWS, or of unlike sorts), -13");
        IceOfApplause x = oneOfEach();
        x.keep(1, 0);
        x.row(2, 2, 5);
        x.row(3, 3, 5);
        x.row(4, 2, 5);
        int[][] shelves = {{-1, 2}, {2, -1}, {6, 2}, {2, 6}, {-1, 0}, {0, 6}, {MIN, MAX}, {MAX, 1}, {0, 0}, {0, 2}, {2, 0},
            {1, 0}, {0, 1}, {1, 1}, {1, 2}, {2, 1}, {2, 3}, {3, 2}, {2, 4}, {4, 4}};
        int[] due = {BAD, BAD, BAD, BAD, BAD, BAD, BAD, BAD, -11, -11, -11, -11, -11, -12, -12, -12, -12, -12, -13, -13};
        for (int k = 0; k < shelves.length; k++) {
            int from = shelves[k][0];
            int to = shelves[k][1];
            due("from " + from + " to " + to + ", no place", x.shift(from, -1, to, 9, -5), due[k]);
            due("from " + from + " to " + to, x.shift(from, 0, to, 0, 2), due[k] == NO_PLACE ? 2 : due[k]);
        }
        for (int one = 0; one < 5; one++) {
            for (int other = 0; other < 5; other++) {
                x.row(0, one, 1);
                x.row(5, other, 1);
                due("sorts " + one + " " + other, x.shift(0, 0, 5, 0, 1), one == other ? 1 : ANOTHER_KIND);
            }
        }
    }

    private static void shiftPlaces() {
        says("shift: -13 (n below 0, too)");
        IceOfApplause x = new IceOfApplause();
        fill(x, 0, 2, 1, 2, 3, 4, 5);
        fill(x, 1, 2, 6, 7, 8);
        int[][] wrong = {{0, 0, -1}, {0, 0, MIN}, {-1, 0, 1}, {0, -1, 1}, {MIN, 0, 0}, {0, MIN, 0}, {5, 0, 1}, {4, 0, 2},
            {0, 3, 1}, {0, 1, 3}, {0, 0, 4}, {0, 0, 6}, {6, 0, 0}, {0, 4, 0}, {1, 0, MAX}, {MAX, 0, 1}, {0, MAX, 1},
            {MAX, MAX, MAX}, {-1, 0, 0}, {0, -1, 0}, {3, 0, MAX - 1}, {MAX, 0, 2}, {0, MAX, 2}, {-1, -1, -1}, {5, 3, -1}};
        for (int[] w : wrong) {
            due("from " + w[0] + " to " + w[1] + ", " + w[2], x.shift(0, w[0], 1, w[1], w[2]), NO_PLACE);
        }
        for (int i = 0; i < 3; i++) {
            due("nothing came", x.element(1, i), 6 + i);
        }
        says("n elements of a ROW from i on come to another one from j on: n");
        due("none", x.shift(0, 0, 1, 0, 0), 0);
        due("none behind the last", x.shift(0, 5, 1, 3, 0), 0);
        due("the last to the first", x.shift(0, 4, 1, 0, 1), 1);
        due("it came", x.element(1, 0), 5);
        due("the first to the last", x.shift(0, 0, 1, 2, 1), 1);
        due("it came", x.element(1, 2), 1);
        due("the one between stays", x.element(1, 1), 7);
        due("all of the shorter", x.shift(1, 0, 0, 2, 3), 3);
        int[] then = {1, 2, 5, 7, 1};
        for (int i = 0; i < 5; i++) {
            due("place " + i, x.element(0, i), then[i]);
        }
        x.row(2, 2, 0);
        due("none to a row of none", x.shift(0, 5, 2, 0, 0), 0);
        due("one to a row of none", x.shift(0, 0, 2, 0, 1), NO_PLACE);
    }

    private static void shiftOntoItself() {
        says("(or the same) from j on, as they all were before");
        for (int i = 0; i <= 6; i++) {
            for (int j = 0; j <= 6; j++) {
                IceOfApplause x = new IceOfApplause();
                fill(x, 0, 3, 10, 11, 12, 13, 14, 15);
                int n = 6 - Math.max(i, j);
                due("from " + i + " to " + j, x.shift(0, i, 0, j, n), n);
                for (int k = 0; k < 6; k++) {
                    due("place " + k, x.element(0, k), k >= j && k < j + n ? 10 + k - j + i : 10 + k);
                }
                due("one more", x.shift(0, i, 0, j, n + 1), NO_PLACE);
            }
        }
    }

    private static void shiftOfEachSort() {
        says("shift: ROWS of like sorts");
        long wide = 0x1234_5678_9ABC_DEF1L;
        long[] kept = {(byte) wide, (short) wide, (int) wide, wide, 1};
        for (int sort = 0; sort < 5; sort++) {
            IceOfApplause x = new IceOfApplause();
            x.row(0, sort, 60);
            x.row(5, sort, 60);
            x.put(0, 59, wide);
            due("sixty of sort " + sort, x.shift(0, 0, 5, 0, 60), 60);
            due("the last", x.element(5, 59), kept[sort]);
            x.put(0, 59, 0);
            due("a row of its own", x.element(5, 59), kept[sort]);
        }
    }

    // ---- taken, count

    private static void takenForOrUnder() {
        says("What a SHELF holds, taken for a BODY of KIND k (0 .. 7), or under it: its KIND");
        IceOfApplause x = oneOfEach();
        for (int kind = 0; kind < 8; kind++) {
            x.keep(kind % 6, kind);
            for (int k = 0; k < 8; k++) {
                boolean under = false;
                for (int up = kind; up >= 0; up = ABOVE[up]) {
                    under |= up == k;
                }
                due("kind " + kind + " taken for " + k, x.taken(kind % 6, k), under ? kind : ANOTHER_KIND);
            }
        }
    }

    private static void takenRefused() {
        says("taken: BAD, -11, -12");
        IceOfApplause x = oneOfEach();
        x.keep(1, 0);
        x.row(2, 0, 0);
        for (int k : new int[] {-1, 8, MIN, MAX}) {
            for (int shelf = 0; shelf < 3; shelf++) {
                due("kind " + k + " on " + shelf, x.taken(shelf, k), BAD);
            }
        }
        for (int shelf : new int[] {-1, 6, MIN, MAX}) {
            due("shelf " + shelf, x.taken(shelf, 0), BAD);
        }
        for (int k = 0; k < 8; k++) {
            due("nothing for " + k, x.taken(0, k), NOTHING_THERE);
            due("a PLANK for " + k, x.taken(1, k), k == 0 ? 0 : ANOTHER_KIND);
            due("a row for " + k, x.taken(2, k), ANOTHER_KIND);
        }
    }

    private static void count() {
        says("How many: 0 ROWS OF HANDS, 1 TURNS, 2 bytes on THE TAPE, 3 changes, 4 BODIES, 5 bodies that ran. BAD");
        IceOfApplause x = new IceOfApplause();
        for (int what = 0; what <= 5; what++) {
            due("what " + what + " at first", x.count(what), 0);
        }
        for (int what : new int[] {-1, 6, MIN, MAX}) {
            due("what " + what, x.count(what), BAD);
        }
        x.hands(1, 1);
        x.turn(1, 1);
        x.turn(1, 1);
        for (int k = 0; k < 3; k++) {
            x.feed(0);
        }
        for (int k = 2; k < 6; k++) {
            x.mend(0, 7, k);
        }
        for (int k = 0; k < 5; k++) {
            x.body(7);
        }
        x.act(0, 1, 0);
        int[] many = {1, 2, 3, 4, 5, 6};
        for (int what = 0; what <= 5; what++) {
            due("what " + what, x.count(what), many[what]);
        }
        x.law();
        due("a fault empties THE TAPE", x.count(2), 0);
        x.undo();
        due("one less may be undone", x.count(3), 3);
        x.redo();
        due("one more may be undone", x.count(3), 4);
    }
}
