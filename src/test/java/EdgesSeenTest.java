/** The edges that part 3 of the document's terms, its draws and promises 22 to 27 name, sentence by sentence. */
public final class EdgesSeenTest extends Told {
    public static void main(String[] args) {
        shelvesOfJudgeAndWarm();
        refusalsOfJudgeAndWarm();
        asFarAsItGoes();
        firstThatIsNotSo();
        shortsAsTheyAre();
        onlyOnRowsOfShorts();
        whichTurn();
        whichOfNone();
        howGood();
        howGoodNumbers();
        ordersOfHowMany();
        ordersAsDigits();
        ordersState();
        howWarm();
        howWarmNone();
        drawnNumbers();
        drawnBySeeds();
        drawnOfManyTurns();
        drawnHisses();
        drawnNothing();
        drawnFromNow();
        C.end();
    }

    // ---- SEEN

    private static void shelvesOfJudgeAndWarm() {
        says("ps: 10 times the SHELF of the PROGRAMME, and that of what was SEEN");
        for (int p = 0; p < 6; p++) {
            for (int s = 0; s < 6; s++) {
                IceOfApplause x = iced(50, 60);
                due("judge of nothing " + p + " " + s, x.judge(10 * p + s), NOTHING_THERE);
                due("warm of nothing " + p + " " + s, x.warm(10 * p + s), NOTHING_THERE);
                bytes(x, p, 20);
                if (p == s) {
                    due("judge, both on " + p, x.judge(11 * p), ANOTHER_KIND);
                    due("warm, both on " + p, x.warm(11 * p), ANOTHER_KIND);
                    shorts(x, p, 50);
                    due("judge, both on " + p, x.judge(11 * p), ANOTHER_KIND);
                    due("warm, both on " + p, x.warm(11 * p), ANOTHER_KIND);
                } else {
                    shorts(x, s, 50, 61);
                    due("judge " + p + " " + s, x.judge(10 * p + s), 1);
                    due("warm " + p + " " + s, x.warm(10 * p + s), NOT);
                    shorts(x, s, 20, 30);
                    due("warm " + p + " " + s, x.warm(10 * p + s), 2);
                    due("judge " + p + " " + s, x.judge(10 * p + s), 0);
                }
            }
        }
    }

    private static void refusalsOfJudgeAndWarm() {
        says("judge, warm: BAD, -11, -12");
        IceOfApplause x = small();
        for (int ps : new int[] {-1, -5, -10, -11, -60, 6, 7, 8, 9, 16, 59, 60, 61, 65, 66, 100, 1000, MIN, MAX}) {
            due("judge of " + ps, x.judge(ps), BAD);
            due("warm of " + ps, x.warm(ps), BAD);
        }
        bytes(x, 0, 0);
        shorts(x, 1, 40);
        due("BAD goes ahead of -12", x.judge(16), BAD);
        due("BAD goes ahead of -12", x.warm(61), BAD);
        x.body(0);
        x.keep(2, 0);
        for (int other : new int[] {0, 2, 3, 4, 5}) {
            if (other > 2) {
                x.row(other, other - 1, 2);
            }
            due("seen on " + other, x.judge(other), ANOTHER_KIND);
            due("seen on " + other, x.warm(other), ANOTHER_KIND);
        }
        for (int other = 1; other <= 5; other++) {
            due("a programme on " + other, x.judge(10 * other + 1), ANOTHER_KIND);
            due("a programme on " + other, x.warm(10 * other + 1), ANOTHER_KIND);
        }
        x.keep(5, -1);
        due("a programme on nothing", x.judge(51), NOTHING_THERE);
        due("-11 goes ahead of -12", x.judge(52), NOTHING_THERE);
        due("-11 goes ahead of -12", x.judge(25), NOTHING_THERE);
        due("-11 goes ahead of -12", x.warm(53), NOTHING_THERE);
        due("-11 goes ahead of -12", x.warm(35), NOTHING_THERE);
        due("both are there", x.judge(1), NOT);
    }

    private static void asFarAsItGoes() {
        says("ICE of PLANKS 0 on, as far as it goes (no more than LONG count)");
        IceOfApplause x = iced(10, 20, 30);
        x.mend(0, 6, 2);
        bytes(x, 0);
        for (int size : new int[] {0, 1, 2, 3, 16, 17, 60}) {
            x.row(1, 1, size);
            for (int i = 0; i < size; i++) {
                x.put(1, i, i < 2 ? 10 + 10 * i : 7);
            }
            due("a row of " + size, x.judge(1), NOT);
            due("a row of " + size + ", warm", x.warm(1), 0);
            due("a row of " + size + ", which: 30 in all or none", x.which(1, 0), 1);
        }
        x.put(1, 1, 21);
        due("1 of two counts", x.judge(1), 1);
        x.mend(0, 6, 3);
        x.put(1, 1, 20);
        due("2 of three counts", x.judge(1), 2);
        x.put(1, 2, 30);
        due("3 of three is none", x.judge(1), NOT);
        x.mend(0, 6, 16);
        due("3 of sixteen", x.judge(1), 3);
        shorts(x, 1, 10, 20, 30, 0, 0, 0, 0, 0, 0, 0, 0, 0, 0, 0, 0, 1);
        due("15 of sixteen", x.judge(1), 15);
        shorts(x, 1, 10, 20, 30, 0, 0, 0, 0, 0, 0, 0, 0, 0, 0, 0, 0, 0, 1);
        due("16 of sixteen is none", x.judge(1), NOT);
    }

    private static void firstThatIsNotSo() {
        says("JUDGED: the first PLANK that is not so; NOT");
        IceOfApplause x = iced(10, 20, 30, 40);
        bytes(x, 0, 20);
        int[][] seen = {{10, 20, 30, 40}, {11, 20, 30, 40}, {10, 20, 31, 41}, {10, 20, 30, 39}, {9, 0, 0, 0}, {10, 21}};
        int[] first = {NOT, 0, 2, 3, 0, 1};
        for (int k = 0; k < seen.length; k++) {
            shorts(x, 1, seen[k]);
            due("seen " + k, x.judge(1), first[k]);
        }
        says("JUDGED: behind a PROGRAMME");
        x.mend(0, 7, 1);
        shorts(x, 1, 0, 5, 15, 25);
        due("thawed for 15 minutes", x.judge(1), NOT);
        bytes(x, 0);
        due("now", x.judge(1), 0);
    }

    private static void shortsAsTheyAre() {
        says("a ROW of shorts: what is put in keeps its lowest bits");
        IceOfApplause x = iced(0, 999);
        bytes(x, 0);
        shorts(x, 1, 65536, 999);
        due("65536 is 0", x.judge(1), NOT);
        shorts(x, 1, 0, 999 - 65536);
        due("999 less 65536 is 999", x.judge(1), NOT);
        shorts(x, 1, 0, -999);
        due("below 0 nothing is so", x.judge(1), 1);
        shorts(x, 1, 65535, 999);
        due("65535 is -1", x.judge(1), 0);
    }

    private static void onlyOnRowsOfShorts() {
        says("which, good, orders: BAD, -11, -12");
        for (int what = 0; what < 2; what++) {
            int half = what;
            dueOnlyOn("which", 1, (x, s) -> x.which(s, half));
            dueOnlyOn("good", 1, (x, s) -> x.good(s, 1, half));
            dueOnlyOn("orders", 1, (x, s) -> x.orders(s, half));
        }
        for (int wrong : new int[] {-1, 2, MIN, MAX}) {
            dueBad("which, what " + wrong, (x, s) -> x.which(s, wrong));
            dueBad("good, what " + wrong, (x, s) -> x.good(s, 0, wrong));
            dueBad("orders, what " + wrong, (x, s) -> x.orders(s, wrong));
        }
        for (int wrong : new int[] {-1, 2, 8, MIN, MAX}) {
            dueBad("good, turn " + wrong, (x, s) -> x.good(s, wrong, 0));
        }
    }

    private static void dueBad(String name, OnShelf call) {
        IceOfApplause x = small();
        x.row(1, 1, 1);
        x.row(2, 2, 1);
        due(name + " on nothing", call.of(x, 0), BAD);
        due(name + " on shorts", call.of(x, 1), BAD);
        due(name + " on ints", call.of(x, 2), BAD);
    }

    // ---- WHICH TURN, HOW GOOD

    private static void whichTurn() {
        says("WHICH TURN: how many TURNS, each alone, from now make all so; the first (NOT)");
        IceOfApplause x = iced(50, 50);
        for (int k = 1; k < 8; k++) {
            x.turn(k, 1);
        }
        for (int k = 0; k < 8; k++) {
            tell(x, "g=" + k + "?7;1");
            shorts(x, 2, 57, 57);
            due("turn " + k + " alone", x.which(2, 0), 1);
            due("it is " + k, x.which(2, 1), k);
            shorts(x, 2, 51);
            due("all but " + k, x.which(2, 0), 7);
            due("the first of them", x.which(2, 1), k == 0 ? 1 : 0);
            shorts(x, 2, 50);
            due("none", x.which(2, 0), 0);
            due("no first", x.which(2, 1), NOT);
            shorts(x, 2);
            due("no ice was seen: all", x.which(2, 0), 8);
            due("the first of all", x.which(2, 1), 0);
        }
        dueIce(x, 50, 50);
        due("nothing was played", x.led(0), 2);
        says("WHICH TURN: LASTS minutes pass then");
        x.mend(0, 7, 1);
        x.mend(3, 5, 5);
        shorts(x, 2, 46);
        due("turn 3 lasts longer", x.which(2, 1), 3);
    }

    private static void whichOfNone() {
        says("WHICH TURN: of no TURNS");
        IceOfApplause x = new IceOfApplause();
        shorts(x, 0);
        due("how many", x.which(0, 0), 0);
        due("the first", x.which(0, 1), NOT);
        due("good of none", x.good(0, 0, 0), BAD);
    }

    private static void howGood() {
        says("HOW GOOD: for how many GOOD (0 .. 9) of a TURN all is so behind it alone; the least (NOT)");
        IceOfApplause x = iced(50, 50);
        x.turn(4, 1);
        for (int g = 0; g <= 9; g++) {
            tell(x, "g=" + g + "?7;1");
            shorts(x, 0, 57, 57);
            due("GOOD " + g + " alone", x.good(0, 1, 0), 1);
            due("it is " + g, x.good(0, 1, 1), g);
            shorts(x, 0, 51, 51);
            due("all but " + g, x.good(0, 0, 0), 9);
            due("the least of them", x.good(0, 0, 1), g == 0 ? 1 : 0);
        }
        shorts(x, 0, 50);
        due("none", x.good(0, 1, 0), 0);
        due("no least", x.good(0, 1, 1), NOT);
        tell(x, "g=10?7;g=0-1?7;1");
        shorts(x, 0, 57);
        due("neither 10 nor -1", x.good(0, 1, 0), 0);
        shorts(x, 0);
        due("all ten", x.good(0, 1, 0), 10);
        due("0", x.good(0, 1, 1), 0);
        due("GOOD is as it was", x.of(1, 4), 4);
        due("GOOD is as it was", x.of(0, 4), 0);
        dueIce(x, 50, 50);
    }

    private static void howGoodNumbers() {
        says("HOW GOOD a TURN is: BAD");
        IceOfApplause x = small();
        shorts(x, 0);
        for (int turn : new int[] {-1, 2, 7, 8, MIN, MAX}) {
            due("turn " + turn, x.good(0, turn, 0), BAD);
        }
        due("turn 1", x.good(0, 1, 0), 10);
        for (int k = 2; k < 8; k++) {
            x.turn(1, 1);
        }
        due("turn 7", x.good(0, 7, 0), 10);
        due("turn 8", x.good(0, 8, 0), BAD);
    }

    // ---- ORDERS

    private static void ordersOfHowMany() {
        says("ORDERS: of all orders of all TURNS, each once, how many make all so; the first (NOT)");
        int[] all = {1, 1, 2, 6, 24, 120, 720};
        int[] first = {0, 0, 1, 12, 123, 1234, 12345};
        for (int many = 0; many <= 6; many++) {
            IceOfApplause x = turns(many, "1");
            shorts(x, 0, many, many);
            due("all orders of " + many, x.orders(0, 0), all[many]);
            due("the first of " + many, x.orders(0, 1), first[many]);
            shorts(x, 0, many, many + 1);
            due("none of " + many, x.orders(0, 0), 0);
            due("no first of " + many, x.orders(0, 1), NOT);
            shorts(x, 0);
            due("no ice was seen, " + many, x.orders(0, 0), all[many]);
        }
    }

    private static void ordersAsDigits() {
        says("ORDERS: the first (its TURNS as digits)");
        IceOfApplause x = turns(6, "i+g=5");
        shorts(x, 3, 6);
        due("the last alone", x.orders(3, 0), 1);
        due("5 4 3 2 1 0", x.orders(3, 1), 543210);
        tell(x, "i=0&g=3|i=1&g=5|i=2&g=0|i=3&g=4|i=4&g=2|i=5&g=1");
        due("one within", x.orders(3, 1), 350421);
        tell(x, "g=4&i>0?i;1");
        shorts(x, 3, 10);
        due("4 as the last", x.orders(3, 0), 120);
        due("the first of these", x.orders(3, 1), 12354);
        IceOfApplause y = iced(100, 100);
        y.turn(1, 1);
        y.turn(2, 1);
        tell(y, "g=1?i/2;g=2?10;0");
        shorts(y, 0, 165, 165);
        due("from now, three of six", y.orders(0, 0), 3);
        due("0 2 1", y.orders(0, 1), 21);
        shorts(y, 0, 160, 160);
        due("0 1 2", y.orders(0, 1), 12);
        dueIce(y, 100, 100);
    }

    private static void ordersState() {
        says("ORDERS: 6 at most, else STATE. BAD, -11, -12; STATE");
        for (int many = 6; many <= 8; many++) {
            IceOfApplause x = turns(many, "1");
            shorts(x, 0);
            bytes(x, 1);
            due("of " + many, x.orders(0, 0), many == 6 ? 720 : STATE);
            due("the first of " + many, x.orders(0, 1), many == 6 ? 12345 : STATE);
            due("BAD what of " + many, x.orders(0, 2), BAD);
            due("BAD shelf of " + many, x.orders(6, 0), BAD);
            due("nothing of " + many, x.orders(2, 0), NOTHING_THERE);
            due("bytes of " + many, x.orders(1, 0), ANOTHER_KIND);
        }
    }

    // ---- HOW WARM

    private static void howWarm() {
        says("HOW WARM: the least WARM by which all is so behind a PROGRAMME; NOT");
        IceOfApplause x = iced(200, 300);
        bytes(x, 0, 20);
        for (int w = 0; w <= 9; w++) {
            shorts(x, 1, 200 - 15 * w, 300 - 15 * w);
            due("WARM " + w, x.warm(1), w);
        }
        due("WARM is as it was", x.of(0, 7), 0);
        shorts(x, 1, 200 - 150);
        due("10 is none", x.warm(1), NOT);
        shorts(x, 1, 201);
        due("none", x.warm(1), NOT);
        bytes(x, 0, 20, 20);
        shorts(x, 1, 0);
        due("the least by which 200 are gone in 30 minutes", x.warm(1), 7);
        shorts(x, 1, 0, 300 - 30 * 8);
        due("200 gone, 60 there", x.warm(1), 8);
        x.mend(0, 7, 9);
        shorts(x, 1, 200);
        due("0, though it is 9 now", x.warm(1), 0);
        due("WARM is as it was", x.of(0, 7), 9);
    }

    private static void howWarmNone() {
        says("HOW WARM: behind a PROGRAMME of no bytes");
        IceOfApplause x = iced(5, 6);
        x.mend(0, 7, 4);
        bytes(x, 0);
        shorts(x, 1, 5, 6);
        due("any would do: 0", x.warm(1), 0);
        shorts(x, 1, 5, 5);
        due("none would", x.warm(1), NOT);
        shorts(x, 1);
        due("nothing was seen: 0", x.warm(1), 0);
    }

    // ---- DRAWN

    /** The draws once more, on planks that are all alike and thaw not below 0, where a turn gives five for each GOOD. */
    private static int plainly(int seed, int n, int m, int[] goods, int hisses, int now, int what) {
        int z = seed;
        int together = 0;
        int crossed = 0;
        for (int evening = 0; evening < n; evening++) {
            int ice = now;
            for (int k = 0; k < m; k++) {
                z = z * 1103515245 + 12345;
                ice = Math.max(0, ice - 2);
                if ((z >>> 16) % 12 >= hisses) {
                    ice = Math.min(999, ice + 5 * goods[(z >>> 8) % goods.length]);
                }
            }
            together += ice;
            crossed += ice >= 100 ? 1 : 0;
        }
        return what == 0 ? together : crossed;
    }

    private static IceOfApplause evenings(int... goods) {
        IceOfApplause x = new IceOfApplause();
        x.mend(0, 7, 2);
        x.hands(1, 0);
        for (int good : goods) {
            x.turn(good, 1);
        }
        tell(x, "g*5");
        return x;
    }

    private static void drawnNumbers() {
        says("n evenings (1 .. 30) of m TURNS (1 .. 20); nm: 100 n and m. BAD");
        IceOfApplause x = evenings(3);
        for (int nm : new int[] {0, 1, 20, 99, 100, 121, 150, 199, 200, 221, 3000, 3021, 3099, 3100, 3101, 3120, 9999,
            -1, -100, -101, -120, -3020, MIN, MAX}) {
            due("nm " + nm, x.drawn(1, nm, 0), BAD);
            due("nm " + nm, x.drawn(1, nm, 1), BAD);
        }
        for (int nm : new int[] {101, 120, 201, 220, 1508, 3001, 3020}) {
            due("nm " + nm, x.drawn(1, nm, 0), plainly(1, nm / 100, nm % 100, new int[] {3}, 0, 0, 0));
            due("nm " + nm, x.drawn(1, nm, 1), plainly(1, nm / 100, nm % 100, new int[] {3}, 0, 0, 1));
        }
        for (int what : new int[] {-1, 2, MIN, MAX}) {
            due("what " + what, x.drawn(1, 101, what), BAD);
        }
    }

    private static void drawnBySeeds() {
        says("z = z * 1103515245 + 12345 (an int; SEED at first) ahead of each: TURN (z >>> 8) % how many");
        IceOfApplause x = evenings(1, 9, 4);
        int[] goods = {1, 9, 4};
        for (int seed : new int[] {0, 1, -1, 2, 7, 12345, 999999, -12345, MIN, MAX, MIN + 1, MAX - 1, 1 << 30}) {
            for (int nm : new int[] {101, 102, 201, 420, 3020}) {
                for (int what = 0; what < 2; what++) {
                    due("by " + seed + ", " + nm + ", " + what, x.drawn(seed, nm, what),
                        plainly(seed, nm / 100, nm % 100, goods, 0, 0, what));
                }
            }
        }
    }

    private static void drawnOfManyTurns() {
        says("TURN (z >>> 8) % how many");
        int[] all = {9, 1, 8, 2, 7, 3, 6, 4};
        for (int many = 1; many <= 8; many++) {
            int[] goods = java.util.Arrays.copyOf(all, many);
            IceOfApplause x = evenings(goods);
            for (int seed = -3; seed < 4; seed++) {
                due(many + " turns by " + seed, x.drawn(seed, 305, 0), plainly(seed, 3, 5, goods, 0, 0, 0));
            }
        }
    }

    private static void drawnHisses() {
        says("it is hissed, if (z >>> 16) % 12 is below HISSES (0 .. 12; 0 at first): nobody claps then");
        int[] goods = {5, 9};
        IceOfApplause x = evenings(goods);
        due("HISSES at first", x.of(0, 9), 0);
        for (int hisses = 0; hisses <= 12; hisses++) {
            x.mend(0, 9, hisses);
            for (int seed = 0; seed < 5; seed++) {
                due("HISSES " + hisses + " by " + seed, x.drawn(seed, 1012, 0),
                    plainly(seed, 10, 12, goods, hisses, 0, 0));
            }
        }
        IceOfApplause y = iced(300, 300);
        y.mend(0, 7, 1);
        y.mend(0, 9, 12);
        due("all are hissed, but they last", y.drawn(1, 210, 0), 2 * 290);
        due("in deed nobody hisses", clapped(y), 299 + 50);
    }

    private static int clapped(IceOfApplause x) {
        tell(x, "50");
        return x.play(0);
    }

    private static void drawnNothing() {
        says("(no TURNS: nothing)");
        IceOfApplause x = new IceOfApplause();
        x.hands(99, 0);
        tell(x, "99");
        due("no ice", x.drawn(5, 3020, 0), 0);
        due("no crossing", x.drawn(5, 3020, 1), 0);
        due("BAD goes ahead", x.drawn(5, 3021, 0), BAD);
        due("BAD goes ahead", x.drawn(5, 3020, 2), BAD);
    }

    private static void drawnFromNow() {
        says("from now; how many evenings one of WEIGHT 100 can cross then");
        for (int ice = 99; ice <= 101; ice++) {
            IceOfApplause x = iced(ice, 500);
            due("all together from " + ice, x.drawn(1, 701, 0), 7 * ice);
            due("of 100 from " + ice, x.drawn(1, 701, 1), ice < 100 ? 0 : 7);
            dueIce(x, ice, 500);
            due("no TURNS in deed but those that laid it", x.led(0), (ice + 98) / 99 + 6);
        }
        IceOfApplause x = iced(999, 999);
        due("999 at most", x.drawn(1, 3001, 0), 30 * 999);
    }
}
