/** The edges that part 2 of the document's terms and promises 10 to 21 name, sentence by sentence. */
public final class EdgesThoughtTest extends Told {
    public static void main(String[] args) {
        onlyOnRowsOfBytes();
        badGoesAhead();
        weightAndPace();
        behindAProgramme();
        thinnestOfLikeOnes();
        crossingAtOnce();
        holdsIfAsMuch();
        fallsFirst();
        heaviest();
        waits();
        waitsForEver();
        firstTime();
        firstBehindAll();
        orderOfHowMany();
        orderOfLikeOnes();
        orderLastOfAll();
        orderFromNow();
        atPace0();
        fewestNoneToFive();
        fewestOfLikeOnes();
        fewestLastOfAll();
        fewestOfTurnsThatAre();
        fewestState();
        spare();
        spareOfTwenty();
        harmIsGreater();
        harmOfEachAlone();
        seatOfThoseThere();
        seatOfLikeOnes();
        encore();
        encoreVoid();
        claqueFromNoneTo99();
        claqueOfARow();
        C.end();
    }

    private static IceOfApplause onNothing(IceOfApplause x) {
        x.row(1, 0, 0);
        x.row(2, 1, 2);
        return x;
    }

    /** BAD on a shelf that holds nothing, on a row of bytes, on a row of shorts. */
    private static void dueBad(String name, OnShelf call) {
        IceOfApplause x = onNothing(small());
        due(name + " on nothing", call.of(x, 0), BAD);
        due(name + " on bytes", call.of(x, 1), BAD);
        due(name + " on shorts", call.of(x, 2), BAD);
    }

    private static void onlyOnRowsOfBytes() {
        says("a PROGRAMME on a SHELF; BAD, -11, -12 (no ROW of bytes)");
        dueOnlyOn("ice", 0, (x, s) -> x.ice(s, 0));
        dueOnlyOn("ice -1", 0, (x, s) -> x.ice(s, -1));
        dueOnlyOn("cross", 0, (x, s) -> x.cross(s, 0));
        dueOnlyOn("heaviest", 0, (x, s) -> x.heaviest(s, 0));
        dueOnlyOn("waits", 0, (x, s) -> x.waits(s, 0));
        dueOnlyOn("first", 0, (x, s) -> x.first(s, 0));
        dueOnlyOn("spare", 0, (x, s) -> x.spare(s, 0));
        dueOnlyOn("harm", 0, (x, s) -> x.harm(s));
        dueOnlyOn("seat", 0, (x, s) -> x.seat(s, 0, 0));
        dueOnlyOn("claque", 0, (x, s) -> x.claque(s, 0));
    }

    private static void badGoesAhead() {
        says("BAD, -11, -12: of several the one named first");
        for (int wrong : new int[] {-5, 2, 16, MIN, MAX}) {
            dueBad("ice of " + wrong, (x, s) -> x.ice(s, wrong));
        }
        for (int wrong : new int[] {-1, 10000, MIN, MAX}) {
            dueBad("cross of " + wrong, (x, s) -> x.cross(s, wrong));
            dueBad("waits of " + wrong, (x, s) -> x.waits(s, wrong));
            dueBad("first of " + wrong, (x, s) -> x.first(s, wrong));
        }
        for (int wrong : new int[] {-1, 10, MIN, MAX}) {
            dueBad("heaviest at " + wrong, (x, s) -> x.heaviest(s, wrong));
        }
        for (int wrong : new int[] {-1, 2, MIN, MAX}) {
            dueBad("spare, what " + wrong, (x, s) -> x.spare(s, wrong));
            dueBad("seat, what " + wrong, (x, s) -> x.seat(s, 0, wrong));
        }
        for (int wrong : new int[] {-1, 1, 6, MIN, MAX}) {
            dueBad("seat of row " + wrong, (x, s) -> x.seat(s, wrong, 0));
        }
        for (int wrong : new int[] {-1, -1000, 1000, 1999, 6000, MIN, MAX}) {
            dueBad("claque of " + wrong, (x, s) -> x.claque(s, wrong));
        }
    }

    private static void weightAndPace() {
        says("wp: 10 times the WEIGHT (0 .. 999), and PACE (0 .. 9)");
        dueWithin("cross", (x, wp) -> onNothing(x).cross(1, wp), 0, 9999, BAD);
        dueWithin("waits", (x, wp) -> onNothing(x).waits(1, wp), 0, 9999, BAD);
        dueWithin("first", (x, wp) -> onNothing(x).first(1, wp), 0, 9999, BAD);
        dueWithin("heaviest", (x, pace) -> onNothing(x).heaviest(1, pace), 0, 9, BAD);
        dueWithin("ice of a PLANK (of two)", (x, plank) -> onNothing(x).ice(1, plank), -4, 1, BAD);
        dueWithin("spare", (x, what) -> onNothing(x).spare(1, what), 0, 1, BAD);
        dueWithin("seat, what", (x, what) -> onNothing(x).seat(1, 0, what), 0, 1, BAD);
        dueWithin("seat, row", (x, row) -> onNothing(x).seat(1, row, 0), 0, 0, BAD);
        dueWithin("claque", (x, rw) -> onNothing(x).claque(1, rw), 0, 999, BAD);
    }

    private static void behindAProgramme() {
        says("how many bytes count (-1), minutes (-2), the THINNEST (-3), its ICE (-4)");
        IceOfApplause x = iced(50, 40);
        bytes(x, 3);
        due("no bytes", x.ice(3, -1), 0);
        due("no minutes", x.ice(3, -2), 0);
        due("thinnest now", x.ice(3, -3), 1);
        due("its ice", x.ice(3, -4), 40);
        due("ice of 0", x.ice(3, 0), 50);
        x.mend(0, 5, 60);
        x.mend(0, 8, 60);
        x.row(3, 0, 20);
        due("twenty hours less none", x.ice(3, -2), 1200);
        due("no thaw", x.ice(3, -4), 40);
        x.mend(0, 7, 9);
        due("all is gone, the least of like ones", x.ice(3, -3), 0);
        due("0", x.ice(3, -4), 0);
    }

    private static void thinnestOfLikeOnes() {
        says("the THINNEST PLANK (of like ones the least)");
        int[][] ices = {{5, 5, 5}, {5, 3, 3}, {3, 5, 3}, {5, 4, 3}, {0, 0, 1}, {1, 0, 0}};
        int[] thinnest = {0, 1, 0, 2, 0, 1};
        for (int k = 0; k < ices.length; k++) {
            IceOfApplause x = iced(ices[k]);
            x.row(0, 0, 0);
            due("thinnest of case " + k, x.ice(0, -3), thinnest[k]);
            due("its ice, case " + k, x.ice(0, -4), ices[k][thinnest[k]]);
        }
        says("THINNEST PLANK: of those that are there");
        IceOfApplause x = iced(5, 4, 3);
        x.mend(0, 6, 2);
        x.row(0, 0, 0);
        due("of two", x.ice(0, -3), 1);
        due("of two", x.heaviest(0, 0), 4);
    }

    // ---- CROSSING

    private static void crossingAtOnce() {
        says("steps on PLANK 0 at once, on each next one PACE minutes later (the ICE as it has thawed by then)");
        IceOfApplause x = iced(100, 50, 30);
        x.mend(0, 7, 1);
        bytes(x, 0);
        due("100 at pace 9: 0 holds at once, 1 has 41", x.cross(0, 1009), 1);
        due("41 at pace 9: 2 has 12", x.cross(0, 419), 2);
        due("12 at pace 9", x.cross(0, 129), NOT);
        due("13 at pace 9", x.cross(0, 139), 2);
        due("28 at pace 1", x.cross(0, 281), NOT);
        due("29 at pace 1", x.cross(0, 291), 2);
        x.mend(0, 7, 9);
        due("ICE is 0 at least: 0 holds", x.cross(0, 9), NOT);
        due("1 falls where it is gone", x.cross(0, 19), 1);
        due("14 at pace 2: 2 has thawed for 4 minutes", x.cross(0, 142), 2);
        due("no thaw in thought", x.of(2, 10), 30);
    }

    private static void holdsIfAsMuch() {
        says("holds on it, if ICE there is WEIGHT or more");
        IceOfApplause x = iced(100, 50, 999);
        bytes(x, 0);
        due("49", x.cross(0, 490), NOT);
        due("50", x.cross(0, 500), NOT);
        due("51", x.cross(0, 510), 1);
        x = iced(999, 999);
        bytes(x, 0);
        due("999 on 999", x.cross(0, 9999), NOT);
        due("999 is the heaviest", x.heaviest(0, 9), 999);
        x = iced(0, 0);
        bytes(x, 0);
        due("0 on 0", x.cross(0, 0), NOT);
        due("1 on 0", x.cross(0, 10), 0);
    }

    private static void fallsFirst() {
        says("on which PLANK it falls first (NOT: on none)");
        IceOfApplause x = iced(30, 20, 10, 40, 5);
        bytes(x, 0);
        int[] weights = {5, 6, 10, 11, 20, 21, 30, 31, 40, 999};
        int[] falls = {NOT, 4, 4, 2, 2, 1, 1, 0, 0, 0};
        for (int k = 0; k < weights.length; k++) {
            due("of " + weights[k], x.cross(0, 10 * weights[k]), falls[k]);
        }
    }

    private static void heaviest() {
        says("HEAVIEST: the greatest WEIGHT that crosses at a PACE");
        IceOfApplause x = iced(100, 50, 30);
        x.mend(0, 7, 1);
        bytes(x, 0);
        for (int pace = 0; pace <= 9; pace++) {
            int most = x.heaviest(0, pace);
            due("at pace " + pace, most, 30 - 2 * pace);
            due("it crosses", x.cross(0, 10 * most + pace), NOT);
            due("one heavier falls", x.cross(0, 10 * (most + 1) + pace), 2);
        }
        x.mend(0, 7, 9);
        due("0 at least", x.heaviest(0, 9), 0);
        due("0 at least", x.heaviest(0, 2), 0);
        due("30 less 18", x.heaviest(0, 1), 12);
        x = iced(10, 500);
        x.mend(0, 7, 1);
        bytes(x, 0);
        due("plank 0 does not thaw ahead", x.heaviest(0, 9), 10);
    }

    // ---- WAIT, FIRST

    private static void waits() {
        says("WAIT: for how many minutes at most; NOT: not even at once");
        IceOfApplause x = iced(100, 50, 30);
        x.mend(0, 7, 1);
        bytes(x, 0);
        due("31", x.waits(0, 310), NOT);
        due("30", x.waits(0, 300), 0);
        due("29", x.waits(0, 290), 1);
        due("1", x.waits(0, 10), 29);
        due("13 at pace 9", x.waits(0, 139), NOT);
        due("12 at pace 9", x.waits(0, 129), 0);
        due("11 at pace 9", x.waits(0, 119), 1);
        x.mend(0, 7, 3);
        due("1 by 3 a minute", x.waits(0, 10), 9);
        due("3 by 3 a minute", x.waits(0, 30), 9);
        due("4 by 3 a minute", x.waits(0, 40), 8);
        due("1 by 3 a minute, pace 2", x.waits(0, 12), 5);
        due("6 by 3 a minute, pace 4", x.waits(0, 64), 0);
        due("7 by 3 a minute, pace 4", x.waits(0, 74), NOT);
        bytes(x, 0, 20);
        due("behind an interval nothing is left there", x.waits(0, 10), NOT);
        x = iced(20, 400);
        x.mend(0, 7, 1);
        bytes(x, 0);
        due("plank 0 is waited for without pace", x.waits(0, 109), 10);
    }

    private static void waitsForEver() {
        says("(0 .. 999) ... (999: for ever, too)");
        IceOfApplause x = iced(999, 999);
        bytes(x, 0);
        due("no thaw", x.waits(0, 9999), 999);
        due("no thaw, 0", x.waits(0, 0), 999);
        x.mend(0, 7, 1);
        due("1: 999 less 998", x.waits(0, 10), 998);
        due("1 at pace 9", x.waits(0, 19), 989);
        due("0 by any thaw", x.waits(0, 0), 999);
        due("0 at pace 9", x.waits(0, 9), 999);
        x.mend(0, 7, 9);
        due("0 by 9 a minute", x.waits(0, 9), 999);
        x.salt(1);
        due("0 without ice", x.waits(0, 5), 999);
        x.mend(0, 7, 0);
        due("1 without ice, no thaw", x.waits(0, 10), NOT);
    }

    private static void firstTime() {
        says("FIRST: behind how many bytes of a PROGRAMME (0 on) one can cross for the first time; NOT");
        IceOfApplause x = iced(50, 50);
        x.mend(0, 7, 1);
        tell(x, "10");
        bytes(x, 4, 0, 0, 20, 0);
        due("50 at once", x.first(4, 500), 0);
        due("51 behind one", x.first(4, 510), 1);
        due("59 behind one", x.first(4, 590), 1);
        due("60 behind two, though not behind three", x.first(4, 600), 2);
        due("68", x.first(4, 680), 2);
        due("69", x.first(4, 690), NOT);
        due("50 at pace 9 wants 59", x.first(4, 509), 1);
        due("51 at pace 9 wants 60", x.first(4, 519), 2);
        bytes(x, 4, 20, 0);
        due("50 at once, though never again", x.first(4, 500), 0);
        due("51 never", x.first(4, 510), NOT);
    }

    private static void firstBehindAll() {
        says("FIRST: behind all bytes, too; a PROGRAMME of none");
        IceOfApplause x = iced(50, 50);
        tell(x, "10");
        bytes(x, 0);
        due("none: 50", x.first(0, 500), 0);
        due("none: 51", x.first(0, 510), NOT);
        bytes(x, 0, 0);
        due("one: 60", x.first(0, 600), 1);
        due("one: 61", x.first(0, 610), NOT);
        bytes(x, 0, 0, 9, 0);
        due("bytes behind its end do not count", x.first(0, 610), NOT);
        x.row(0, 0, 60);
        due("twenty: 250", x.first(0, 2500), 20);
        due("twenty: 251", x.first(0, 2510), NOT);
    }

    // ---- BEST ORDER

    private static void orderOfHowMany() {
        says("BEST ORDER: of all TURNS (6 at most, else STATE): that (k -1), the k-th. BAD; STATE; NOT");
        for (int many = 0; many <= 8; many++) {
            IceOfApplause x = turns(many, "1");
            boolean few = many <= 6;
            due("that of " + many, x.order(-1), few ? many : STATE);
            for (int k = 0; k < many; k++) {
                due("place " + k + " of " + many, x.order(k), few ? k : STATE);
            }
            due("behind the last of " + many, x.order(many), few ? NOT : STATE);
            due("MAX of " + many, x.order(MAX), few ? NOT : STATE);
            due("-2 of " + many, x.order(-2), BAD);
            due("MIN of " + many, x.order(MIN), BAD);
        }
    }

    private static void orderOfLikeOnes() {
        says("BEST ORDER: of like ones the first by numbers");
        IceOfApplause x = turns(4, "g=2&i=0?5;1");
        int[] best = {2, 0, 1, 3};
        due("that", x.order(-1), 8);
        for (int k = 0; k < 4; k++) {
            due("place " + k, x.order(k), best[k]);
        }
        tell(x, "0");
        due("none is better than no ice", x.order(-1), 0);
        for (int k = 0; k < 4; k++) {
            due("place " + k, x.order(k), k);
        }
    }

    private static void orderLastOfAll() {
        says("BEST ORDER: of all TURNS, each once");
        IceOfApplause x = turns(6, "i+g=5");
        due("the last of all orders alone gives six", x.order(-1), 6);
        for (int k = 0; k < 6; k++) {
            due("place " + k, x.order(k), 5 - k);
        }
        tell(x, "i=g");
        due("the first of all", x.order(-1), 6);
        for (int k = 0; k < 6; k++) {
            due("place " + k, x.order(k), k);
        }
        tell(x, "i=0&g=3|i=1&g=5|i=2&g=0|i=3&g=4|i=4&g=2|i=5&g=1");
        due("one within", x.order(-1), 6);
        int[] best = {3, 5, 0, 4, 2, 1};
        for (int k = 0; k < 6; k++) {
            due("place " + k, x.order(k), best[k]);
        }
    }

    private static void atPace0() {
        says("HEAVIEST (PACE 0); can cross at PACE 0");
        IceOfApplause x = iced(50, 50, 50);
        x.mend(0, 7, 9);
        tell(x, "9");
        bytes(x, 0, 0);
        due("order", x.order(-1), 50);
        due("fewest, none", x.fewest(50, -1), 0);
        due("fewest, never", x.fewest(51, -1), NOT);
        due("spare", x.spare(0, 1), 50);
        due("seat", x.seat(0, 0, 1), 50);
        due("encore", x.encore(0), 0);
        due("claque", x.claque(0, 50), 0);
        due("claque, never", x.claque(0, 51), NOT);
        due("drawn", x.drawn(1, 201, 0), 100);
        due("but at pace 1", x.heaviest(0, 1), 50 - 18);
        due("in deed", x.play(0), 50);
        tell(x, "h=0?9;50");
        due("claque by one more", x.claque(0, 91), 1);
        tell(x, "18");
        due("fewest, one", x.fewest(59, -1), 1);
        x.hands(1, 0);
        tell(x, "h=1?-1;18");
        due("harm by one less", x.harm(0), 2);
    }

    private static void orderFromNow() {
        says("BEST ORDER: from now, by which HEAVIEST (PACE 0) behind all is greatest");
        IceOfApplause x = iced(100, 100);
        x.turn(1, 1);
        x.turn(2, 1);
        tell(x, "g=1?i/2;g=2?10;0");
        due("10 first, then the half of 110", x.order(-1), 165);
        int[] best = {0, 2, 1};
        for (int k = 0; k < 3; k++) {
            due("place " + k, x.order(k), best[k]);
        }
        dueIce(x, 100, 100);
        x.salt(1);
        due("by the thinnest", x.order(-1), 15);
    }

    // ---- FEWEST

    private static void fewestNoneToFive() {
        says("FEWEST: the fewest TURNS (0 .. 5); NOT");
        IceOfApplause x = iced(60, 60);
        tell(x, "10");
        for (int many = 0; many <= 5; many++) {
            due("as much as " + many + " give", x.fewest(60 + 10 * many, -1), many);
            for (int k = 0; k < many; k++) {
                due("place " + k + " of " + many, x.fewest(60 + 10 * many, k), 0);
            }
            due("there are not as many as " + many, x.fewest(60 + 10 * many, many), NOT);
        }
        due("six would", x.fewest(111, -1), NOT);
        due("six would, the first", x.fewest(111, 0), NOT);
        due("999", x.fewest(999, -1), NOT);
        due("0", x.fewest(0, -1), 0);
        due("MAX", x.fewest(61, MAX), NOT);
        dueIce(x, 60, 60);
        says("FEWEST: BAD");
        due("weight -1", x.fewest(-1, -1), BAD);
        due("weight 1000", x.fewest(1000, -1), BAD);
        due("weight MIN", x.fewest(MIN, 0), BAD);
        due("weight MAX", x.fewest(MAX, 0), BAD);
        due("k -2", x.fewest(60, -2), BAD);
        due("k MIN", x.fewest(60, MIN), BAD);
    }

    private static void fewestOfLikeOnes() {
        says("FEWEST: each as often as one likes; of like ones the first by numbers");
        IceOfApplause x = turns(3, "g=0?10;g=1?20;15");
        int[][] best = {{}, {0}, {1}, {0, 1}, {1, 1}, {0, 1, 1}, {1, 1, 1}};
        int[] weights = {0, 10, 20, 30, 40, 50, 60};
        for (int w = 0; w < weights.length; w++) {
            due("for " + weights[w], x.fewest(weights[w], -1), best[w].length);
            for (int k = 0; k < best[w].length; k++) {
                due("for " + weights[w] + ", place " + k, x.fewest(weights[w], k), best[w][k]);
            }
        }
        due("one of 1 is too little", x.fewest(21, 0), 0);
        due("a shorter one behind a longer one", x.fewest(20, 0), 1);
        due("a lighter one behind a heavier one", x.fewest(10, 0), 0);
        x.order(-1);
        due("an order before changes nothing", x.fewest(15, 0), 1);
        due("for 35: 0 1 is too little", x.fewest(35, 0), 1);
        due("for 25: 0 1 goes ahead of 0 2", x.fewest(25, 1), 1);
    }

    private static void fewestLastOfAll() {
        says("FEWEST: of 5 TURNS, each as often as one likes");
        IceOfApplause x = turns(5, "g=4?10;0");
        due("five of the last", x.fewest(50, -1), 5);
        for (int k = 0; k < 5; k++) {
            due("place " + k, x.fewest(50, k), 4);
        }
        due("no more", x.fewest(51, -1), NOT);
        tell(x, "i+g=4");
        due("from the last down", x.fewest(5, -1), 5);
        for (int k = 0; k < 5; k++) {
            due("place " + k, x.fewest(5, k), 4 - k);
        }
        tell(x, "i=g");
        for (int k = 0; k < 5; k++) {
            due("place " + k, x.fewest(5, k), k);
        }
    }

    private static void fewestOfTurnsThatAre() {
        says("FEWEST: TURNS that are there");
        IceOfApplause x = new IceOfApplause();
        x.hands(1, 0);
        tell(x, "50");
        due("no TURNS", x.fewest(1, -1), NOT);
        due("no TURNS are wanted", x.fewest(0, -1), 0);
        x.turn(1, 1);
        x.turn(2, 1);
        tell(x, "g=0?99;0");
        due("none of GOOD 0", x.fewest(1, -1), NOT);
    }

    private static void fewestState() {
        says("FEWEST: 5 TURNS at most, else STATE. BAD; STATE; NOT");
        for (int many = 0; many <= 8; many++) {
            IceOfApplause x = turns(many, "1");
            due("0 by " + many, x.fewest(0, -1), many <= 5 ? 0 : STATE);
            due("999 by " + many, x.fewest(999, -1), many <= 5 ? NOT : STATE);
            due("k 9 by " + many, x.fewest(0, 9), many <= 5 ? NOT : STATE);
            due("weight 1000 by " + many, x.fewest(1000, -1), BAD);
            due("k -2 by " + many, x.fewest(0, -2), BAD);
        }
    }

    // ---- SPARE

    private static void spare() {
        says("SPARE: which byte, left out, leaves HEAVIEST greatest (of like ones the first): its place; that then");
        IceOfApplause x = iced(60, 60);
        x.mend(0, 7, 1);
        x.turn(1, 1);
        tell(x, "g=1?10;0");
        bytes(x, 0, 20);
        due("the only one", x.spare(0, 0), 0);
        due("as now", x.spare(0, 1), 60);
        bytes(x, 0, 1, 20, 20, 1);
        due("the first of two intervals", x.spare(0, 0), 1);
        due("60 and 9 and 9 less 15", x.spare(0, 1), 63);
        bytes(x, 0, 1, 1, 0);
        due("the last", x.spare(0, 0), 2);
        due("60 and 9 and 9", x.spare(0, 1), 78);
        x.mend(0, 7, 9);
        bytes(x, 0, 20, 20, 20);
        due("no ice whichever: the first", x.spare(0, 0), 0);
        due("0", x.spare(0, 1), 0);
        says("SPARE: NOT: nothing counts");
        bytes(x, 0);
        due("no bytes, its place", x.spare(0, 0), NOT);
        due("no bytes, that", x.spare(0, 1), NOT);
        bytes(x, 0, 7, 1);
        due("none that counts, its place", x.spare(0, 0), NOT);
        due("none that counts, that", x.spare(0, 1), NOT);
    }

    private static void spareOfTwenty() {
        says("SPARE: of the bytes that count");
        IceOfApplause x = iced(60, 60);
        x.mend(0, 7, 1);
        x.turn(1, 1);
        tell(x, "g=1?10;0");
        bytes(x, 0, 1, 1, 9, 20);
        due("not those behind the end", x.spare(0, 0), 0);
        due("60 and 9", x.spare(0, 1), 69);
        bytes(x, 0, 1, 1, 1, 1, 1, 1, 1, 1, 1, 1, 1, 1, 1, 1, 1, 1, 1, 1, 1, 20);
        due("the twentieth", x.spare(0, 0), 19);
        due("60 and 19 times 9", x.spare(0, 1), 231);
        bytes(x, 0, 1, 1, 1, 1, 1, 1, 1, 1, 1, 1, 1, 1, 1, 1, 1, 1, 1, 1, 1, 1, 20);
        due("not the twenty-first", x.spare(0, 0), 0);
    }

    // ---- HARM, SEAT

    private static void harmIsGreater() {
        says("HARM: which ROWS OF HANDS (bits), left out, make HEAVIEST behind a PROGRAMME greater");
        IceOfApplause x = iced(100, 100);
        for (int k = 1; k < 6; k++) {
            x.hands(k, 0);
        }
        bytes(x, 0, 0);
        tell(x, "-5");
        due("all six", x.harm(0), 63);
        tell(x, "0");
        due("as much is not greater", x.harm(0), 0);
        tell(x, "5");
        due("none", x.harm(0), 0);
        for (int row = 0; row < 6; row++) {
            tell(x, "h=" + row + "?-1;0");
            due("row " + row, x.harm(0), 1 << row);
        }
        bytes(x, 0, 20);
        due("nobody claps", x.harm(0), 0);
        bytes(x, 0);
        due("nothing counts", x.harm(0), 0);
        IceOfApplause y = new IceOfApplause();
        y.turn(1, 1);
        bytes(y, 0, 0);
        due("no ROWS OF HANDS", y.harm(0), 0);
    }

    private static void harmOfEachAlone() {
        says("HARM: left out, each alone");
        IceOfApplause x = iced(100, 100);
        x.hands(1, 0);
        bytes(x, 0, 0);
        tell(x, "-99");
        due("100 less 99 is more than none", x.harm(0), 3);
        x.hands(2, 0);
        due("less 99 twice is none still", x.harm(0), 0);
        tell(x, "h=2?-99;10");
        due("the third alone", x.harm(0), 4);
        due("its hands are there still", x.play(0), 21);
    }

    private static void seatOfThoseThere() {
        says("SEAT: OVER which PLANK (of those there)");
        IceOfApplause x = iced(0, 0);
        tell(x, "d>0&d<3?50;0");
        bytes(x, 0, 0);
        due("over 2 it would be 50, but it is not there", x.seat(0, 0, 1), 0);
        due("the least", x.seat(0, 0, 0), 0);
        x.mend(0, 1, 15);
        due("though it is over 15 now", x.seat(0, 0, 0), 0);
        due("it stays there", x.of(0, 1), 15);
        x = iced(50, 50, 50, 50, 50, 50, 50, 50, 50, 50, 50, 50, 50, 50, 50, 0);
        tell(x, "d=0?60;0");
        bytes(x, 0, 0);
        due("the last of 16", x.seat(0, 0, 0), 15);
        due("50 then", x.seat(0, 0, 1), 50);
        x.hands(1, 15);
        tell(x, "d=0?20;0");
        due("row 0 too", x.seat(0, 0, 1), 40);
        due("row 1 over the last", x.seat(0, 1, 0), 15);
        due("row 1: row 0 is over 0", x.seat(0, 1, 1), 20);
        due("no row 2", x.seat(0, 2, 0), BAD);
    }

    private static void seatOfLikeOnes() {
        says("SEAT: of like ones the least, so that it is greatest");
        IceOfApplause x = new IceOfApplause();
        x.mend(0, 6, 16);
        x.hands(1, 0);
        x.turn(0, 1);
        tell(x, "20-d");
        bytes(x, 0, 0);
        due("7, 8 are like", x.seat(0, 0, 0), 7);
        due("20 less 8", x.seat(0, 0, 1), 12);
        tell(x, "d");
        due("over all some plank is none away", x.seat(0, 0, 0), 0);
        due("0", x.seat(0, 0, 1), 0);
        bytes(x, 0);
        due("nothing counts: the least", x.seat(0, 0, 0), 0);
        says("SEAT: of a ROW OF HANDS");
        IceOfApplause y = iced(100, 100, 60);
        y.hands(1, 1);
        tell(y, "d=0?50;0");
        bytes(y, 0, 0);
        due("row 0 over the thinnest", y.seat(0, 0, 0), 2);
        due("row 0: 100", y.seat(0, 0, 1), 100);
        due("row 1 over the thinnest", y.seat(0, 1, 0), 2);
        due("row 1: 100", y.seat(0, 1, 1), 100);
    }

    // ---- ENCORE, CLAQUE

    private static void encore() {
        says("ENCORE: the last byte that is a TURN once more at the end (below 0, too; 0: there is none)");
        IceOfApplause x = iced(100, 100);
        x.turn(3, 1);
        tell(x, "g=3?-7;5");
        int[][] programmes = {{}, {20}, {20, 20}, {2}, {9, 0}, {0}, {1}, {0, 1}, {1, 0}, {1, 20, 0, 20}, {0, 1, 20, 20},
            {0, 1, 9, 0}, {20, 0}};
        int[] more = {0, 0, 0, 0, 0, 5, -7, -7, 5, 5, -7, -7, 5};
        for (int k = 0; k < programmes.length; k++) {
            bytes(x, 0, programmes[k]);
            due("programme " + k, x.encore(0), more[k]);
        }
        tell(x, "0");
        bytes(x, 0, 0);
        due("no more", x.encore(0), 0);
        tell(x, "-99");
        due("not below no ice", x.encore(0), -1);
        x.mend(0, 7, 9);
        tell(x, "5");
        x.mend(0, 5, 60);
        due("thawed as it lasts", x.encore(0), 0);
    }

    private static void encoreVoid() {
        says("ENCORE: VOID: BAD, no ROW of bytes");
        IceOfApplause x = small();
        x.body(0);
        for (int shelf : new int[] {-1, 6, MIN, MAX, 0, 1, 2, 3, 4, 5}) {
            due("shelf " + shelf, x.encore(shelf), VOID);
        }
        for (int sort = 1; sort < 5; sort++) {
            x.row(sort, sort, 1);
            due("a row of sort " + sort, x.encore(sort), VOID);
        }
        x.keep(5, 0);
        due("a body", x.encore(5), VOID);
        x.row(5, 0, 1);
        due("a row of bytes", x.encore(5), 19);
    }

    private static void claqueFromNoneTo99() {
        says("CLAQUE: the fewest HANDS (0 .. 99) more of a ROW OF HANDS (99 at most in all); NOT");
        IceOfApplause x = iced(0, 0);
        tell(x, "h");
        bytes(x, 0, 0);
        due("0 by none", x.claque(0, 0), 0);
        due("1 by one", x.claque(0, 1), 1);
        due("99 by all", x.claque(0, 99), 99);
        due("100", x.claque(0, 100), NOT);
        due("999", x.claque(0, 999), NOT);
        x.mend(0, 0, 50);
        due("50 by none more", x.claque(0, 50), 0);
        due("51 by one more", x.claque(0, 51), 1);
        due("99 by 49 more", x.claque(0, 99), 49);
        due("100", x.claque(0, 100), NOT);
        x.mend(0, 0, 99);
        due("99 by none more", x.claque(0, 99), 0);
        due("100: there are 99", x.claque(0, 100), NOT);
        due("its hands are as they were", x.of(0, 0), 99);
        bytes(x, 0);
        due("nothing counts: 0", x.claque(0, 0), 0);
        due("nothing counts: 1", x.claque(0, 1), NOT);
    }

    private static void claqueOfARow() {
        says("CLAQUE (rw: 1000 times the ROW OF HANDS, and the WEIGHT)");
        IceOfApplause x = iced(900, 900);
        for (int k = 1; k < 6; k++) {
            x.hands(10 * k, 0);
        }
        tell(x, "h=0|h%10>0?h;0");
        bytes(x, 0, 0);
        due("900 now", x.claque(0, 900), 0);
        due("row 0: 909 by 9 hands", x.claque(0, 909), 9);
        due("row 1, weight 0", x.claque(0, 1000), 0);
        due("row 1: 911 by 11 hands", x.claque(0, 1911), 1);
        due("row 2: 921 by 21 hands", x.claque(0, 2921), 1);
        due("row 4: 999 by 99 hands", x.claque(0, 4999), 59);
        due("row 5: 951 by 51 hands", x.claque(0, 5951), 1);
        due("row 5: 905 by 51 hands, too", x.claque(0, 5905), 1);
        due("row 5, weight 900", x.claque(0, 5900), 0);
        due("no row 6", x.claque(0, 6000), BAD);
        IceOfApplause y = iced(0, 0);
        y.hands(10, 0);
        y.hands(20, 0);
        bytes(y, 0, 0);
        tell(y, "h=22?1;0");
        due("row 0: 22 hands", y.claque(0, 1), 22);
        due("row 1: 12 hands more", y.claque(0, 1001), 12);
        due("row 2: 2 hands more", y.claque(0, 2001), 2);
        for (int k = 1; k < 6; k++) {
            due("HANDS of " + k, x.of(k, 0), 10 * k);
        }
        IceOfApplause z = iced(999, 999);
        bytes(z, 0, 0);
        due("999 on 999", z.claque(0, 999), 0);
    }
}
