/** Each promise of the document by hand: ordinary numbers, the edges it names, and wrong numbers. */
public final class PromisesTest extends Told {
    public static void main(String[] args) {
        newObject();
        hands();
        rows();
        turn();
        mendAndOf();
        feed();
        law();
        lawFaults();
        gives();
        ice();
        cross();
        heaviest();
        waits();
        first();
        order();
        fewest();
        spare();
        harm();
        seat();
        encore();
        claque();
        judge();
        which();
        good();
        orders();
        warm();
        drawn();
        play();
        interval();
        goes();
        salt();
        led();
        imageAndBack();
        undoAndRedo();
        body();
        act();
        trace();
        keep();
        row();
        putAndElement();
        shift();
        taken();
        count();
        C.end();
    }

    // ---- helpers

    private static void fault(String text, int place) {
        C.due("law " + text, tell(new IceOfApplause(), text), -100 - place);
    }

    // ---- the promises

    private static void newObject() {
        C.promise(1, "A new object");
        IceOfApplause x = new IceOfApplause();
        C.due("LONG", x.of(0, 6), 8);
        C.due("WARM", x.of(0, 7), 1);
        C.due("REST", x.of(0, 8), 15);
        C.due("HISSES", x.of(0, 9), 0);
        for (int p = 0; p < 16; p++) {
            C.due("of(" + p + ", 10)", x.of(p, 10), 0);
        }
        for (int what = 0; what <= 5; what++) {
            C.due("count(" + what + ")", x.count(what), 0);
        }
        for (int what = 0; what <= 4; what++) {
            C.due("led(" + what + ")", x.led(what), 0);
        }
        for (int s = 0; s < 6; s++) {
            C.due("taken(" + s + ", 0)", x.taken(s, 0), -11);
        }
        C.due("BAD", IceOfApplause.BAD, -1);
        C.due("NOT", IceOfApplause.NOT, -2);
        C.due("FULL", IceOfApplause.FULL, -3);
        C.due("STATE", IceOfApplause.STATE, -5);
        C.due("VOID", IceOfApplause.VOID, -2000000000);
    }

    private static void hands() {
        C.promise(2, "hands");
        IceOfApplause x = new IceOfApplause();
        C.due("hands(-1, 0)", x.hands(-1, 0), -1);
        C.due("hands(100, 0)", x.hands(100, 0), -1);
        C.due("hands(0, -1)", x.hands(0, -1), -1);
        C.due("hands(0, 16)", x.hands(0, 16), -1);
        C.due("hands(MAX, MIN)", x.hands(MAX, MIN), -1);
        C.due("none came", x.count(0), 0);
        C.due("hands(99, 15)", x.hands(99, 15), 0);
        C.due("HANDS", x.of(0, 0), 99);
        C.due("OVER", x.of(0, 1), 15);
        C.due("TASTE", x.of(0, 2), 5);
        C.due("ENVY", x.of(0, 3), 0);
        for (int k = 1; k < 6; k++) {
            C.due("hands(0, 0)", x.hands(0, 0), k);
        }
        C.due("a seventh", x.hands(0, 0), -3);
        C.due("BAD goes ahead of FULL", x.hands(100, 0), -1);
        C.due("six", x.count(0), 6);
    }

    private static void rows() {
        C.promise(3, "rows");
        IceOfApplause x = new IceOfApplause();
        C.due("missing", x.rows(0, 0, 1), 0);
        C.due("no shelf", x.rows(6, 0, 1), -1);
        C.due("no shelf below 0", x.rows(-1, 0, 1), -1);
        C.due("n 0", x.rows(0, 0, 0), -1);
        C.due("n 7", x.rows(0, 0, 7), -1);
        x.row(0, 2, 9);
        C.due("a row of ints", x.rows(0, 0, 1), -12);
        C.due("a row of ints, i below 0", x.rows(0, -1, 1), -12);
        x.body(0);
        x.keep(0, 0);
        C.due("a body", x.rows(0, 0, 1), -12);
        bytes(x, 0, 10, 1, 2, 20, 15, 9, 30, 3, 4, 40, 5);
        C.due("i below 0", x.rows(0, -1, 1), 0);
        C.due("i MIN", x.rows(0, MIN, 6), 0);
        C.due("i MAX", x.rows(0, MAX, 6), 0);
        C.due("i at the end", x.rows(0, 11, 1), 0);
        C.due("ends within a three", x.rows(0, 9, 1), 0);
        C.due("two of three", x.rows(0, 0, 2), 2);
        C.due("the rest, as far as it goes", x.rows(0, 6, 6), 1);
        C.due("HANDS", x.of(2, 0), 30);
        C.due("OVER", x.of(1, 1), 15);
        C.due("ENVY", x.of(1, 3), 9);
        C.due("TASTE", x.of(1, 2), 5);
        bytes(x, 1, 1, 1, 1, 100, 1, 1, 1, 1, 1);
        C.due("HANDS not as it may be", x.rows(1, 0, 3), 1);
        bytes(x, 1, 1, 16, 1);
        C.due("OVER not as it may be", x.rows(1, 0, 1), 0);
        bytes(x, 1, 1, 1, 10);
        C.due("ENVY not as it may be", x.rows(1, 0, 1), 0);
        bytes(x, 1, -1, 1, 1);
        C.due("HANDS below 0", x.rows(1, 0, 1), 0);
        x.row(1, 0, 60);
        C.due("until FULL", x.rows(1, 0, 6), 2);
        C.due("FULL", x.rows(1, 0, 6), 0);
        C.due("BAD goes ahead of all", x.rows(7, -1, 9), -1);
        C.due("no change can be undone", x.count(3), 0);
    }

    private static void turn() {
        C.promise(4, "turn");
        IceOfApplause x = new IceOfApplause();
        C.due("GOOD -1", x.turn(-1, 1), -1);
        C.due("GOOD 10", x.turn(10, 1), -1);
        C.due("LASTS 0", x.turn(0, 0), -1);
        C.due("LASTS 61", x.turn(0, 61), -1);
        C.due("wild", x.turn(MIN, MAX), -1);
        C.due("turn(9, 60)", x.turn(9, 60), 0);
        C.due("GOOD", x.of(0, 4), 9);
        C.due("LASTS", x.of(0, 5), 60);
        for (int k = 1; k < 8; k++) {
            C.due("turn(0, 1)", x.turn(0, 1), k);
        }
        C.due("a ninth", x.turn(0, 1), -3);
        C.due("BAD goes ahead of FULL", x.turn(0, 0), -1);
        C.due("eight", x.count(1), 8);
    }

    private static void mendAndOf() {
        C.promise(5, "mend");
        int[] least = {0, 0, 0, 0, 0, 1, 2, 0, 1, 0};
        int[] most = {99, 15, 9, 9, 9, 60, 16, 9, 60, 12};
        int[] start = {50, 3, 5, 0, 7, 30, 8, 1, 15, 0};
        IceOfApplause x = new IceOfApplause();
        for (int what = 0; what < 6; what++) {
            C.due("nothing there " + what, x.mend(0, what, 1), -1);
            C.due("nothing there " + what, x.of(0, what), -1);
        }
        x.hands(50, 3);
        x.turn(7, 30);
        for (int what = 0; what < 10; what++) {
            C.due("of first " + what, x.of(0, what), start[what]);
            C.due("below " + what, x.mend(0, what, least[what] - 1), -1);
            C.due("above " + what, x.mend(0, what, most[what] + 1), -1);
            C.due("number 1, " + what, x.mend(1, what, least[what]), -1);
            C.due("number -1, " + what, x.mend(-1, what, least[what]), -1);
            C.due("of number 1, " + what, x.of(1, what), -1);
            C.due("of number -1, " + what, x.of(-1, what), -1);
            C.due("still " + what, x.of(0, what), start[what]);
            C.due("least " + what, x.mend(0, what, least[what]), start[what]);
            C.due("most " + what, x.mend(0, what, most[what]), least[what]);
            C.due("of " + what, x.of(0, what), most[what]);
        }
        C.due("what -1", x.mend(0, -1, 1), -1);
        C.due("what 10", x.mend(0, 10, 1), -1);
        C.due("what MIN", x.mend(0, MIN, 1), -1);
        x.hands(1, 1);
        C.due("the second row's own", x.mend(1, 0, 2), 1);
        C.due("not the first row's", x.of(0, 0), 99);

        C.promise(6, "of");
        C.due("what 11", x.of(0, 11), -1);
        C.due("what -1", x.of(0, -1), -1);
        C.due("plank -1", x.of(-1, 10), -1);
        C.due("plank 16", x.of(16, 10), -1);
        C.due("plank 15", x.of(15, 10), 0);
        IceOfApplause y = small();
        y.play(0);
        C.due("ICE in deed", y.of(0, 10), 40);
        C.due("ICE of the next", y.of(1, 10), 20);
        C.due("a plank beyond", y.of(2, 10), 0);
    }

    private static void feed() {
        C.promise(7, "feed");
        IceOfApplause x = new IceOfApplause();
        C.due("feed(-1)", x.feed(-1), -1);
        C.due("feed(256)", x.feed(256), -1);
        for (int k = 1; k <= 120; k++) {
            C.due("feed " + k, x.feed(k == 1 ? 0 : 255), k);
        }
        C.due("a byte more", x.feed(1), -3);
        C.due("BAD goes ahead of FULL", x.feed(256), -1);
        C.due("on the tape", x.count(2), 120);
        C.due("a 0 begins no text", x.law(), -100);
        C.due("empty then", x.count(2), 0);
        C.due("a new tape", x.feed(103), 1);
    }

    private static void law() {
        C.promise(8, "law");
        C.due("a number", worth("0042"), 42);
        C.due("held above", worth("9999"), 99);
        C.due("held below", worth("-9999"), -99);
        C.due("g", worth("g"), 6);
        C.due("h", worth("h"), 7);
        C.due("t", worth("t"), 3);
        C.due("e", worth("e"), 2);
        C.due("d", worth("d"), 4);
        C.due("i", worth("i"), 0);
        C.due("times ahead of plus", worth("1+2*3"), 7);
        C.due("from the left", worth("20-5-3"), 12);
        C.due("from the left", worth("40/4*2%7"), 6);
        C.due("( )", worth("(1+2)*3"), 9);
        C.due("cut toward 0", worth("-7/2"), -3);
        C.due("rest toward 0", worth("-7%4"), -3);
        C.due("by 0", worth("7/0+1"), 1);
        C.due("rest by 0", worth("7%0+1"), 1);
        C.due("less", worth("2<3"), 1);
        C.due("not less", worth("3<3"), 0);
        C.due("like", worth("3=3"), 1);
        C.due("not like", worth("3=4"), 0);
        C.due("more", worth("4>3"), 1);
        C.due("not more", worth("3>3"), 0);
        C.due("plus ahead of less", worth("1+1<1+2"), 1);
        C.due("or gives 1", worth("0|5"), 1);
        C.due("or gives 0", worth("0|0"), 0);
        C.due("and gives 1", worth("4&2"), 1);
        C.due("and gives 0", worth("4&0"), 0);
        C.due("and ahead of or", worth("1|0&0"), 1);
        C.due("less ahead of and", worth("3&2<1"), 0);
        C.due("not", worth("!0"), 1);
        C.due("not not", worth("!!7"), 1);
        C.due("not is tight", worth("!0+1"), 2);
        C.due("minus minus", worth("--5"), 5);
        C.due("a minus behind a minus", worth("3--5"), 8);
        C.due("a minus behind times", worth("3*-5"), -15);
        C.due("wraps", worth("9999*9999*9999*9999%97"), 9999 * 9999 * 9999 * 9999 % 97);
        C.due("first line that counts", worth("0?1;g=6?2;3"), 2);
        C.due("a line without a first E", worth("0?1;4;5"), 4);
        C.due("none counts", worth("0?1;0?2"), 0);
        C.due("first E below 0 counts", worth("-1?8;9"), 8);
        C.due("six open", worth("((((((5))))))"), 5);
        C.due("six open", worth("------5"), 5);
        C.due("six open of three sorts", worth("(!-(!-5))"), 1);
        C.due("closed ones are not open", worth("(1)+(2)+(3)+(4)+(5)+(6)+(7)"), 28);
        C.due("closed ones are not open", worth("-1-1-1-1-1-1-1-1-1"), -9);

        IceOfApplause x = small();
        C.due("without a text", x.gives(0, 0), 40);
        C.due("a fault", tell(x, "7;"), -102);
        C.due("the law is as it was", x.gives(0, 0), 40);
        C.due("the tape is empty", x.count(2), 0);
        C.due("empty text", x.law(), -100);
        C.due("a law", tell(x, "7"), 1);
        C.due("gives by it", x.gives(0, 0), 7);
        C.due("a fault again", tell(x, "8+"), -102);
        C.due("the law is as it was", x.gives(0, 0), 7);
        C.due("another law", tell(x, "i+1"), 1);
        C.due("the tape is empty", x.count(2), 0);
        C.due("by the ice", x.play(0), 1);
        C.due("by the ice", x.gives(0, 0), 2);
        C.due("thawed by 1 first", x.play(0), 1);
        C.due("no change that can be undone but LONG", x.count(3), 1);
    }

    private static void lawFaults() {
        C.promise(8, "law: FAULT");
        fault("", 0);
        fault("x", 0);
        fault("1 ", 1);
        fault("+1", 0);
        fault("1+", 2);
        fault("1+*2", 2);
        fault("1*+2", 2);
        fault("1||2", 2);
        fault("1&", 2);
        fault("12345", 4);
        fault("1234g", 4);
        fault("gh", 1);
        fault("g(", 1);
        fault("1<2<3", 3);
        fault("1=2>3", 3);
        fault("1?2?3", 3);
        fault("?1", 0);
        fault("1?", 2);
        fault("1?;", 2);
        fault("1;", 2);
        fault(";1", 0);
        fault("1;;2", 2);
        fault("(1", 2);
        fault("()", 1);
        fault("(1?2)", 2);
        fault("(1;2)", 2);
        fault("1)", 1);
        fault("(1))", 3);
        fault("!", 1);
        fault("-", 1);
        fault("1!", 1);
        fault("1!=2", 1);
        fault("(((((((1)))))))", 6);
        fault("-------1", 6);
        fault("!(!(!(!1)))", 6);
        fault("!(!(!(1))))", 10);
        fault("(!-(!-(1))))", 6);
        fault("((((((-1))))))", 6);
        fault("((((((1-1))))-", 14);
        fault("((((((1--1))))", 8);
        fault("a", 0);
        IceOfApplause x = new IceOfApplause();
        for (int k = 0; k < 60; k++) {
            x.feed('1');
            x.feed(k < 59 ? ';' : '+');
        }
        C.due("120 bytes that end too early", x.law(), -220);
        for (int k = 0; k < 60; k++) {
            x.feed('1');
            x.feed(k < 59 ? '?' : '0');
        }
        C.due("a second ?", x.law(), -103);
        for (int k = 0; k < 60; k++) {
            x.feed('1');
            x.feed(k < 59 ? ';' : '0');
        }
        C.due("sixty lines", x.law(), 1);
        for (int k = 0; k < 119; k++) {
            x.feed('-');
        }
        x.feed('1');
        C.due("a hundred open", x.law(), -106);
    }

    private static void gives() {
        C.promise(9, "gives");
        IceOfApplause x = new IceOfApplause();
        C.due("nobody", x.gives(0, 0), -2000000000);
        x.hands(99, 2);
        C.due("no turn", x.gives(0, 0), -2000000000);
        x.turn(9, 1);
        x.turn(3, 1);
        x.hands(50, 15);
        C.due("held within 99", x.gives(0, 2), 99);
        C.due("d 1: 891 by 2, by 4", x.gives(0, 1), 99);
        C.due("d 5: 891 by 6, by 4", x.gives(0, 7), 37);
        C.due("turn 1: 297 by 3, by 4", x.gives(1, 0), 24);
        C.due("row 1 from beyond: 150 by 9, by 4", x.gives(11, 7), 4);
        x.mend(1, 3, 9);
        C.due("envy: -300 by 9, by 4, cut toward 0 each time", x.gives(11, 7), -8);
        x.mend(0, 3, 9);
        x.mend(0, 4, 0);
        C.due("held within -99", x.gives(0, 2), -99);
        C.due("plank -1", x.gives(0, -1), -2000000000);
        C.due("plank 8", x.gives(0, 8), -2000000000);
        C.due("turn 2", x.gives(2, 0), -2000000000);
        C.due("turn 9", x.gives(9, 0), -2000000000);
        C.due("row 2", x.gives(20, 0), -2000000000);
        C.due("ht -1", x.gives(-1, 0), -2000000000);
        C.due("ht MIN", x.gives(MIN, MIN), -2000000000);
        C.due("ht MAX", x.gives(MAX, 0), -2000000000);
        C.due("nothing clapped", x.of(2, 10), 0);
    }

    /** The refusals that all calls with a programme share; name tells the call. */
    private interface Asked {
        int of(IceOfApplause x, int shelf);
    }

    private static void refusals(String name, Asked asked) {
        IceOfApplause x = small();
        x.row(1, 1, 2);
        x.body(0);
        x.keep(2, 0);
        x.row(3, 4, 2);
        C.due(name + " on shelf -1", asked.of(x, -1), -1);
        C.due(name + " on shelf 6", asked.of(x, 6), -1);
        C.due(name + " on nothing", asked.of(x, 0), -11);
        C.due(name + " on shorts", asked.of(x, 1), -12);
        C.due(name + " on a body", asked.of(x, 2), -12);
        C.due(name + " on booleans", asked.of(x, 3), -12);
    }

    private static void ice() {
        C.promise(10, "ice");
        refusals("ice", (x, s) -> x.ice(s, 0));
        IceOfApplause x = small();
        C.due("BAD goes ahead of -11", x.ice(0, 2), -1);
        bytes(x, 0, 0, 20, 1);
        // 40 20, an interval: 25 5, five minutes: 20 0, turn 1 (20 and 10 more): 40 10.
        C.due("plank 0", x.ice(0, 0), 40);
        C.due("plank 1", x.ice(0, 1), 10);
        C.due("plank 2 is not there", x.ice(0, 2), -1);
        C.due("plank MAX", x.ice(0, MAX), -1);
        C.due("bytes", x.ice(0, -1), 3);
        C.due("minutes", x.ice(0, -2), 21);
        C.due("thinnest", x.ice(0, -3), 1);
        C.due("its ice", x.ice(0, -4), 10);
        C.due("-5", x.ice(0, -5), -1);
        C.due("MIN", x.ice(0, MIN), -1);
        bytes(x, 0, 0, 2, 0);
        C.due("a turn that is none ends it", x.ice(0, -1), 1);
        bytes(x, 0, 0, -1, 0);
        C.due("-1 ends it", x.ice(0, -1), 1);
        bytes(x, 0, 0, 0, 19, 0);
        C.due("19 ends it", x.ice(0, -1), 2);
        bytes(x, 0);
        C.due("nothing: thinnest, the least of like ones", x.ice(0, -3), 0);
        x.row(0, 0, 60);
        C.due("20 bytes at most", x.ice(0, -1), 20);
        C.due("20 minutes", x.ice(0, -2), 20);
        C.due("20 turns", x.ice(0, 0), 40 * 20 - 19);
        C.due("from now, in thought", x.of(0, 10), 0);
        x.mend(0, 0, 99);
        C.due("999 at most", x.ice(0, 0), 999);
        x.play(0);
        bytes(x, 0, 20);
        C.due("from now", x.ice(0, 0), 84);
        x.mend(0, 8, 60);
        x.mend(0, 7, 9);
        C.due("0 at least", x.ice(0, 0), 0);
    }

    private static void cross() {
        C.promise(11, "cross");
        refusals("cross", (x, s) -> x.cross(s, 0));
        IceOfApplause x = small();
        C.due("BAD goes ahead of -11", x.cross(0, 10000), -1);
        bytes(x, 0, 0);
        C.due("20 holds", x.cross(0, 200), -2);
        C.due("21 does not", x.cross(0, 210), 1);
        C.due("41 does not", x.cross(0, 410), 0);
        C.due("20 at pace 1", x.cross(0, 201), 1);
        C.due("19 at pace 1", x.cross(0, 191), -2);
        C.due("11 at pace 9", x.cross(0, 119), -2);
        C.due("12 at pace 9", x.cross(0, 129), 1);
        C.due("0 holds always", x.cross(0, 9), -2);
        C.due("-1", x.cross(0, -1), -1);
        C.due("MIN", x.cross(0, MIN), -1);
        C.due("9999", x.cross(0, 9999), 0);
        x.mend(0, 7, 9);
        C.due("ice is 0 at least, and 0 holds", x.cross(0, 9), -2);
    }

    private static void heaviest() {
        C.promise(12, "heaviest");
        refusals("heaviest", (x, s) -> x.heaviest(s, 0));
        IceOfApplause x = small();
        C.due("BAD goes ahead of -11", x.heaviest(0, 10), -1);
        bytes(x, 0, 0);
        C.due("pace 0", x.heaviest(0, 0), 20);
        C.due("pace 1", x.heaviest(0, 1), 19);
        C.due("pace 9", x.heaviest(0, 9), 11);
        C.due("pace -1", x.heaviest(0, -1), -1);
        x.mend(0, 7, 9);
        C.due("0 at least", x.heaviest(0, 9), 0);
        x.mend(0, 7, 0);
        C.due("no thaw", x.heaviest(0, 9), 20);
    }

    private static void waits() {
        C.promise(13, "waits");
        refusals("waits", (x, s) -> x.waits(s, 0));
        IceOfApplause x = small();
        C.due("BAD goes ahead of -11", x.waits(0, 10000), -1);
        bytes(x, 0, 0);
        C.due("-1", x.waits(0, -1), -1);
        C.due("20 may not wait", x.waits(0, 200), 0);
        C.due("21 not even at once", x.waits(0, 210), -2);
        C.due("5", x.waits(0, 50), 15);
        C.due("5 at pace 4", x.waits(0, 54), 11);
        C.due("0 for ever", x.waits(0, 9), 999);
        x.mend(0, 7, 3);
        C.due("5 by 3 a minute", x.waits(0, 50), 5);
        C.due("5 by 3 a minute, pace 2", x.waits(0, 52), 3);
        C.due("5 by 3 a minute, pace 6", x.waits(0, 56), -2);
        x.mend(0, 7, 0);
        C.due("no thaw: for ever", x.waits(0, 200), 999);
        C.due("no thaw: not at once", x.waits(0, 210), -2);
    }

    private static void first() {
        C.promise(14, "first");
        refusals("first", (x, s) -> x.first(s, 0));
        IceOfApplause x = small();
        C.due("BAD goes ahead of -11", x.first(0, -1), -1);
        bytes(x, 0, 20, 0, 0, 20, 0);
        C.due("0 at once", x.first(0, 0), 0);
        C.due("20 behind two", x.first(0, 200), 2);
        C.due("39 behind three", x.first(0, 390), 3);
        C.due("40 behind all: 39, 24, 23 and 20 more are 43", x.first(0, 400), 5);
        C.due("44 never", x.first(0, 440), -2);
        C.due("20 at pace 1", x.first(0, 201), 3);
        C.due("10000", x.first(0, 10000), -1);
        bytes(x, 0);
        C.due("nothing counts", x.first(0, 10), -2);
    }

    private static void order() {
        C.promise(15, "order");
        IceOfApplause x = new IceOfApplause();
        C.due("no turns", x.order(-1), 0);
        C.due("no first", x.order(0), -2);
        C.due("-2", x.order(-2), -1);
        C.due("MIN", x.order(MIN), -1);
        x = small();
        // 0 ahead: 40 20, then 35 15, then 55 25; 1 ahead: 20 10, then 19 9, then 59 29.
        C.due("that", x.order(-1), 29);
        C.due("first", x.order(0), 1);
        C.due("second", x.order(1), 0);
        C.due("third", x.order(2), -2);
        C.due("MAX", x.order(MAX), -2);
        x.mend(0, 7, 0);
        C.due("of like ones the first by numbers", x.order(0), 0);
        C.due("of like ones the first by numbers", x.order(1), 1);
        for (int k = 2; k < 6; k++) {
            x.turn(0, 1);
        }
        C.due("six turns", x.order(5), 5);
        C.due("not a seventh", x.order(6), -2);
        C.due("in thought", x.of(0, 10), 0);
        x.turn(0, 1);
        C.due("seven turns", x.order(-1), -5);
        C.due("STATE goes ahead of NOT", x.order(9), -5);
        C.due("BAD goes ahead of STATE", x.order(-2), -1);
    }

    private static void fewest() {
        C.promise(16, "fewest");
        IceOfApplause x = small();
        C.due("0", x.fewest(0, -1), 0);
        C.due("no first of none", x.fewest(0, 0), -2);
        C.due("10", x.fewest(10, -1), 1);
        C.due("10: the first by numbers", x.fewest(10, 0), 0);
        C.due("39: 0 0", x.fewest(39, -1), 2);
        C.due("96: 0 0 0 0 0", x.fewest(96, -1), 5);
        C.due("96: the fifth", x.fewest(96, 4), 0);
        C.due("96: no sixth", x.fewest(96, 5), -2);
        C.due("97", x.fewest(97, -1), -2);
        C.due("97, the first", x.fewest(97, 0), -2);
        C.due("-1", x.fewest(-1, -1), -1);
        C.due("1000", x.fewest(1000, -1), -1);
        C.due("k -2", x.fewest(0, -2), -1);
        IceOfApplause y = new IceOfApplause();
        y.mend(0, 6, 2);
        y.mend(0, 7, 0);
        y.hands(1, 0);
        y.turn(1, 1);
        y.turn(2, 1);
        y.turn(3, 1);
        tell(y, "g=3&i=0?0;g=3?30;g=2?5;9");
        // With no ice, 9 by turn 0, 5 by turn 1, nothing by turn 2; later 30 by turn 2.
        C.due("35", y.fewest(35, -1), 2);
        C.due("35: first 0, not 1", y.fewest(35, 0), 0);
        C.due("35: then 2", y.fewest(35, 1), 2);
        C.due("36 too", y.fewest(36, 0), 0);
        C.due("129 is the most of five", y.fewest(129, 4), 2);
        C.due("130", y.fewest(130, -1), -2);
        y.turn(0, 1);
        y.turn(0, 1);
        C.due("five turns", y.fewest(1, -1), 1);
        y.turn(0, 1);
        C.due("six turns", y.fewest(0, -1), -5);
        C.due("BAD goes ahead of STATE", y.fewest(1000, 0), -1);
        IceOfApplause z = new IceOfApplause();
        C.due("no turns, 0", z.fewest(0, -1), 0);
        C.due("no turns, 1", z.fewest(1, -1), -2);
    }

    private static void spare() {
        C.promise(17, "spare");
        refusals("spare", (x, s) -> x.spare(s, 0));
        IceOfApplause x = small();
        C.due("BAD goes ahead of -11", x.spare(0, 2), -1);
        bytes(x, 0, 0, 1, 20, 0);
        // Without 0: 10 .. 0 .. 20; without 1: 20 5 4 24; without 20: 20 15 25 24 44; without the last: 25 10.
        C.due("its place", x.spare(0, 0), 2);
        C.due("that then", x.spare(0, 1), 44);
        bytes(x, 0, 0, 0);
        C.due("of like ones the first", x.spare(0, 0), 0);
        C.due("what -1", x.spare(0, -1), -1);
        bytes(x, 0, 9);
        C.due("nothing counts", x.spare(0, 0), -2);
        C.due("nothing counts", x.spare(0, 1), -2);
        x.row(0, 0, 60);
        C.due("nineteen are left of twenty", x.spare(0, 1), 20 * 19 - 18);
    }

    private static void harm() {
        C.promise(18, "harm");
        refusals("harm", (x, s) -> x.harm(s));
        IceOfApplause x = small();
        bytes(x, 0, 0);
        C.due("no harm", x.harm(0), 0);
        x.hands(8, 1);
        x.mend(1, 3, 9);
        C.due("row 1 envies", x.harm(0), 2);
        x.hands(8, 1);
        x.mend(2, 3, 9);
        C.due("rows 1 and 2, each alone", x.harm(0), 6);
        C.due("they are there still", x.gives(10, 1), -10);
        x.hands(8, 1);
        x.mend(3, 3, 9);
        C.due("each alone leaves no ice still", x.harm(0), 0);
        x.mend(0, 0, 0);
        C.due("leaving out one does not help then", x.harm(0), 0);
        tell(x, "h=0?-5;9");
        C.due("a row without hands may do harm by a law", x.harm(0), 1);
        bytes(x, 0);
        C.due("nothing counts", x.harm(0), 0);
    }

    private static void seat() {
        C.promise(19, "seat");
        refusals("seat", (x, s) -> x.seat(s, 0, 0));
        IceOfApplause x = small();
        C.due("BAD goes ahead of -11", x.seat(0, 1, 0), -1);
        C.due("BAD goes ahead of -11", x.seat(0, 0, 2), -1);
        bytes(x, 0, 0);
        C.due("row -1", x.seat(0, -1, 0), -1);
        C.due("of like ones the least", x.seat(0, 0, 0), 0);
        C.due("that", x.seat(0, 0, 1), 20);
        x.mend(0, 6, 5);
        x.mend(0, 1, 15);
        C.due("the middle of five", x.seat(0, 0, 0), 2);
        C.due("160 by 3, by 4", x.seat(0, 0, 1), 13);
        C.due("it sits where it did", x.of(0, 1), 15);
        C.due("no change", x.count(3), 3);
    }

    private static void encore() {
        C.promise(20, "encore");
        IceOfApplause x = small();
        C.due("shelf -1", x.encore(-1), -2000000000);
        C.due("shelf 6", x.encore(6), -2000000000);
        C.due("nothing", x.encore(0), -2000000000);
        x.row(0, 3, 1);
        C.due("longs", x.encore(0), -2000000000);
        bytes(x, 0);
        C.due("there is none", x.encore(0), 0);
        bytes(x, 0, 20);
        C.due("an interval is none", x.encore(0), 0);
        bytes(x, 0, 1, 0);
        C.due("the last one: 29, 28 and 20 more", x.encore(0), 19);
        bytes(x, 0, 1, 0, 20);
        C.due("at the end: 14, 13 and 20 more", x.encore(0), 19);
        x.mend(0, 3, 9);
        x.play(0);
        tell(x, "i=0?50;-9");
        bytes(x, 0, 0);
        C.due("below 0: 50, then 49 less 9", x.encore(0), -10);
        tell(x, "9");
        x.row(0, 0, 20);
        C.due("behind twenty bytes too", x.encore(0), 8);
    }

    private static void claque() {
        C.promise(21, "claque");
        refusals("claque", (x, s) -> x.claque(s, 0));
        IceOfApplause x = small();
        C.due("BAD goes ahead of -11", x.claque(0, 1000), -1);
        bytes(x, 0, 0);
        C.due("20 by none more", x.claque(0, 20), 0);
        C.due("21 by 42 hands", x.claque(0, 21), 2);
        C.due("49 by 98 hands", x.claque(0, 49), 58);
        C.due("50 by 100 hands", x.claque(0, 50), -2);
        C.due("-1", x.claque(0, -1), -1);
        C.due("row 1", x.claque(0, 1999), -1);
        C.due("MAX", x.claque(0, MAX), -1);
        C.due("the hands are as they were", x.of(0, 0), 40);
        x.hands(0, 1);
        C.due("row 1: 30 on plank 1 by 20 hands", x.claque(0, 1030), 10);
        tell(x, "h=43?9;h=45?99;0");
        C.due("the fewest that do", x.claque(0, 9), 3);
        C.due("the fewest that do", x.claque(0, 10), 5);
        C.due("no change", x.count(3), 1);
    }

    private static void judge() {
        C.promise(22, "judge");
        IceOfApplause x = small();
        C.due("-1", x.judge(-1), -1);
        C.due("seen on 6", x.judge(6), -1);
        C.due("programme on 6", x.judge(60), -1);
        C.due("MAX", x.judge(MAX), -1);
        C.due("MIN", x.judge(MIN), -1);
        C.due("nothing", x.judge(1), -11);
        bytes(x, 0, 0);
        C.due("nothing seen", x.judge(1), -11);
        C.due("bytes are no shorts", x.judge(0), -12);
        shorts(x, 1, 40, 20);
        C.due("all is so", x.judge(1), -2);
        C.due("no programme there", x.judge(21), -11);
        C.due("-11 goes ahead of -12", x.judge(12), -11);
        C.due("-11 goes ahead of -12", x.judge(20), -11);
        C.due("shorts are no bytes", x.judge(11), -12);
        shorts(x, 1, 40, 21);
        C.due("plank 1 is not so", x.judge(1), 1);
        shorts(x, 1, 41, 21);
        C.due("plank 0 is not so", x.judge(1), 0);
        shorts(x, 1, 40);
        C.due("as far as it goes", x.judge(1), -2);
        shorts(x, 1, 40, 20, 7);
        C.due("no more than LONG count", x.judge(1), -2);
        shorts(x, 1, 40, 21, 7);
        C.due("but as many do", x.judge(1), 1);
        shorts(x, 1);
        C.due("nothing is so", x.judge(1), -2);
        shorts(x, 1, 65536 + 40);
        C.due("the lowest bits", x.judge(1), -2);
    }

    private static void which() {
        C.promise(23, "which");
        refusalsOfSeen("which", (x, s) -> x.which(s, 0));
        IceOfApplause x = small();
        C.due("BAD goes ahead of -11", x.which(0, 2), -1);
        C.due("what -1", x.which(0, -1), -1);
        shorts(x, 0, 20, 10);
        C.due("one", x.which(0, 0), 1);
        C.due("turn 1", x.which(0, 1), 1);
        x.turn(2, 1);
        C.due("two from no ice", x.which(0, 0), 2);
        C.due("the first", x.which(0, 1), 1);
        shorts(x, 0, 20, 11);
        C.due("none", x.which(0, 0), 0);
        C.due("none", x.which(0, 1), -2);
        shorts(x, 0);
        C.due("all", x.which(0, 0), 3);
        x.play(0);
        shorts(x, 0, 59, 29);
        C.due("from now", x.which(0, 1), 2);
    }

    private static void refusalsOfSeen(String name, Asked asked) {
        IceOfApplause x = small();
        x.row(1, 0, 2);
        x.body(0);
        x.keep(2, 0);
        C.due(name + " on shelf -1", asked.of(x, -1), -1);
        C.due(name + " on shelf 6", asked.of(x, 6), -1);
        C.due(name + " on nothing", asked.of(x, 0), -11);
        C.due(name + " on bytes", asked.of(x, 1), -12);
        C.due(name + " on a body", asked.of(x, 2), -12);
    }

    private static void good() {
        C.promise(24, "good");
        refusalsOfSeen("good", (x, s) -> x.good(s, 0, 0));
        IceOfApplause x = small();
        C.due("BAD goes ahead of -11", x.good(0, 2, 0), -1);
        C.due("BAD goes ahead of -11", x.good(0, 0, 2), -1);
        C.due("turn -1", x.good(0, -1, 0), -1);
        shorts(x, 0, 70, 35);
        C.due("GOOD 7: one", x.good(0, 0, 0), 1);
        C.due("GOOD 7", x.good(0, 0, 1), 7);
        shorts(x, 0, 70, 36);
        C.due("none", x.good(0, 0, 0), 0);
        C.due("none", x.good(0, 0, 1), -2);
        shorts(x, 0);
        C.due("all ten", x.good(0, 1, 0), 10);
        C.due("the least", x.good(0, 1, 1), 0);
        C.due("GOOD is as it was", x.of(0, 4), 4);
        shorts(x, 0, 0, 0);
        x.mend(0, 3, 3);
        C.due("0 at least: GOOD 0 to 3", x.good(0, 0, 0), 4);
        C.due("no change but LONG, ENVY", x.count(3), 2);
    }

    private static void orders() {
        C.promise(25, "orders");
        refusalsOfSeen("orders", (x, s) -> x.orders(s, 0));
        IceOfApplause x = small();
        C.due("BAD goes ahead of -11", x.orders(0, 2), -1);
        shorts(x, 0, 59, 29);
        C.due("one", x.orders(0, 0), 1);
        C.due("1 0", x.orders(0, 1), 10);
        shorts(x, 0, 55, 25);
        C.due("0 1", x.orders(0, 1), 1);
        shorts(x, 0, 55, 26);
        C.due("none", x.orders(0, 0), 0);
        C.due("none", x.orders(0, 1), -2);
        shorts(x, 0);
        x.turn(0, 1);
        x.turn(0, 1);
        x.turn(0, 1);
        x.turn(9, 1);
        C.due("all orders of six", x.orders(0, 0), 720);
        C.due("the first of six", x.orders(0, 1), 12345);
        tell(x, "g=9?100-i;i");
        shorts(x, 0, 99);
        x.mend(0, 7, 0);
        C.due("turn 5 last: else it is doubled", x.orders(0, 0), 120);
        x.turn(1, 1);
        C.due("seven turns", x.orders(0, 0), -5);
        C.due("-11 goes ahead of STATE", x.orders(1, 0), -11);
        x.row(1, 0, 1);
        C.due("-12 goes ahead of STATE", x.orders(1, 0), -12);
        C.due("BAD goes ahead of STATE", x.orders(0, -1), -1);
    }

    private static void warm() {
        C.promise(26, "warm");
        IceOfApplause x = small();
        C.due("-1", x.warm(-1), -1);
        C.due("66", x.warm(66), -1);
        C.due("nothing", x.warm(1), -11);
        bytes(x, 0, 0, 1);
        C.due("nothing seen", x.warm(1), -11);
        C.due("bytes are no shorts", x.warm(0), -12);
        shorts(x, 1, 40 - 15 + 20, 20 - 15 + 10);
        C.due("by 3", x.warm(1), 3);
        C.due("shorts are no bytes", x.warm(11), -12);
        shorts(x, 1, 60, 30);
        C.due("by 0", x.warm(1), 0);
        shorts(x, 1, 60 - 5 * 9);
        C.due("none: 20 at least", x.warm(1), -2);
        shorts(x, 1, 20, 10);
        C.due("the least by which all is gone", x.warm(1), 8);
        C.due("WARM is as it was", x.of(0, 7), 1);
        C.due("no change but LONG", x.count(3), 1);
    }

    private static void drawn() {
        C.promise(27, "drawn");
        IceOfApplause x = small();
        C.due("0 evenings", x.drawn(1, 1, 0), -1);
        C.due("31 evenings", x.drawn(1, 3101, 0), -1);
        C.due("0 turns", x.drawn(1, 100, 0), -1);
        C.due("21 turns", x.drawn(1, 121, 0), -1);
        C.due("-101", x.drawn(1, -101, 0), -1);
        C.due("MIN", x.drawn(1, MIN, 0), -1);
        C.due("MAX", x.drawn(1, MAX, 0), -1);
        C.due("what 2", x.drawn(1, 101, 2), -1);
        C.due("what -1", x.drawn(1, 101, -1), -1);
        IceOfApplause y = new IceOfApplause();
        C.due("no turns: nothing", y.drawn(5, 3020, 0), 0);
        y.mend(0, 6, 2);
        y.hands(99, 0);
        y.turn(9, 1);
        // One turn alone: 99 on both planks an evening, whatever is drawn.
        C.due("thirty like evenings", y.drawn(MAX, 3001, 0), 30 * 99);
        C.due("99 does not carry 100", y.drawn(MAX, 3001, 1), 0);
        C.due("two turns carry it", y.drawn(MIN, 3002, 1), 30);
        C.due("two turns", y.drawn(MIN, 3002, 0), 30 * (99 + 98));
        y.mend(0, 9, 12);
        C.due("all are hissed", y.drawn(7, 3020, 0), 0);
        y.mend(0, 9, 6);
        int z = 7;
        int sum = 0;
        int crossed = 0;
        for (int evening = 0; evening < 4; evening++) {
            int ice = 0;
            for (int k = 0; k < 3; k++) {
                z = z * 1103515245 + 12345;
                ice = Math.max(0, ice - 1) + ((z >>> 16) % 12 < 6 ? 0 : 99);
            }
            sum += ice;
            crossed += ice >= 100 ? 1 : 0;
        }
        C.due("some are hissed", y.drawn(7, 403, 0), sum);
        C.due("some are hissed", y.drawn(7, 403, 1), crossed);
        y.mend(0, 9, 0);
        y.turn(1, 1);
        for (int seed = -9; seed < 9; seed++) {
            z = seed * 1103515245 + 12345;
            C.due("which turn by " + seed, y.drawn(seed, 101, 0), (z >>> 8) % 2 == 0 ? 99 : 12);
        }
        IceOfApplause w = small();
        tell(w, "50");
        w.mend(0, 7, 0);
        C.due("100 carries 100", w.drawn(3, 702, 1), 7);
        C.due("in thought", y.of(0, 10), 0);
        C.due("no deeds", y.led(0), 0);
    }

    private static void play() {
        C.promise(28, "play");
        IceOfApplause x = small();
        C.due("-1", x.play(-1), -1);
        C.due("2", x.play(2), -1);
        C.due("0", x.play(0), 20);
        C.due("1", x.play(1), 25);
        C.due("ICE", x.of(0, 10), 55);
        C.due("TURNS", x.led(0), 2);
        C.due("minutes", x.led(4), 6);
        x.mend(0, 6, 3);
        C.due("a third plank: 160 by 3, by 4", x.play(0), 13);
        x.mend(0, 6, 2);
        x.mend(0, 7, 9);
        x.play(1);
        C.due("planks beyond LONG keep theirs", x.of(2, 10), 13);
        tell(x, "i>0?-99;99");
        x.salt(0);
        x.salt(1);
        C.due("99", x.play(0), 99);
        C.due("less, 0 at least", x.play(0), 0);
        x.hands(1, 0);
        C.due("both by the ice as it was", x.play(0), 198);
        for (int k = 0; k < 10; k++) {
            tell(x, "99");
            x.play(0);
        }
        C.due("999 at most", x.play(0), 999);
    }

    private static void interval() {
        C.promise(29, "interval");
        IceOfApplause x = small();
        x.play(0);
        C.due("15 minutes", x.interval(), 5);
        C.due("ICE", x.of(0, 10), 25);
        x.mend(0, 8, 3);
        x.mend(0, 7, 2);
        C.due("0 at least", x.interval(), 0);
        C.due("ICE", x.of(0, 10), 19);
        C.due("intervals", x.led(1), 2);
        C.due("minutes", x.led(4), 19);
        C.due("TURNS", x.led(0), 1);
    }

    private static void goes() {
        C.promise(30, "goes");
        IceOfApplause x = small();
        C.due("-1", x.goes(-1), -1);
        C.due("10000", x.goes(10000), -1);
        C.due("no crossing", x.led(2), 0);
        x.play(0);
        C.due("15 at pace 3", x.goes(153), -2);
        C.due("six minutes", x.of(0, 10), 34);
        C.due("six minutes", x.of(1, 10), 14);
        C.due("14 at pace 1 falls on 1", x.goes(141), 1);
        C.due("two minutes", x.of(0, 10), 32);
        C.due("no ice there", x.of(1, 10), 0);
        C.due("33 at pace 2 falls on 0", x.goes(332), 0);
        C.due("no ice there", x.of(0, 10), 0);
        C.due("crossings", x.led(2), 3);
        C.due("falls", x.led(3), 2);
        C.due("minutes", x.led(4), 1 + 6 + 2 + 2);
        IceOfApplause y = small();
        y.play(0);
        C.due("falls on 0 of thicker ice", y.goes(505), 0);
        C.due("the next one thawed for five minutes", y.of(1, 10), 15);
    }

    private static void salt() {
        C.promise(31, "salt");
        IceOfApplause x = small();
        x.mend(0, 6, 16);
        x.play(0);
        x.mend(0, 6, 2);
        C.due("-1", x.salt(-1), -1);
        C.due("16", x.salt(16), -1);
        C.due("0", x.salt(0), 40);
        C.due("0 again", x.salt(0), 0);
        C.due("9 beyond LONG: 160 by 10, by 4", x.salt(9), 4);
        C.due("no ice", x.of(9, 10), 0);
        C.due("the others have theirs", x.of(1, 10), 20);
        C.due("no minutes", x.led(4), 1);
    }

    private static void led() {
        C.promise(32, "led");
        IceOfApplause x = small();
        x.play(1);
        x.play(0);
        x.play(0);
        x.interval();
        x.interval();
        x.goes(9);
        x.goes(9999);
        C.due("TURNS", x.led(0), 3);
        C.due("intervals", x.led(1), 2);
        C.due("crossings", x.led(2), 2);
        C.due("falls", x.led(3), 1);
        C.due("minutes", x.led(4), 7 + 30 + 18 + 9);
        C.due("-1", x.led(-1), -1);
        C.due("5", x.led(5), -1);
        C.due("MIN", x.led(MIN), -1);
    }

    private static void imageAndBack() {
        C.promise(34, "back");
        IceOfApplause x = small();
        C.due("there is none", x.back(), -5);
        C.promise(33, "image");
        x.play(0);
        C.due("TURNS", x.image(), 1);
        x.play(1);
        x.interval();
        x.goes(9999);
        x.mend(0, 7, 2);
        C.promise(34, "back");
        C.due("TURNS", x.back(), 1);
        C.due("ICE", x.of(0, 10), 40);
        C.due("ICE", x.of(1, 10), 20);
        for (int what = 1; what <= 3; what++) {
            C.due("led(" + what + ")", x.led(what), 0);
        }
        C.due("minutes", x.led(4), 1);
        C.due("numbers are not in it", x.of(0, 7), 2);
        x.play(0);
        C.due("it can be laid back again", x.back(), 1);
        C.due("ICE", x.of(0, 10), 40);
        x.play(0);
        C.promise(33, "image");
        C.due("another", x.image(), 2);
        x.salt(0);
        C.due("the later one", x.back(), 2);
        C.due("ICE", x.of(0, 10), 78);
        C.due("changes stay", x.count(3), 2);
    }

    private static void undoAndRedo() {
        C.promise(35, "undo");
        IceOfApplause x = new IceOfApplause();
        C.due("none", x.undo(), -5);
        C.promise(36, "redo");
        C.due("none", x.redo(), -5);
        C.promise(35, "undo");
        x.mend(0, 7, 2);
        x.mend(0, 7, 3);
        x.mend(0, 6, 5);
        C.due("still two", x.undo(), 2);
        C.due("LONG", x.of(0, 6), 8);
        C.due("WARM", x.of(0, 7), 3);
        C.due("still one", x.undo(), 1);
        C.due("WARM", x.of(0, 7), 2);
        C.promise(36, "redo");
        C.due("still one", x.redo(), 1);
        C.due("WARM", x.of(0, 7), 3);
        C.due("to undo", x.count(3), 2);
        x.mend(0, 7, 3);
        x.mend(0, 7, 10);
        C.due("the same number is no change, nor is a wrong one", x.redo(), 0);
        C.due("LONG", x.of(0, 6), 5);
        C.due("none", x.redo(), -5);
        x.undo();
        x.undo();
        x.mend(0, 8, 7);
        C.due("another came behind", x.redo(), -5);
        C.promise(35, "undo");
        C.due("still one", x.undo(), 1);
        C.due("still none", x.undo(), 0);
        C.due("none", x.undo(), -5);
        C.due("WARM", x.of(0, 7), 1);
        x.hands(1, 1);
        x.turn(1, 1);
        x.play(0);
        x.interval();
        C.promise(36, "redo");
        C.due("deeds, rows, turns are none", x.redo(), 1);
        x.undo();
        for (int k = 1; k <= 45; k++) {
            x.mend(0, 0, k + 1);
        }
        C.promise(35, "undo");
        C.due("40 at most", x.count(3), 40);
        for (int k = 39; k >= 0; k--) {
            C.due("still " + k, x.undo(), k);
        }
        C.due("no more", x.undo(), -5);
        C.due("HANDS", x.of(0, 0), 6);
        C.promise(36, "redo");
        for (int k = 39; k >= 0; k--) {
            C.due("still " + k, x.redo(), k);
        }
        C.due("HANDS", x.of(0, 0), 46);
    }

    private static void body() {
        C.promise(37, "body");
        IceOfApplause x = new IceOfApplause();
        C.due("-1", x.body(-1), -1);
        C.due("8", x.body(8), -1);
        for (int k = 0; k < 50; k++) {
            C.due("body " + k, x.body(k % 8), k);
        }
        C.due("a fifty-first", x.body(0), -3);
        C.due("BAD goes ahead of FULL", x.body(8), -1);
        C.due("fifty", x.count(4), 50);
        C.due("the last one's kind", x.keep(0, 49), 1);
        C.due("the last one's kind", x.taken(0, 0), 1);
    }

    private static void act() {
        C.promise(38, "act");
        IceOfApplause x = oneOfEach();
        int[][] dues = {
            {10, 20, 10, 20 - 1},
            {14, 28, 11, 28},
            {12, -24, 8, -24 - 3},
            {13, -28, 27, -28 - 6},
            {17, 34, 14, (34 - 5) ^ 5},
            {15, -32, 45 - 7, -32 - 5 + 1},
            {32, 64, 12, 64 - 7},
            {33, 66 + 5, 13, 71 - 6},
        };
        for (int kind = 0; kind < 8; kind++) {
            for (int act = 0; act < 4; act++) {
                C.due("act(" + kind + ", " + act + ", 10)", x.act(kind, act, 10), dues[kind][act]);
            }
        }
        C.due("wraps", x.act(1, 0, MAX), MIN + 3);
        C.due("wraps", x.act(0, 1, MAX), -2);
        C.due("no body 8", x.act(8, 0, 1), 0);
        C.due("no trace then", x.trace(0), -1);
        C.due("none ran", x.count(5), 0);
        x.act(0, 0, 1);
        C.due("no act 4", x.act(0, 4, 1), 0);
        C.due("no trace then", x.trace(0), -1);
        x.act(0, 0, 1);
        C.due("no act -1", x.act(0, -1, 1), 0);
        C.due("no body -1", x.act(-1, 0, 1), 0);
        C.due("none ran", x.count(5), 0);
        for (int k = 8; k < 20; k++) {
            x.body(0);
        }
        C.due("n is its number", x.act(19, 0, 1), 20);
    }

    private static void trace() {
        C.promise(39, "trace");
        IceOfApplause x = oneOfEach();
        C.due("none", x.trace(0), -1);
        traced(x, 0, 3, 2, 10, 1, 11);
        traced(x, 1, 1, 10, 20, 1);
        traced(x, 3, 3, 2, 41, 30, 10, 1, 40, 11);
        traced(x, 4, 3, 50, 2, 10, 20, 1, 11);
        traced(x, 5, 2, 60, 40, 11, 1);
        traced(x, 5, 3, 61, 2, 41, 30, 10, 1, 60, 40, 11, 1);
        traced(x, 6, 0, 70, 1);
        traced(x, 7, 1, 80, 10, 81, 70, 1, 11);
        traced(x, 7, 3, 2, 80, 10, 81, 70, 1, 11, 11);
        C.due("-1", x.trace(-1), -1);
        C.due("24", x.trace(24), -1);
        C.due("MAX", x.trace(MAX), -1);
    }

    private static void traced(IceOfApplause x, int body, int act, int... numbers) {
        x.act(body, act, 4);
        for (int i = 0; i < numbers.length; i++) {
            C.due("trace " + i + " of " + body + ", " + act, x.trace(i), numbers[i]);
        }
        C.due("behind the trace", x.trace(numbers.length), -1);
        C.due("how many ran", x.count(5), numbers.length);
    }

    private static void keep() {
        C.promise(40, "keep");
        IceOfApplause x = oneOfEach();
        C.due("shelf -1", x.keep(-1, 0), -1);
        C.due("shelf 6", x.keep(6, 0), -1);
        C.due("body 8", x.keep(0, 8), -1);
        C.due("body -2", x.keep(0, -2), -1);
        C.due("a body", x.keep(5, 7), 1);
        C.due("it is there", x.taken(5, 7), 7);
        C.due("another", x.keep(5, 1), 1);
        C.due("it is there", x.taken(5, 1), 1);
        C.due("BAD changes nothing", x.keep(5, 9), -1);
        C.due("it is there", x.taken(5, 1), 1);
        C.due("nothing", x.keep(5, -1), 1);
        C.due("nothing there", x.taken(5, 0), -11);
        x.row(5, 0, 1);
        C.due("nothing for a row", x.keep(5, -1), 1);
        C.due("nothing there", x.put(5, 0, 1), -11);
    }

    private static void row() {
        C.promise(41, "row");
        IceOfApplause x = new IceOfApplause();
        C.due("shelf -1", x.row(-1, 0, 1), -1);
        C.due("shelf 6", x.row(6, 0, 1), -1);
        C.due("sort -1", x.row(0, -1, 1), -1);
        C.due("sort 5", x.row(0, 5, 1), -1);
        C.due("61", x.row(0, 0, 61), -1);
        C.due("MAX", x.row(0, 0, MAX), -1);
        C.due("a size below 0", x.row(0, 0, -1), -14);
        C.due("MIN", x.row(0, 0, MIN), -14);
        C.due("BAD goes ahead of -14", x.row(0, 5, -1), -1);
        C.due("nothing came", x.put(0, 0, 1), -11);
        C.due("60", x.row(0, 3, 60), 1);
        x.put(0, 59, 7);
        C.due("the last", x.element(0, 59), 7);
        C.due("none behind it", x.put(0, 60, 7), -13);
        C.due("refused", x.row(0, 0, -1), -14);
        C.due("the row is as it was", x.element(0, 59), 7);
        C.due("a new one", x.row(0, 3, 60), 1);
        C.due("0 at first", x.element(0, 59), 0);
        C.due("an empty one", x.row(0, 3, 0), 1);
        C.due("none there", x.put(0, 0, 7), -13);
    }

    private static void putAndElement() {
        C.promise(42, "put");
        IceOfApplause x = oneOfEach();
        C.due("shelf -1", x.put(-1, 0, 1), -1);
        C.due("shelf 6", x.put(6, 0, 1), -1);
        C.due("nothing", x.put(0, 0, 1), -11);
        x.keep(0, 0);
        C.due("a body", x.put(0, 0, 1), -12);
        x.row(0, 0, 2);
        C.due("place -1", x.put(0, -1, 1), -13);
        C.due("place 2", x.put(0, 2, 1), -13);
        C.due("place MIN", x.put(0, MIN, 1), -13);
        long wide = 0x1234_5678_9ABC_DEF0L;
        long[] held = {(byte) wide, (short) wide, (int) wide, wide, 1};
        for (int sort = 0; sort < 5; sort++) {
            x.row(0, sort, 2);
            C.due("put in " + sort, x.put(0, 1, wide), 1);
            C.due("element of " + sort, x.element(0, 1), held[sort]);
            C.due("its neighbour", x.element(0, 0), 0);
        }
        x.put(0, 1, 0);
        C.due("false", x.element(0, 1), 0);
        x.put(0, 1, 1L << 40);
        C.due("true", x.element(0, 1), 1);
        x.put(0, 1, -1);
        C.due("true", x.element(0, 1), 1);
        x.row(0, 3, 1);
        x.put(0, 0, Long.MAX_VALUE);
        C.promise(43, "element");
        C.due("a long", x.element(0, 0), Long.MAX_VALUE);
        long none = Long.MIN_VALUE;
        C.due("shelf -1", x.element(-1, 0), none);
        C.due("shelf 6", x.element(6, 0), none);
        C.due("nothing", x.element(1, 0), none);
        x.keep(1, 0);
        C.due("a body", x.element(1, 0), none);
        C.due("place -1", x.element(0, -1), none);
        C.due("place 1", x.element(0, 1), none);
        C.due("place MAX", x.element(0, MAX), none);
    }

    private static void shift() {
        C.promise(44, "shift");
        IceOfApplause x = oneOfEach();
        C.due("shelf -1", x.shift(-1, 0, 0, 0, 0), -1);
        C.due("other 6", x.shift(0, 0, 6, 0, 0), -1);
        C.due("nothing", x.shift(0, 0, 1, 0, 0), -11);
        fill(x, 0, 2, 1, 2, 3, 4, 5);
        C.due("nothing on the other", x.shift(0, 0, 1, 0, 0), -11);
        C.due("nothing on the one", x.shift(1, 0, 0, 0, 0), -11);
        x.keep(2, 0);
        C.due("-11 goes ahead of -12", x.shift(2, 0, 1, 0, 0), -11);
        C.due("-11 goes ahead of -12", x.shift(1, 0, 2, 0, 0), -11);
        C.due("a body", x.shift(2, 0, 0, 0, 0), -12);
        C.due("onto a body", x.shift(0, 0, 2, 0, 0), -12);
        x.row(1, 3, 5);
        C.due("unlike sorts", x.shift(0, 0, 1, 0, 1), -12);
        C.due("-12 goes ahead of -13", x.shift(0, 9, 1, 0, 1), -12);
        x.row(1, 2, 3);
        C.due("n -1", x.shift(0, 0, 1, 0, -1), -13);
        C.due("n MIN", x.shift(0, 0, 1, 0, MIN), -13);
        C.due("i -1", x.shift(0, -1, 1, 0, 1), -13);
        C.due("j -1", x.shift(0, 0, 1, -1, 1), -13);
        C.due("too long for the one", x.shift(0, 4, 1, 0, 2), -13);
        C.due("too long for the other", x.shift(0, 0, 1, 2, 2), -13);
        C.due("wraps", x.shift(0, MAX, 1, 0, 2), -13);
        C.due("wraps", x.shift(0, 2, 1, 0, MAX), -13);
        C.due("wraps", x.shift(0, 0, 1, MAX, MAX), -13);
        C.due("nothing came", x.element(1, 0), 0);
        C.due("none, at the ends", x.shift(0, 5, 1, 3, 0), 0);
        C.due("none, behind the end", x.shift(0, 6, 1, 0, 0), -13);
        C.due("two", x.shift(0, 3, 1, 1, 2), 2);
        C.due("first", x.element(1, 1), 4);
        C.due("second", x.element(1, 2), 5);
        C.due("not touched", x.element(1, 0), 0);
        C.due("onto itself, up", x.shift(0, 0, 0, 1, 4), 4);
        for (int i = 0; i < 5; i++) {
            C.due("as they all were before", x.element(0, i), i == 0 ? 1 : i);
        }
        fill(x, 0, 2, 1, 2, 3, 4, 5);
        C.due("onto itself, down", x.shift(0, 1, 0, 0, 4), 4);
        for (int i = 0; i < 5; i++) {
            C.due("as they all were before", x.element(0, i), i == 4 ? 5 : i + 2);
        }
    }

    private static void taken() {
        C.promise(45, "taken");
        IceOfApplause x = oneOfEach();
        C.due("shelf -1", x.taken(-1, 0), -1);
        C.due("shelf 6", x.taken(6, 0), -1);
        C.due("BAD goes ahead of -11", x.taken(0, 8), -1);
        C.due("kind -1", x.taken(0, -1), -1);
        C.due("nothing", x.taken(0, 0), -11);
        x.row(0, 0, 1);
        C.due("a row", x.taken(0, 0), -12);
        boolean[][] under = new boolean[8][8];
        int[] above = {-1, 0, 0, 2, 1, 3, 0, 6};
        for (int kind = 0; kind < 8; kind++) {
            for (int k = kind; k >= 0; k = above[k]) {
                under[kind][k] = true;
            }
            x.keep(0, kind);
            for (int k = 0; k < 8; k++) {
                C.due("kind " + kind + " taken for " + k, x.taken(0, k), under[kind][k] ? kind : -12);
            }
        }
    }

    private static void count() {
        C.promise(46, "count");
        IceOfApplause x = oneOfEach();
        x.hands(1, 1);
        x.turn(1, 1);
        x.turn(1, 1);
        x.feed(1);
        x.feed(1);
        x.feed(1);
        x.mend(0, 7, 2);
        x.mend(0, 7, 2);
        x.act(5, 3, 1);
        C.due("ROWS OF HANDS", x.count(0), 1);
        C.due("TURNS", x.count(1), 2);
        C.due("THE TAPE", x.count(2), 3);
        C.due("changes", x.count(3), 1);
        C.due("BODIES", x.count(4), 8);
        C.due("bodies that ran", x.count(5), 10);
        C.due("-1", x.count(-1), -1);
        C.due("6", x.count(6), -1);
        C.due("MAX", x.count(MAX), -1);
    }
}
