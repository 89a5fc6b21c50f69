/** The edges that part 4 of the document's terms and promises 28 to 36 name, sentence by sentence. */
public final class EdgesDeedTest extends Told {
    public static void main(String[] args) {
        play();
        interval();
        goesItsMinutes();
        goesAsFarAsItFalls();
        goesOnIceThatThaws();
        goesIsBad();
        salt();
        led();
        imageOfNone();
        imageKeeps();
        imageKeepsNoMore();
        undoneLatestFirst();
        sameNumberIsNone();
        doneAgain();
        anotherCameBehind();
        fortyAtMost();
        fortyOfEverySort();
        refusedIsNoChange();
        deedsAreNone();
        C.end();
    }

    // ---- TURNS, intervals

    private static void play() {
        says("A TURN: the THINNEST PLANK's ICE then. BAD");
        IceOfApplause x = iced(90, 50, 70);
        x.mend(0, 7, 1);
        tell(x, "d=1?30;0");
        due("the thinnest was another before", x.play(0), 69);
        dueIce(x, 89, 79, 69);
        for (int turn : new int[] {-1, 1, 7, 8, 20, MIN, MAX}) {
            due("turn " + turn, x.play(turn), BAD);
        }
        dueIce(x, 89, 79, 69);
        due("no TURN but those that were", x.led(0), 4);
        tell(x, "-99");
        due("none below 0", x.play(0), 0);
        x.turn(1, 60);
        due("TURN 1 is there now", x.play(1), 0);
        due("its minutes", x.led(4), 3 + 1 + 1 + 60);
    }

    private static void interval() {
        says("An INTERVAL: the THINNEST PLANK's ICE then");
        IceOfApplause x = iced(90, 50);
        x.mend(0, 7, 1);
        tell(x, "99");
        due("nobody claps", x.interval(), 35);
        dueIce(x, 75, 35);
        x.mend(0, 8, 60);
        due("0 at least", x.interval(), 0);
        dueIce(x, 15, 0);
        due("minutes", x.led(4), 2 + 15 + 60);
        IceOfApplause y = new IceOfApplause();
        due("without anything", y.interval(), 0);
        due("one", y.led(1), 1);
    }

    // ---- CROSSINGS

    private static void goesItsMinutes() {
        says("one of a WEIGHT CROSSES at a PACE (its minutes pass: PACE times LONG)");
        for (int pace = 0; pace <= 9; pace++) {
            IceOfApplause x = iced(900, 800, 700);
            x.mend(0, 7, 1);
            int before = x.led(4);
            due("at pace " + pace, x.goes(100 + pace), NOT);
            dueIce(x, 900 - 3 * pace, 800 - 3 * pace, 700 - 3 * pace);
            due("minutes", x.led(4) - before, 3 * pace);
            due("a crossing", x.led(2), 1);
            due("no fall", x.led(3), 0);
        }
        IceOfApplause x = new IceOfApplause();
        x.mend(0, 6, 16);
        due("0 on sixteen", x.goes(9), NOT);
        due("sixteen times 9", x.led(4), 144);
        x.mend(0, 6, 2);
        due("0 on two", x.goes(9), NOT);
        due("two times 9", x.led(4), 144 + 18);
    }

    private static void goesAsFarAsItFalls() {
        says("as far as the PLANK on which it falls, that one included, if it does; it has no ICE then");
        for (int fall = 0; fall < 4; fall++) {
            int[] ice = {500, 500, 500, 500};
            ice[fall] = 100;
            IceOfApplause x = iced(ice);
            x.mend(0, 7, 1);
            int before = x.led(4);
            due("falls on " + fall, x.goes(2003), fall);
            for (int p = 0; p < 4; p++) {
                due("ICE of " + p, x.of(p, 10), p == fall ? 0 : 500 - 3 * (fall + 1));
            }
            due("minutes", x.led(4) - before, 3 * (fall + 1));
            due("a crossing", x.led(2), 1);
            due("a fall", x.led(3), 1);
            due("falls there again", x.goes(10), fall);
            due("no minutes at pace 0", x.led(4) - before, 3 * (fall + 1));
        }
        IceOfApplause x = iced(5, 500, 3);
        due("falls on the first alone", x.goes(60), 0);
        dueIce(x, 0, 500, 3);
    }

    private static void goesOnIceThatThaws() {
        says("CROSSING: (the ICE as it has thawed by then), in deed");
        IceOfApplause x = iced(100, 50, 30);
        x.mend(0, 7, 1);
        due("13 at pace 9: 12 are left of 30", x.goes(139), 2);
        dueIce(x, 73, 23, 0);
        x = iced(100, 50, 30);
        x.mend(0, 7, 1);
        due("12 at pace 9", x.goes(129), NOT);
        dueIce(x, 73, 23, 3);
        due("0 at any", x.goes(9), NOT);
        dueIce(x, 46, 0, 0);
        x.mend(0, 7, 9);
        due("1 at pace 9 falls where nothing is left", x.goes(19), 1);
        dueIce(x, 0, 0, 0);
        due("0 on nothing", x.goes(0), NOT);
        due("999 on nothing", x.goes(9990), 0);
        x = iced(999, 999);
        due("999 on 999", x.goes(9999), NOT);
    }

    private static void goesIsBad() {
        says("One CROSSES (wp): BAD");
        IceOfApplause x = iced(20, 20);
        x.mend(0, 7, 1);
        for (int wp : new int[] {-1, -10, 10000, 10009, MIN, MAX}) {
            due("wp " + wp, x.goes(wp), BAD);
        }
        dueIce(x, 20, 20);
        due("no crossing", x.led(2), 0);
        due("no minutes but those of two TURNS", x.led(4), 2);
        dueWithin("goes", (y, wp) -> y.goes(wp), 0, 9999, BAD);
    }

    private static void salt() {
        says("SALT: what ICE the PLANK (0 .. 15) had. BAD");
        IceOfApplause x = new IceOfApplause();
        x.mend(0, 6, 16);
        x.hands(1, 0);
        x.turn(0, 1);
        tell(x, "d+1");
        x.play(0);
        x.mend(0, 6, 2);
        for (int plank : new int[] {-1, 16, MIN, MAX}) {
            due("plank " + plank, x.salt(plank), BAD);
        }
        for (int plank = 0; plank < 16; plank++) {
            due("plank " + plank, x.salt(plank), plank + 1);
            due("no ICE then", x.of(plank, 10), 0);
            due("again", x.salt(plank), 0);
            if (plank < 15) {
                due("its neighbour", x.of(plank + 1, 10), plank + 2);
            }
        }
        due("no minutes", x.led(4), 1);
    }

    private static void led() {
        says("LED: TURNS (what 0), intervals (1), crossings (2), falls (3), minutes (4). BAD");
        IceOfApplause x = new IceOfApplause();
        for (int what = 0; what <= 4; what++) {
            due("what " + what + " at first", x.led(what), 0);
        }
        for (int what : new int[] {-1, 5, MIN, MAX}) {
            due("what " + what, x.led(what), BAD);
        }
        x.hands(10, 0);
        x.turn(9, 7);
        x.play(0);
        x.play(0);
        x.play(0);
        x.interval();
        x.interval();
        x.goes(2);
        x.goes(9992);
        x.goes(9992);
        x.goes(9);
        int[] led = {3, 2, 4, 2, 3 * 7 + 2 * 15 + 8 * 2 + 2 + 2 + 8 * 9};
        for (int what = 0; what <= 4; what++) {
            due("what " + what, x.led(what), led[what]);
        }
    }

    // ---- AN IMAGE

    private static void imageOfNone() {
        says("It is laid back: TURNS. STATE: there is none");
        IceOfApplause x = small();
        due("none", x.back(), STATE);
        x.play(0);
        due("none still", x.back(), STATE);
        dueIce(x, 40, 20);
        due("of one TURN", x.image(), 1);
        due("it is there", x.back(), 1);
        due("it stays there", x.back(), 1);
        IceOfApplause y = new IceOfApplause();
        due("of a new object", y.image(), 0);
        due("laid back", y.back(), 0);
    }

    private static void imageKeeps() {
        says("AN IMAGE keeps ICE, what LED tells");
        IceOfApplause x = iced(90, 80, 70);
        x.mend(0, 7, 1);
        x.mend(0, 6, 2);
        x.interval();
        x.goes(1);
        x.goes(9990);
        int[] led = new int[5];
        for (int what = 0; what < 5; what++) {
            led[what] = x.led(what);
        }
        due("TURNS", x.image(), 3);
        x.play(0);
        x.interval();
        x.goes(9);
        x.goes(9999);
        x.salt(1);
        x.salt(2);
        due("TURNS now", x.led(0), 4);
        due("TURNS then", x.back(), 3);
        for (int what = 0; what < 5; what++) {
            due("led(" + what + ")", x.led(what), led[what]);
        }
        dueIce(x, 0, 63, 70, 0);
        x.play(0);
        due("another", x.image(), 4);
        x.play(0);
        due("the later one", x.back(), 4);
        dueIce(x, 0, 62, 70, 0);
        x.play(0);
        due("TURNS now", x.led(0), 5);
        due("once more", x.back(), 4);
    }

    private static void imageKeepsNoMore() {
        says("AN IMAGE keeps ICE, what LED tells (nothing else)");
        IceOfApplause x = small();
        x.image();
        x.mend(0, 7, 5);
        x.mend(0, 0, 99);
        x.hands(1, 1);
        x.turn(1, 1);
        tell(x, "7");
        x.feed('1');
        bytes(x, 0, 0);
        x.body(3);
        x.back();
        due("WARM", x.of(0, 7), 5);
        due("HANDS", x.of(0, 0), 99);
        due("ROWS OF HANDS", x.count(0), 2);
        due("TURNS", x.count(1), 3);
        due("THE TAPE", x.count(2), 1);
        due("changes", x.count(3), 3);
        due("BODIES", x.count(4), 1);
        due("THE LAW", x.gives(0, 0), 7);
        due("SHELVES", x.element(0, 0), 0);
    }

    // ---- CHANGES

    private static void undoneLatestFirst() {
        says("CHANGES can be UNDONE, the latest first: how many may still be. STATE: none");
        IceOfApplause x = new IceOfApplause();
        due("none", x.undo(), STATE);
        x.hands(10, 1);
        x.turn(2, 3);
        int[] fresh = {11, 2, 6, 1, 3, 4, 9, 2, 16, 1};
        int[] old = new int[10];
        for (int what = 0; what < 10; what++) {
            old[what] = x.mend(0, what, fresh[what]);
            due("may be undone", x.count(3), what + 1);
        }
        for (int what = 9; what >= 0; what--) {
            due("still new, " + what, x.of(0, what), fresh[what]);
            due("still", x.undo(), what);
            due("as it was, " + what, x.of(0, what), old[what]);
            due("may be undone", x.count(3), what);
        }
        due("none any more", x.undo(), STATE);
        due("none any more", x.undo(), STATE);
        due("nothing to undo", x.count(3), 0);
        x.mend(0, 7, 9);
        x.mend(0, 7, 1);
        due("back by mend() is a change too", x.count(3), 2);
        due("the latest", x.undo(), 1);
        due("WARM", x.of(0, 7), 9);
        due("the first", x.undo(), 0);
        due("WARM", x.of(0, 7), 1);
    }

    private static void sameNumberIsNone() {
        says("telling the same number is none");
        IceOfApplause x = small();
        int many = x.count(3);
        int[] numbers = {40, 0, 5, 0, 4, 1, 2, 1, 15, 0};
        for (int what = 0; what < 10; what++) {
            due("what " + what, x.mend(0, what, numbers[what]), numbers[what]);
        }
        due("no change", x.count(3), many);
        x.mend(0, 7, 5);
        x.mend(0, 7, 5);
        due("one change", x.count(3), many + 1);
        x.undo();
        x.mend(0, 7, 1);
        due("what was undone may still be done again", x.redo(), 0);
        due("WARM", x.of(0, 7), 5);
    }

    private static void doneAgain() {
        says("DONE AGAIN: how many may still be. STATE: none");
        IceOfApplause x = new IceOfApplause();
        due("none", x.redo(), STATE);
        x.mend(0, 6, 5);
        x.mend(0, 7, 5);
        x.mend(0, 8, 5);
        due("none was undone", x.redo(), STATE);
        x.undo();
        due("one", x.redo(), 0);
        x.undo();
        x.undo();
        x.undo();
        for (int k = 0; k < 3; k++) {
            int was = x.of(0, 6 + k);
            due("still", x.redo(), 2 - k);
            due("done again, " + was, x.of(0, 6 + k), 5);
            due("may be undone", x.count(3), k + 1);
        }
        due("none any more", x.redo(), STATE);
        due("undone again", x.undo(), 2);
        due("REST", x.of(0, 8), 15);
    }

    private static void anotherCameBehind() {
        says("DONE AGAIN (as long as no other came behind)");
        IceOfApplause x = new IceOfApplause();
        x.mend(0, 6, 5);
        x.mend(0, 7, 5);
        x.mend(0, 8, 5);
        x.undo();
        x.undo();
        x.mend(0, 9, 7);
        due("none", x.redo(), STATE);
        due("two to undo", x.count(3), 2);
        due("the other", x.undo(), 1);
        due("HISSES", x.of(0, 9), 0);
        due("WARM", x.of(0, 7), 1);
        due("the other again", x.redo(), 0);
        due("HISSES", x.of(0, 9), 7);
        x.undo();
        x.undo();
        x.mend(0, 6, 5);
        due("the very same change is another, too", x.redo(), STATE);
        due("LONG", x.of(0, 6), 5);
    }

    private static void fortyAtMost() {
        says("40 at most are kept");
        for (int many = 38; many <= 43; many++) {
            IceOfApplause x = new IceOfApplause();
            for (int k = 1; k <= many; k++) {
                x.mend(0, 8, k);
                due("kept of " + k, x.count(3), Math.min(k, 40));
            }
            for (int k = Math.min(many, 40) - 1; k >= 0; k--) {
                due("still", x.undo(), k);
            }
            due("none any more", x.undo(), STATE);
            due("REST behind " + many, x.of(0, 8), many <= 40 ? 15 : many - 40);
            for (int k = Math.min(many, 40) - 1; k >= 0; k--) {
                due("again, still", x.redo(), k);
            }
            due("none any more", x.redo(), STATE);
            due("REST again", x.of(0, 8), many);
        }
    }

    private static void fortyOfEverySort() {
        says("40 at most are kept: the oldest goes");
        IceOfApplause x = new IceOfApplause();
        x.hands(0, 0);
        x.turn(0, 1);
        int[] olds = new int[53];
        for (int k = 0; k < 53; k++) {
            olds[k] = x.mend(0, whatOf(k), newOf(k));
            due("kept of " + (k + 1), x.count(3), Math.min(k + 1, 40));
        }
        for (int k = 52; k >= 13; k--) {
            due("not undone yet, " + k, x.of(0, whatOf(k)), newOf(k));
            due("still", x.undo(), k - 13);
            due("undone, " + k, x.of(0, whatOf(k)), olds[k]);
        }
        due("none any more", x.undo(), STATE);
        for (int k = 13; k < 53; k++) {
            due("still", x.redo(), 52 - k);
            due("done again, " + k, x.of(0, whatOf(k)), newOf(k));
        }
        due("none any more", x.redo(), STATE);
    }

    private static int whatOf(int k) {
        return k * 7 % 10;
    }

    /** 2 to 9, which all numbers may be; another one each time for each of them. */
    private static int newOf(int k) {
        return 2 + (k / 10 + whatOf(k) + 2) % 8;
    }

    private static void refusedIsNoChange() {
        says("what is BAD is no change; what may be done again stays so");
        IceOfApplause x = small();
        x.mend(0, 7, 5);
        x.undo();
        x.mend(0, 7, 10);
        x.mend(1, 7, 5);
        x.mend(0, 0, 100);
        x.mend(1, 0, 1);
        x.mend(0, 10, 1);
        due("as many as before", x.count(3), 1);
        due("done again", x.redo(), 0);
        due("WARM", x.of(0, 7), 5);
    }

    private static void deedsAreNone() {
        says("CHANGES (all numbers of mend()); deeds are none");
        IceOfApplause x = small();
        x.mend(0, 7, 5);
        x.undo();
        x.hands(1, 1);
        bytes(x, 0, 1, 1, 1);
        x.rows(0, 0, 1);
        x.turn(1, 1);
        tell(x, "99");
        x.play(0);
        x.interval();
        x.goes(10);
        x.image();
        x.salt(0);
        x.back();
        x.body(0);
        x.act(0, 0, 0);
        due("as many as before", x.count(3), 1);
        int ice = x.of(0, 10);
        due("done again", x.redo(), 0);
        due("undone", x.undo(), 1);
        due("LONG is undone", x.undo(), 0);
        due("no more", x.undo(), STATE);
        due("LONG", x.of(0, 6), 8);
        due("rows stay", x.count(0), 3);
        due("turns stay", x.count(1), 3);
        due("ICE stays", x.of(0, 10), ice);
        due("the law stays", x.gives(0, 0), 99);
        due("TURNS stay", x.led(0), 1);
    }
}
