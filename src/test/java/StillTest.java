import java.util.LinkedHashMap;
import java.util.Map;
import java.util.function.Supplier;

/** What is refused or asked in thought changes nothing: all that can be told of an object is as it was. */
public final class StillTest extends Told {
    /** A call that changes nothing. */
    private interface Asked {
        long of(IceOfApplause x);
    }

    private static final Map<String, Asked> CALLS = new LinkedHashMap<>();

    public static void main(String[] args) {
        says("What is answered so changes nothing");
        badOfHands();
        badOfThought();
        badOfSeen();
        badOfDeeds();
        badOfShelves();
        notThere();
        dueStill(StillTest::rich, true);
        CALLS.clear();
        fullAndState();
        dueStill(StillTest::full, true);
        CALLS.clear();
        says("in thought");
        askedInThought();
        dueStill(StillTest::rich, false);
        dueStill(StillTest::full, false);
        faultEmptiesTheTapeAlone();
        noSuchActTakesTheTraceAlone();
        memoryOfItsOwn();
        C.end();
    }

    /** Each call of an object of its own, which is then told apart from one of which nothing was asked. */
    private static void dueStill(Supplier<IceOfApplause> made, boolean refused) {
        String still = told(made.get());
        for (Map.Entry<String, Asked> call : CALLS.entrySet()) {
            IceOfApplause x = made.get();
            long once = call.getValue().of(x);
            C.holds(call.getKey() + " is refused, not " + once, !refused || isRefusal(once));
            due(call.getKey() + " asked again", call.getValue().of(x), once);
            C.holds(call.getKey() + " changes nothing", told(x).equals(still));
        }
    }

    private static boolean isRefusal(long answer) {
        return answer >= NO_SIZE && answer <= BAD || answer == VOID || answer == Long.MIN_VALUE;
    }

    /** Of all something, and of nothing all: changes to undo and to do again, an image, a tape that is no law as yet. */
    private static IceOfApplause rich() {
        IceOfApplause x = new IceOfApplause();
        x.hands(60, 1);
        x.hands(30, 4);
        x.turn(5, 10);
        x.turn(8, 3);
        x.turn(2, 1);
        tell(x, "g*h/9-i/20-e");
        int[][] changes = {{0, 6, 5}, {0, 7, 2}, {1, 3, 4}, {0, 9, 3}, {1, 1, 3}, {2, 5, 2}};
        for (int[] c : changes) {
            x.mend(c[0], c[1], c[2]);
        }
        x.undo();
        x.undo();
        x.play(0);
        x.play(1);
        x.image();
        x.play(1);
        x.goes(22);
        x.goes(9991);
        for (int kind = 0; kind < 8; kind++) {
            x.body(kind);
        }
        x.act(7, 3, 5);
        bytes(x, 0, 0, 20, 1, 2, 9, 1);
        shorts(x, 1, x.of(0, 10), 5);
        x.keep(2, 4);
        fill(x, 4, 3, 7, -8, 9);
        fill(x, 5, 4, 1, 0);
        x.feed('1');
        x.feed('+');
        return x;
    }

    /** Of all as much as may be; nothing to undo or to do again, no image. */
    private static IceOfApplause full() {
        IceOfApplause x = new IceOfApplause();
        for (int k = 0; k < 6; k++) {
            x.hands(15 * k, k);
        }
        for (int k = 0; k < 8; k++) {
            x.turn(k, 1 + k);
        }
        for (int k = 0; k < 50; k++) {
            x.body(k % 8);
        }
        bytes(x, 0, 7, 0, 3);
        shorts(x, 1, 99);
        x.row(4, 3, 1);
        x.keep(2, 49);
        x.play(5);
        for (int k = 0; k < 120; k++) {
            x.feed('7');
        }
        return x;
    }

    /** All that can be told of an object; the last of it by changes, which it does not outlive. */
    private static String told(IceOfApplause x) {
        StringBuilder all = new StringBuilder();
        for (int number = 0; number < 16; number++) {
            for (int what = number < 6 ? 0 : number < 8 ? 4 : 10; what <= 10; what++) {
                all.append(x.of(number, what)).append(' ');
            }
        }
        for (int k = 0; k < 10; k++) {
            all.append(x.count(k)).append(' ').append(x.led(k)).append(' ').append(x.trace(k)).append(' ');
            all.append(x.gives(10 * (k % 2) + k / 2 % 3, k / 2)).append(' ');
        }
        for (int shelf = 0; shelf < 6; shelf++) {
            for (int i = 0; i < 7; i++) {
                all.append(x.element(shelf, i)).append(' ');
            }
            all.append(x.taken(shelf, 0)).append(' ').append(x.ice(shelf, shelf - 4)).append(' ');
        }
        all.append(x.redo()).append(' ').append(x.redo()).append(' ').append(x.redo()).append(' ');
        for (int k = 0; k < 7; k++) {
            all.append(x.undo()).append(' ').append(x.of(k % 3, k)).append(' ');
        }
        all.append(x.feed('8')).append(' ').append(x.law()).append(' ').append(x.gives(0, 1)).append(' ');
        all.append(x.back()).append(' ').append(x.led(4)).append(' ').append(x.of(1, 10)).append(' ');
        all.append(x.play(1)).append(' ').append(x.hands(1, 1)).append(' ').append(x.body(0));
        return all.toString();
    }

    private static void badOfHands() {
        CALLS.put("hands", x -> x.hands(100, 0));
        CALLS.put("hands over", x -> x.hands(1, 16));
        CALLS.put("rows", x -> x.rows(0, 0, 7));
        CALLS.put("rows of a shelf", x -> x.rows(6, 0, 1));
        CALLS.put("rows of shorts", x -> x.rows(1, 0, 1));
        CALLS.put("rows of a body", x -> x.rows(2, 0, 1));
        CALLS.put("turn", x -> x.turn(10, 1));
        CALLS.put("turn of no minutes", x -> x.turn(1, 0));
        for (int what = -1; what < 12; what++) {
            int w = what;
            CALLS.put("mend, a number too large, " + w, x -> x.mend(0, w, 100));
            CALLS.put("mend, below 0, " + w, x -> x.mend(0, w, -1));
            CALLS.put("mend, nothing there, " + w, x -> x.mend(7, w, 5));
            CALLS.put("of, nothing there, " + w, x -> x.of(16, w));
        }
        CALLS.put("feed", x -> x.feed(256));
        CALLS.put("feed below 0", x -> x.feed(-1));
        CALLS.put("gives", x -> x.gives(70, 0));
        CALLS.put("gives on no plank", x -> x.gives(0, 16));
    }

    private static void badOfThought() {
        for (int shelf : new int[] {-1, 1, 2, 3, 6}) {
            CALLS.put("ice " + shelf, x -> x.ice(shelf, 0));
            CALLS.put("cross " + shelf, x -> x.cross(shelf, 0));
            CALLS.put("heaviest " + shelf, x -> x.heaviest(shelf, 0));
            CALLS.put("waits " + shelf, x -> x.waits(shelf, 0));
            CALLS.put("first " + shelf, x -> x.first(shelf, 0));
            CALLS.put("spare " + shelf, x -> x.spare(shelf, 0));
            CALLS.put("harm " + shelf, x -> x.harm(shelf));
            CALLS.put("seat " + shelf, x -> x.seat(shelf, 0, 0));
            CALLS.put("encore " + shelf, x -> x.encore(shelf));
            CALLS.put("claque " + shelf, x -> x.claque(shelf, 1));
        }
        CALLS.put("ice of no plank", x -> x.ice(0, 16));
        CALLS.put("cross of no weight", x -> x.cross(0, -1));
        CALLS.put("heaviest at no pace", x -> x.heaviest(0, 10));
        CALLS.put("waits of no weight", x -> x.waits(0, 10000));
        CALLS.put("first of no weight", x -> x.first(0, 10000));
        CALLS.put("order", x -> x.order(-2));
        CALLS.put("fewest", x -> x.fewest(1000, -1));
        CALLS.put("fewest k", x -> x.fewest(1, -2));
        CALLS.put("spare what", x -> x.spare(0, 2));
        CALLS.put("seat what", x -> x.seat(0, 0, 2));
        CALLS.put("seat of no row", x -> x.seat(0, 6, 0));
        CALLS.put("claque of no row", x -> x.claque(0, 6000));
    }

    private static void badOfSeen() {
        for (int ps : new int[] {-1, 0, 2, 3, 6, 11, 21, 31, 61}) {
            CALLS.put("judge " + ps, x -> x.judge(ps));
            CALLS.put("warm " + ps, x -> x.warm(ps));
        }
        for (int shelf : new int[] {-1, 0, 2, 3, 6}) {
            CALLS.put("which " + shelf, x -> x.which(shelf, 0));
            CALLS.put("good " + shelf, x -> x.good(shelf, 0, 0));
            CALLS.put("orders " + shelf, x -> x.orders(shelf, 0));
        }
        CALLS.put("which what", x -> x.which(1, 2));
        CALLS.put("good what", x -> x.good(1, 0, 2));
        CALLS.put("good of no turn", x -> x.good(1, 8, 0));
        CALLS.put("orders what", x -> x.orders(1, 2));
        CALLS.put("drawn of none", x -> x.drawn(1, 0, 0));
        CALLS.put("drawn what", x -> x.drawn(1, 101, 2));
    }

    private static void badOfDeeds() {
        CALLS.put("play", x -> x.play(8));
        CALLS.put("play below 0", x -> x.play(-1));
        CALLS.put("goes", x -> x.goes(10000));
        CALLS.put("goes below 0", x -> x.goes(-1));
        CALLS.put("salt", x -> x.salt(16));
        CALLS.put("salt below 0", x -> x.salt(-1));
        CALLS.put("led", x -> x.led(5));
    }

    private static void badOfShelves() {
        CALLS.put("body", x -> x.body(8));
        CALLS.put("trace", x -> x.trace(24));
        for (int shelf = 0; shelf < 6; shelf++) {
            int s = shelf;
            CALLS.put("keep no body on " + s, x -> x.keep(s, 50));
            CALLS.put("row of no sort on " + s, x -> x.row(s, 5, 1));
            CALLS.put("row of 61 on " + s, x -> x.row(s, 0, 61));
            CALLS.put("row of -1 on " + s, x -> x.row(s, 0, -1));
            CALLS.put("put on " + s, x -> x.put(s, 60, 1));
            CALLS.put("put below 0 on " + s, x -> x.put(s, -1, 1));
            CALLS.put("element of " + s, x -> x.element(s, 60));
            CALLS.put("too long a shift to " + s, x -> x.shift(4, 0, s, 0, 61));
            CALLS.put("a shift from behind the end of " + s, x -> x.shift(s, 61, 4, 0, 1));
            if (s != 4) {
                CALLS.put("a shift to another sort, " + s, x -> x.shift(4, 0, s, 0, 1));
                CALLS.put("a shift from another sort, " + s, x -> x.shift(s, 0, 4, 0, 1));
            }
            CALLS.put("taken of no kind on " + s, x -> x.taken(s, 8));
        }
        CALLS.put("keep on no shelf", x -> x.keep(6, 0));
        CALLS.put("row on no shelf", x -> x.row(-1, 0, 1));
        CALLS.put("put on no shelf", x -> x.put(6, 0, 1));
        CALLS.put("shift on no shelf", x -> x.shift(0, 0, 6, 0, 1));
        CALLS.put("count", x -> x.count(6));
    }

    private static void fullAndState() {
        CALLS.put("hands, FULL", x -> x.hands(1, 1));
        CALLS.put("turn, FULL", x -> x.turn(1, 1));
        CALLS.put("feed, FULL", x -> x.feed('1'));
        CALLS.put("body, FULL", x -> x.body(0));
        CALLS.put("order, STATE", x -> x.order(-1));
        CALLS.put("fewest, STATE", x -> x.fewest(1, -1));
        CALLS.put("orders, STATE", x -> x.orders(1, 0));
        CALLS.put("back, STATE", x -> x.back());
        CALLS.put("undo, STATE", x -> x.undo());
        CALLS.put("redo, STATE", x -> x.redo());
    }

    private static void notThere() {
        CALLS.put("cross, NOT", x -> x.cross(0, 0));
        CALLS.put("waits, NOT", x -> x.waits(0, 9999));
        CALLS.put("first, NOT", x -> x.first(0, 9999));
        CALLS.put("order, NOT", x -> x.order(3));
        CALLS.put("fewest, NOT", x -> x.fewest(999, -1));
        CALLS.put("fewest k, NOT", x -> x.fewest(1, 5));
        CALLS.put("claque, NOT", x -> x.claque(0, 999));
        CALLS.put("which, NOT", x -> x.which(1, 1));
        CALLS.put("good, NOT", x -> x.good(1, 0, 1));
        CALLS.put("orders, NOT", x -> x.orders(1, 1));
        CALLS.put("warm, NOT", x -> x.warm(1));
    }

    private static void askedInThought() {
        CALLS.put("of", x -> x.of(0, 0));
        CALLS.put("gives", x -> x.gives(11, 1));
        CALLS.put("ice", x -> x.ice(0, -4));
        CALLS.put("cross", x -> x.cross(0, 9995));
        CALLS.put("heaviest", x -> x.heaviest(0, 9));
        CALLS.put("waits", x -> x.waits(0, 11));
        CALLS.put("first", x -> x.first(0, 11));
        CALLS.put("order", x -> x.order(0));
        CALLS.put("fewest", x -> x.fewest(30, 0));
        CALLS.put("spare", x -> x.spare(0, 1));
        CALLS.put("harm", x -> x.harm(0));
        CALLS.put("seat", x -> x.seat(0, 1, 1));
        CALLS.put("encore", x -> x.encore(0));
        CALLS.put("claque", x -> x.claque(0, 1100));
        CALLS.put("judge", x -> x.judge(1));
        CALLS.put("which", x -> x.which(1, 0));
        CALLS.put("good", x -> x.good(1, 1, 0));
        CALLS.put("orders", x -> x.orders(1, 0));
        CALLS.put("warm", x -> x.warm(1));
        CALLS.put("drawn", x -> x.drawn(7, 1008, 0));
        CALLS.put("led", x -> x.led(4));
        CALLS.put("trace", x -> x.trace(0));
        CALLS.put("element", x -> x.element(0, 0));
        CALLS.put("taken", x -> x.taken(2, 1));
        CALLS.put("count", x -> x.count(5));
        CALLS.put("the same number", x -> x.mend(0, 8, 15));
        CALLS.put("rows of nothing", x -> x.rows(3, 0, 1));
        CALLS.put("rows from below 0 on", x -> x.rows(0, -1, 1));
        CALLS.put("nothing shifted", x -> x.shift(4, 0, 4, 1, 0));
    }

    private static void faultEmptiesTheTapeAlone() {
        says("-100 less its FAULT; THE TAPE is empty then");
        IceOfApplause x = rich();
        due("1+", x.law(), -102);
        x.feed('1');
        x.feed('+');
        C.holds("nothing else is changed", told(x).equals(told(rich())));
    }

    private static void noSuchActTakesTheTraceAlone() {
        says("0, and no TRACE then: no such BODY, ACT");
        IceOfApplause x = rich();
        due("no act 4", x.act(0, 4, 1), 0);
        due("no TRACE", x.trace(0), BAD);
        x.act(7, 3, 5);
        C.holds("nothing else is changed", told(x).equals(told(rich())));
    }

    private static void memoryOfItsOwn() {
        says("All memory is the class's own");
        IceOfApplause x = rich();
        IceOfApplause y = full();
        IceOfApplause z = rich();
        String full = told(y);
        told(z);
        for (int k = 0; k < 8; k++) {
            z.mend(0, k, 2);
            z.play(0);
        }
        C.holds("an object does not know of others", told(x).equals(told(rich())));
        C.holds("nor do those that came behind", told(full()).equals(full));
        x = rich();
        y = new IceOfApplause();
        due("a new one has no law", y.hands(60, 0) + y.turn(5, 10), 0);
        due("75 by no law", y.gives(0, 0), 75);
        due("the other by its own", x.gives(0, 1), rich().gives(0, 1));
        due("no image of another", y.back(), STATE);
        due("no trace of another", y.trace(0), BAD);
        due("no row of another", y.put(0, 0, 1), NOTHING_THERE);
    }
}
