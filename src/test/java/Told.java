/** What the tests by hand share: rows on shelves, laws told byte by byte, small gorges. */
abstract class Told {
    static final int MIN = Integer.MIN_VALUE, MAX = Integer.MAX_VALUE;
    static final int BAD = -1, NOT = -2, FULL = -3, STATE = -5, VOID = -2000000000;
    static final int NOTHING_THERE = -11, ANOTHER_KIND = -12, NO_PLACE = -13, NO_SIZE = -14;
    static final Check C = new Check();

    /** A call that looks at a shelf. */
    interface OnShelf {
        long of(IceOfApplause x, int shelf);
    }

    /** A call with one number that is looked at. */
    interface WithNumber {
        long of(IceOfApplause x, int number);
    }

    /** A row of bytes on a shelf. */
    static void bytes(IceOfApplause x, int shelf, int... values) {
        fill(x, shelf, 0, values);
    }

    /** A row of shorts on a shelf. */
    static void shorts(IceOfApplause x, int shelf, int... values) {
        fill(x, shelf, 1, values);
    }

    static void fill(IceOfApplause x, int shelf, int sort, int... values) {
        x.row(shelf, sort, values.length);
        for (int i = 0; i < values.length; i++) {
            x.put(shelf, i, values[i]);
        }
    }

    static int tell(IceOfApplause x, String text) {
        for (int i = 0; i < text.length(); i++) {
            x.feed(text.charAt(i));
        }
        return x.law();
    }

    /** Two planks, one row of 40 hands over plank 0, turn 0 (GOOD 4, 1 minute), turn 1 (GOOD 2, 5 minutes). */
    static IceOfApplause small() {
        IceOfApplause x = new IceOfApplause();
        x.mend(0, 6, 2);
        x.hands(40, 0);
        x.turn(4, 1);
        x.turn(2, 5);
        return x;
    }

    /** As many planks as numbers, with this ice in deed; WARM 0, row 0 without hands, turn 0 of a minute. */
    static IceOfApplause iced(int... ice) {
        IceOfApplause x = new IceOfApplause();
        x.mend(0, 6, ice.length);
        x.mend(0, 7, 0);
        x.hands(0, 0);
        x.turn(0, 1);
        tell(x, "d=0?h;0");
        for (int p = 0; p < ice.length; p++) {
            x.mend(0, 1, p);
            for (int rest = ice[p]; rest > 0; rest -= 99) {
                x.mend(0, 0, Math.min(99, rest));
                x.play(0);
            }
        }
        x.mend(0, 0, 0);
        x.mend(0, 1, 0);
        return x;
    }

    /** No ice, no thaw; turns of GOOD 0, 1, .. clapped for by a law. */
    static IceOfApplause turns(int many, String law) {
        IceOfApplause x = new IceOfApplause();
        x.mend(0, 7, 0);
        x.hands(1, 0);
        for (int k = 0; k < many; k++) {
            x.turn(k, 1);
        }
        due("law " + law, tell(x, law), 1);
        return x;
    }

    /** What a law gives: GOOD 6, HANDS 7, TASTE 3, ENVY 2, from plank 5 to plank 1, where no ice is. */
    static int worth(String text) {
        IceOfApplause x = new IceOfApplause();
        x.hands(7, 5);
        x.mend(0, 2, 3);
        x.mend(0, 3, 2);
        x.turn(6, 1);
        due("law " + text, tell(x, text), 1);
        return x.gives(0, 1);
    }

    /** A body of each kind, numbered as its kind. */
    static IceOfApplause oneOfEach() {
        IceOfApplause x = new IceOfApplause();
        for (int kind = 0; kind < 8; kind++) {
            x.body(kind);
        }
        return x;
    }

    static void says(String words) {
        C.says(words);
    }

    static void due(String call, long got, long want) {
        C.due(call, got, want);
    }

    /** ICE of planks 0 on, in deed. */
    static void dueIce(IceOfApplause x, int... ice) {
        for (int p = 0; p < ice.length; p++) {
            C.due("ICE of plank " + p, x.of(p, 10), ice[p]);
        }
    }

    /** What a call says of numbers just outside of low .. high and far from it, and of both ends. */
    static void dueWithin(String name, WithNumber call, int low, int high, long outside) {
        IceOfApplause x = small();
        C.due(name + " " + (low - 1), call.of(x, low - 1), outside);
        C.due(name + " " + (high + 1), call.of(x, high + 1), outside);
        C.due(name + " MIN", call.of(x, MIN), outside);
        C.due(name + " MAX", call.of(x, MAX), outside);
        C.holds(name + " " + low + " is as it may be", call.of(small(), low) != outside);
        C.holds(name + " " + high + " is as it may be", call.of(small(), high) != outside);
    }

    /** The refusals of a call that wants a row of a sort; each shelf, each other sort, a body, nothing. */
    static void dueOnlyOn(String name, int sort, OnShelf call) {
        IceOfApplause x = small();
        x.body(0);
        for (int shelf : new int[] {-1, 6, MIN, MAX}) {
            C.due(name + " on shelf " + shelf, call.of(x, shelf), BAD);
        }
        for (int shelf = 0; shelf < 6; shelf++) {
            C.due(name + " on nothing, shelf " + shelf, call.of(x, shelf), NOTHING_THERE);
        }
        for (int other = 0; other < 5; other++) {
            x.row(other, other, 2);
            if (other == sort) {
                C.holds(name + " on a row of sort " + other, call.of(x, other) > NOTHING_THERE);
            } else {
                C.due(name + " on a row of sort " + other, call.of(x, other), ANOTHER_KIND);
            }
        }
        x.keep(5, 0);
        C.due(name + " on a body", call.of(x, 5), ANOTHER_KIND);
        x.keep(5, -1);
        C.due(name + " on nothing again", call.of(x, 5), NOTHING_THERE);
    }
}
