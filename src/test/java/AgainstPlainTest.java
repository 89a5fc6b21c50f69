import java.util.Random;

/** Runs of calls drawn by seeds, each answered by the class and by PlainGorge. */
public final class AgainstPlainTest {
    private static final int RUNS = 900;
    // An object is used for 512 calls at most; a law or a programme takes no more than 150.
    private static final int LAST_BEGUN = 512 - 150;
    private static final int[] WILD = {Integer.MIN_VALUE, Integer.MAX_VALUE, -1, -2, -5, 10000, 61, 16, 100, 1000000};
    private static final Check C = new Check();

    private final Random random;
    private final IceOfApplause x = new IceOfApplause();
    private final PlainGorge y = new PlainGorge();
    private final int run;
    // How many turns a run may have: searches of many turns take PlainGorge long.
    private final int turnsAtMost;
    // Some runs go on as wrongly as may be, most of them mostly as the document asks.
    private final int wildOneIn;
    // What half of a run's calls are about, so that the few calls of a run come far in something.
    private final int theme;
    private int calls = 0;

    private AgainstPlainTest(int run) {
        this.run = run;
        random = new Random(run * 7919L + 17);
        turnsAtMost = run % 25 == 0 ? 8 : run % 5 == 0 ? 5 : 1 + random.nextInt(4);
        wildOneIn = run % 7 == 0 ? 4 : 40;
        theme = run % 6;
    }

    public static void main(String[] args) {
        for (int run = 0; run < RUNS; run++) {
            new AgainstPlainTest(run).play();
        }
        C.end();
    }

    private void play() {
        C.promise(0, "run " + run);
        while (calls <= LAST_BEGUN) {
            call(random.nextBoolean() ? random.nextInt(60) : ofTheme());
        }
        C.holds("512 calls at most, not " + calls, calls <= 512);
    }

    private int ofTheme() {
        switch (theme) {
            case 0: return random.nextInt(6) == 0 ? 45 : 4 + random.nextInt(4);
            case 1: return random.nextInt(15);
            case 2: return 15 + random.nextInt(17);
            case 3: return 32 + random.nextInt(6);
            case 4: return 38 + random.nextInt(8);
            default: return 46 + random.nextInt(14);
        }
    }

    /** A number from low to high, at times one off, at times a wild one. */
    private int number(int low, int high) {
        if (random.nextInt(wildOneIn) == 0) {
            return random.nextBoolean() ? WILD[random.nextInt(WILD.length)] : random.nextBoolean() ? low - 1 : high + 1;
        }
        return low + random.nextInt(Math.max(1, high - low + 1));
    }

    /** Shelves 0, 1 mostly hold programmes, 2, 3 what was seen. */
    private int programmeShelf() {
        return random.nextInt(10) == 0 ? number(0, 5) : random.nextInt(2);
    }

    private int seenShelf() {
        return random.nextInt(10) == 0 ? number(0, 5) : 2 + random.nextInt(2);
    }

    private int both() {
        return random.nextInt(20) == 0 ? number(0, 66) : 10 * random.nextInt(2) + 2 + random.nextInt(2);
    }

    private int weightAndPace() {
        return random.nextBoolean() ? number(0, 9999) : number(0, 1500);
    }

    private void due(String call, long got, long want) {
        calls++;
        C.due(call, got, want);
    }

    private void call(int which) {
        if (which < 15) {
            callOfHands(which);
        } else if (which < 32) {
            callOfThought(which);
        } else if (which < 46) {
            callOfDeeds(which);
        } else {
            callOfShelves(which);
        }
    }

    private void callOfHands(int which) {
        int a;
        int b;
        int c;
        switch (which) {
            case 0: case 1:
                a = number(0, 99);
                b = number(0, 15);
                due("hands " + a + " " + b, x.hands(a, b), y.hands(a, b));
                break;
            case 2:
                a = number(0, 5);
                b = number(0, 12);
                c = number(1, 6);
                due("rows " + a + " " + b + " " + c, x.rows(a, b, c), y.rows(a, b, c));
                break;
            case 3:
                if (y.count(1) < turnsAtMost || random.nextInt(30) == 0 && turnsAtMost > 5) {
                    a = number(0, 9);
                    b = number(1, 60);
                    due("turn " + a + " " + b, x.turn(a, b), y.turn(a, b));
                }
                break;
            case 4: case 5: case 6: case 7:
                mend();
                break;
            case 8:
                a = number(0, 15);
                b = number(0, 10);
                due("of " + a + " " + b, x.of(a, b), y.of(a, b));
                break;
            case 9:
                a = number(0, 255);
                due("feed " + a, x.feed(a), y.feed(a));
                break;
            case 10: case 11:
                newLaw();
                break;
            default:
                a = number(0, 55);
                b = number(0, 15);
                due("gives " + a + " " + b, x.gives(a, b), y.gives(a, b));
        }
    }

    private void mend() {
        int[] low = {0, 0, 0, 0, 0, 1, 2, 0, 1, 0};
        int[] high = {99, 15, 9, 9, 9, 60, 16, 9, 60, 12};
        int what = number(0, 9);
        int number = what > 5 ? number(0, 0) : number(0, Math.max(0, y.count(what < 4 ? 0 : 1) - 1));
        int v = what >= 0 && what < 10 ? number(low[what], high[what]) : number(0, 9);
        due("mend " + number + " " + what + " " + v, x.mend(number, what, v), y.mend(number, what, v));
    }

    private void newLaw() {
        StringBuilder text = new StringBuilder();
        int lines = 1 + random.nextInt(3);
        for (int k = 0; k < lines; k++) {
            text.append(k == 0 ? "" : ";");
            expression(text, 0, 0);
            if (random.nextInt(3) > 0 && k < lines - 1) {
                text.append('?');
                expression(text, 0, 0);
            }
        }
        if (random.nextInt(4) == 0) {
            spoil(text);
        }
        for (int k = 0; k < text.length(); k++) {
            due("feed of " + text, x.feed(text.charAt(k)), y.feed(text.charAt(k)));
        }
        due("law " + text, x.law(), y.law());
    }

    private void spoil(StringBuilder text) {
        String signs = "|&<=>+-*/%!()?;0123456789ghtedix ";
        int at = random.nextInt(text.length());
        char sign = signs.charAt(random.nextInt(signs.length()));
        switch (random.nextInt(3)) {
            case 0: text.setCharAt(at, sign); break;
            case 1: text.insert(at, sign); break;
            default: text.setLength(at);
        }
    }

    private void expression(StringBuilder text, int level, int open) {
        String[] signs = {"|", "&", "<=>", "+-", "*/%"};
        if (level == 5) {
            operand(text, open);
            return;
        }
        expression(text, level + 1, open);
        int more = random.nextInt(level > 2 ? 3 : 4) == 0 ? 1 : 0;
        for (int k = 0; k < more && text.length() < 100; k++) {
            text.append(signs[level].charAt(random.nextInt(signs[level].length())));
            expression(text, level + 1, open);
        }
    }

    private void operand(StringBuilder text, int open) {
        int kind = random.nextInt(text.length() < 80 ? 10 : 7);
        if (kind < 5) {
            text.append("ghtedi".charAt(random.nextInt(6)));
        } else if (kind < 7) {
            text.append(random.nextInt(4) == 0 ? random.nextInt(10000) : random.nextInt(12));
        } else if (open >= 6 && random.nextInt(10) > 0) {
            text.append('g');
        } else if (kind == 7) {
            text.append('(');
            expression(text, 0, open + 1);
            text.append(')');
        } else {
            text.append(kind == 8 ? '!' : '-');
            operand(text, open + 1);
        }
    }

    private void callOfThought(int which) {
        int s = programmeShelf();
        int a = weightAndPace();
        int b;
        switch (which) {
            case 15: case 16:
                b = number(-4, 15);
                due("ice " + s + " " + b, x.ice(s, b), y.ice(s, b));
                break;
            case 17:
                due("cross " + s + " " + a, x.cross(s, a), y.cross(s, a));
                break;
            case 18:
                b = number(0, 9);
                due("heaviest " + s + " " + b, x.heaviest(s, b), y.heaviest(s, b));
                break;
            case 19:
                due("waits " + s + " " + a, x.waits(s, a), y.waits(s, a));
                break;
            case 20:
                due("first " + s + " " + a, x.first(s, a), y.first(s, a));
                break;
            case 21:
                if (y.count(1) < 5 || random.nextInt(20) == 0) {
                    b = number(-1, 6);
                    due("order " + b, x.order(b), y.order(b));
                }
                break;
            case 22:
                if (y.count(1) < 4 || y.count(1) > 5 || random.nextInt(20) == 0) {
                    a = number(0, random.nextBoolean() ? 999 : 200);
                    b = number(-1, 5);
                    due("fewest " + a + " " + b, x.fewest(a, b), y.fewest(a, b));
                }
                break;
            case 23:
                b = number(0, 1);
                due("spare " + s + " " + b, x.spare(s, b), y.spare(s, b));
                break;
            case 24: case 25:
                due("harm " + s, x.harm(s), y.harm(s));
                break;
            case 26:
                a = number(0, Math.max(0, y.count(0) - 1));
                b = number(0, 1);
                due("seat " + s + " " + a + " " + b, x.seat(s, a, b), y.seat(s, a, b));
                break;
            case 27: case 28:
                due("encore " + s, x.encore(s), y.encore(s));
                break;
            default:
                a = random.nextInt(10) == 0 ? number(0, 5999)
                    : 1000 * random.nextInt(Math.max(1, y.count(0))) + random.nextInt(300);
                due("claque " + s + " " + a, x.claque(s, a), y.claque(s, a));
        }
    }

    private void callOfDeeds(int which) {
        int s = seenShelf();
        int a;
        int b;
        int c;
        switch (which) {
            case 32:
                a = both();
                due("judge " + a, x.judge(a), y.judge(a));
                break;
            case 33:
                a = number(0, 1);
                due("which " + s + " " + a, x.which(s, a), y.which(s, a));
                break;
            case 34:
                a = number(0, Math.max(0, y.count(1) - 1));
                b = number(0, 1);
                due("good " + s + " " + a + " " + b, x.good(s, a, b), y.good(s, a, b));
                break;
            case 35:
                if (y.count(1) < 5 || y.count(1) > 6 || random.nextInt(20) == 0) {
                    a = number(0, 1);
                    due("orders " + s + " " + a, x.orders(s, a), y.orders(s, a));
                }
                break;
            case 36:
                a = both();
                due("warm " + a, x.warm(a), y.warm(a));
                break;
            case 37:
                a = random.nextInt();
                b = random.nextInt(10) == 0 ? number(0, 4000) : 100 * number(1, 30) + number(1, 20);
                c = number(0, 1);
                due("drawn " + a + " " + b + " " + c, x.drawn(a, b, c), y.drawn(a, b, c));
                break;
            case 38: case 39:
                a = number(0, Math.max(0, y.count(1) - 1));
                due("play " + a, x.play(a), y.play(a));
                break;
            case 40:
                due("interval", x.interval(), y.interval());
                break;
            case 41:
                a = weightAndPace();
                due("goes " + a, x.goes(a), y.goes(a));
                break;
            case 42:
                a = number(0, 15);
                due("salt " + a, x.salt(a), y.salt(a));
                break;
            case 43:
                a = number(0, 4);
                due("led " + a, x.led(a), y.led(a));
                break;
            case 44:
                if (random.nextBoolean()) {
                    due("image", x.image(), y.image());
                } else {
                    due("back", x.back(), y.back());
                }
                break;
            default:
                if (random.nextBoolean()) {
                    due("undo", x.undo(), y.undo());
                } else {
                    due("redo", x.redo(), y.redo());
                }
        }
    }

    private void callOfShelves(int which) {
        int s = number(0, 5);
        int a;
        int b;
        int c;
        int d;
        switch (which) {
            case 46:
                a = number(0, 7);
                due("body " + a, x.body(a), y.body(a));
                break;
            case 47: case 48:
                a = number(0, Math.max(0, y.count(4) - 1));
                b = number(0, 3);
                c = random.nextBoolean() ? random.nextInt() : random.nextInt(20);
                due("act " + a + " " + b + " " + c, x.act(a, b, c), y.act(a, b, c));
                break;
            case 49:
                a = number(0, 10);
                due("trace " + a, x.trace(a), y.trace(a));
                break;
            case 50:
                a = number(-1, Math.max(0, y.count(4) - 1));
                due("keep " + s + " " + a, x.keep(s, a), y.keep(s, a));
                break;
            case 51:
                a = number(0, 4);
                b = number(0, random.nextBoolean() ? 60 : 10);
                due("row " + s + " " + a + " " + b, x.row(s, a, b), y.row(s, a, b));
                break;
            case 52:
                a = number(0, 20);
                long v = random.nextBoolean() ? random.nextLong() : random.nextInt(21);
                due("put " + s + " " + a + " " + v, x.put(s, a, v), y.put(s, a, v));
                break;
            case 53:
                a = number(0, 20);
                due("element " + s + " " + a, x.element(s, a), y.element(s, a));
                break;
            case 54:
                a = number(0, 10);
                b = number(0, 5);
                c = number(0, 10);
                d = number(0, 10);
                due("shift " + s + " " + a + " " + b + " " + c + " " + d, x.shift(s, a, b, c, d),
                    y.shift(s, a, b, c, d));
                break;
            case 55:
                a = number(0, 7);
                due("taken " + s + " " + a, x.taken(s, a), y.taken(s, a));
                break;
            case 56:
                a = number(0, 5);
                due("count " + a, x.count(a), y.count(a));
                break;
            case 57: case 58:
                newProgramme();
                break;
            default:
                seeSomething();
        }
    }

    private void newProgramme() {
        int s = random.nextInt(2);
        int n = random.nextInt(4) == 0 ? random.nextInt(30) : random.nextInt(8);
        due("row of bytes", x.row(s, 0, n), y.row(s, 0, n));
        for (int k = 0; k < n; k++) {
            int sign = random.nextInt(5) == 0 ? 20 : random.nextInt(20) == 0 ? number(0, 20)
                : random.nextInt(Math.max(1, y.count(1)));
            due("put", x.put(s, k, sign), y.put(s, k, sign));
        }
    }

    /** Ice behind one byte or a programme is put on a shelf, so that what was seen can be read back. */
    private void seeSomething() {
        int s = 2 + random.nextInt(2);
        int n = random.nextInt(3) == 0 ? random.nextInt(18) : 1 + random.nextInt(3);
        due("row of shorts", x.row(s, 1, n), y.row(s, 1, n));
        int from = random.nextInt(2);
        for (int k = 0; k < n && k < y.of(0, 6); k++) {
            int ice = y.ice(from, k) < 0 ? 0 : y.ice(from, k);
            due("put", x.put(s, k, ice), y.put(s, k, ice));
        }
        if (random.nextInt(5) == 0) {
            due("put", x.put(s, 0, 7), y.put(s, 0, 7));
        }
    }
}
