/** The edges that part 1 of the document's terms and promises 1 to 9 name, sentence by sentence. */
public final class EdgesHandsTest extends Told {
    public static void main(String[] args) {
        longOfTheBridge();
        planksThatAreThere();
        iceFromNoneTo999();
        planksBeyondLong();
        rowsOfHandsAsTheyCome();
        numbersOfRowsOfHands();
        overThereOrNot();
        turnsAsTheyCome();
        warmAndRest();
        tapeOf120();
        linesOfALaw();
        firstLineThatCounts();
        numbersOfALaw();
        namesOfALaw();
        openAtOnce();
        intsThatWrap();
        signsOfALaw();
        oneComparison();
        faults();
        heldWithin99();
        withoutAText();
        minutesPass();
        turnThawsThenClaps();
        allClapTogether();
        newHandsAndTurnsClap();
        endsOfAProgramme();
        twentyBytesAtMost();
        fromNowInThought();
        fullAndBad();
        rowsFromARow();
        rowsEndWhereTheyAreNot();
        mendIsBad();
        ofPlanks();
        givesIsVoid();
        C.end();
    }

    // ---- THE BRIDGE

    private static void longOfTheBridge() {
        says("LONG 2 .. 16; 8 at first");
        IceOfApplause x = new IceOfApplause();
        due("at first", x.of(0, 6), 8);
        due("1", x.mend(0, 6, 1), BAD);
        due("17", x.mend(0, 6, 17), BAD);
        due("still", x.of(0, 6), 8);
        due("2", x.mend(0, 6, 2), 8);
        due("16", x.mend(0, 6, 16), 2);
        due("16 now", x.of(0, 6), 16);
    }

    private static void planksThatAreThere() {
        says("PLANKS 0 .. LONG less 1");
        IceOfApplause x = small();
        bytes(x, 0, 0);
        due("gives on 1 of 2", x.gives(0, 1), 20);
        due("gives on 2 of 2", x.gives(0, 2), VOID);
        due("ice of 1 of 2", x.ice(0, 1), 20);
        due("ice of 2 of 2", x.ice(0, 2), BAD);
        x.mend(0, 6, 16);
        due("gives on 15 of 16: 160 by 16, by 4", x.gives(0, 15), 2);
        due("gives on 16 of 16", x.gives(0, 16), VOID);
        due("ice of 15 of 16", x.ice(0, 15), 2);
        due("ice of 16 of 16", x.ice(0, 16), BAD);
        due("heaviest by the last of 16", x.heaviest(0, 0), 2);
        due("thinnest of 16: 13 to 15 have 2", x.ice(0, -3), 13);
    }

    private static void iceFromNoneTo999() {
        says("ICE (0 .. 999; 0 at first)");
        dueIce(new IceOfApplause(), 0, 0, 0, 0, 0, 0, 0, 0, 0, 0, 0, 0, 0, 0, 0, 0);
        IceOfApplause x = iced(998, 999, 900);
        tell(x, "1");
        bytes(x, 0, 0);
        due("999 in thought", x.ice(0, 0), 999);
        due("no 1000 in thought", x.ice(0, 1), 999);
        x.play(0);
        dueIce(x, 999, 999, 901);
        tell(x, "99");
        due("no 1000", x.play(0), 999);
        tell(x, "-1");
        due("nothing is kept above 999", x.play(0), 998);
        x = iced(98, 99, 100);
        tell(x, "-99");
        bytes(x, 0, 0);
        due("none below 0 in thought", x.ice(0, 0), 0);
        x.play(0);
        dueIce(x, 0, 0, 1);
        x.play(0);
        tell(x, "1");
        due("nothing is owed below 0", x.play(0), 1);
    }

    private static void planksBeyondLong() {
        says("PLANKS beyond LONG keep theirs");
        IceOfApplause x = iced(100, 200, 30);
        x.mend(0, 7, 1);
        x.mend(0, 6, 2);
        tell(x, "5");
        x.play(0);
        dueIce(x, 104, 204, 30);
        x.interval();
        dueIce(x, 89, 189, 30);
        due("crosses two planks", x.goes(801), NOT);
        dueIce(x, 87, 187, 30);
        bytes(x, 0, 0, 20, 0);
        due("what is beyond carries nobody", x.heaviest(0, 0), 87 - 1 + 5 - 15 - 1 + 5);
        x.image();
        x.salt(2);
        due("salt beyond LONG", x.of(2, 10), 0);
        x.back();
        due("an image keeps what is beyond", x.of(2, 10), 30);
        x.mend(0, 6, 3);
        due("there again, clapped and thawed in thought", x.ice(0, 2), 30 - 1 + 5 - 15 - 1 + 5);
        due("there again", x.heaviest(0, 0), 23);
    }

    // ---- ROWS OF HANDS, TURNS

    private static void rowsOfHandsAsTheyCome() {
        says("ROWS OF HANDS 0 .. 5, as they come");
        IceOfApplause x = new IceOfApplause();
        for (int k = 0; k < 6; k++) {
            due("row " + k, x.hands(10 + k, 2 * k), k);
        }
        due("a seventh", x.hands(1, 1), FULL);
        for (int k = 0; k < 6; k++) {
            due("HANDS of " + k, x.of(k, 0), 10 + k);
            due("OVER of " + k, x.of(k, 1), 2 * k);
            due("TASTE of " + k + " at first", x.of(k, 2), 5);
            due("ENVY of " + k + " at first", x.of(k, 3), 0);
        }
        due("no row 6", x.of(6, 0), BAD);
    }

    private static void numbersOfRowsOfHands() {
        says("HANDS (0 .. 99), OVER (a PLANK's number 0 .. 15), TASTE (0 .. 9), ENVY (0 .. 9)");
        dueWithin("hands, HANDS", (x, v) -> x.hands(v, 0), 0, 99, BAD);
        dueWithin("hands, OVER", (x, v) -> x.hands(1, v), 0, 15, BAD);
        dueWithin("mend, HANDS", (x, v) -> x.mend(0, 0, v), 0, 99, BAD);
        dueWithin("mend, OVER", (x, v) -> x.mend(0, 1, v), 0, 15, BAD);
        dueWithin("mend, TASTE", (x, v) -> x.mend(0, 2, v), 0, 9, BAD);
        dueWithin("mend, ENVY", (x, v) -> x.mend(0, 3, v), 0, 9, BAD);
        says("GOOD (0 .. 9), LASTS (1 .. 60 minutes)");
        dueWithin("turn, GOOD", (x, v) -> x.turn(v, 1), 0, 9, BAD);
        dueWithin("turn, LASTS", (x, v) -> x.turn(1, v), 1, 60, BAD);
        dueWithin("mend, GOOD", (x, v) -> x.mend(1, 4, v), 0, 9, BAD);
        dueWithin("mend, LASTS", (x, v) -> x.mend(1, 5, v), 1, 60, BAD);
        says("WARM (0 .. 9), REST (1 .. 60), HISSES (0 .. 12), LONG 2 .. 16");
        dueWithin("mend, LONG", (x, v) -> x.mend(0, 6, v), 2, 16, BAD);
        dueWithin("mend, WARM", (x, v) -> x.mend(0, 7, v), 0, 9, BAD);
        dueWithin("mend, REST", (x, v) -> x.mend(0, 8, v), 1, 60, BAD);
        dueWithin("mend, HISSES", (x, v) -> x.mend(0, 9, v), 0, 12, BAD);
    }

    private static void overThereOrNot() {
        says("OVER (a PLANK's number 0 .. 15, there or not)");
        IceOfApplause x = small();
        due("over 15 of 2", x.hands(99, 15), 1);
        due("from 15 to 1: 396 by 15, by 4", x.gives(10, 1), 6);
        due("from 15 to 0: 396 by 16, by 4", x.gives(10, 0), 6);
        due("mended to 14", x.mend(1, 1, 14), 15);
        due("from 14 to 1: 396 by 14, by 4", x.gives(10, 1), 7);
    }

    private static void turnsAsTheyCome() {
        says("TURNS 0 .. 7, as they come");
        IceOfApplause x = new IceOfApplause();
        for (int k = 0; k < 8; k++) {
            due("turn " + k, x.turn(k + 1, 10 + k), k);
        }
        due("a ninth", x.turn(1, 1), FULL);
        for (int k = 0; k < 8; k++) {
            due("GOOD of " + k, x.of(k, 4), k + 1);
            due("LASTS of " + k, x.of(k, 5), 10 + k);
        }
        due("no turn 8", x.of(8, 4), BAD);
        bytes(x, 0, 7, 8, 0);
        due("8 of a programme is none", x.ice(0, -1), 1);
        due("turn 7 lasts", x.ice(0, -2), 17);
        due("turn 7 is played", x.play(7), 0);
        due("turn 8 is not", x.play(8), BAD);
    }

    private static void warmAndRest() {
        says("WARM (0 .. 9; 1 at first)");
        IceOfApplause x = new IceOfApplause();
        due("at first", x.of(0, 7), 1);
        x = iced(500, 500);
        x.interval();
        dueIce(x, 500, 500);
        x.mend(0, 7, 9);
        x.interval();
        dueIce(x, 365, 365);
        says("REST (1 .. 60; 15 at first)");
        due("at first", x.of(0, 8), 15);
        x.mend(0, 7, 1);
        x.mend(0, 8, 1);
        x.interval();
        dueIce(x, 364, 364);
        x.mend(0, 8, 60);
        x.interval();
        dueIce(x, 304, 304);
        due("minutes of 1 and 60", x.led(4), 12 + 15 + 15 + 1 + 60);
    }

    // ---- THE LAW

    private static void dueWorth(String text, int want) {
        due(text, worth(text), want);
    }

    private static void dueFault(String text, int place) {
        IceOfApplause x = new IceOfApplause();
        due("law " + text, tell(x, text), -100 - place);
        due("THE TAPE behind " + text, x.count(2), 0);
    }

    private static void tapeOf120() {
        says("THE TAPE (at most 120 bytes)");
        IceOfApplause x = new IceOfApplause();
        x.hands(7, 5);
        x.turn(6, 1);
        for (int k = 1; k <= 120; k++) {
            due("feed", x.feed(k == 1 || k % 2 == 0 ? '1' : '+'), k);
        }
        due("one more", x.feed('1'), FULL);
        due("not a byte", x.feed(256), BAD);
        due("11 and 59 ones", x.law(), 1);
        due("as much", x.gives(0, 0), 70);
        due("there is room again", x.feed('1'), 1);
        due("as many steps as may be", tell(new IceOfApplause(), "g?g;".repeat(29) + "-g+g"), 1);
        dueWorth("0?g;".repeat(29) + "-g+h", 1);
        says("FAULT: the length, if it ends too early");
        dueFault("1+".repeat(60), 120);
        says("FAULT: the place of the first byte with which no TEXT goes on");
        dueFault("1+".repeat(59) + "1)", 119);
        says("A byte (0 .. 255)");
        dueWithin("feed", (y, v) -> y.feed(v), 0, 255, BAD);
    }

    private static void linesOfALaw() {
        says("LINES, one or more, parted by ;");
        dueFault("", 0);
        dueFault(";", 0);
        dueFault("1;", 2);
        dueFault("1;;1", 2);
        dueFault(";1", 0);
        dueWorth("8", 8);
        dueWorth("8;9", 8);
        due("sixty lines", worth("0?1;".repeat(29) + "4;5"), 4);
        says("LINE: E, or E ? E");
        dueFault("?", 0);
        dueFault("1?", 2);
        dueFault("1?;2", 2);
        dueFault("1?2?3", 3);
        dueFault("(1?2)", 2);
        dueFault("(1;2)", 2);
        dueWorth("1?0|5", 1);
        dueWorth("1?((((((5))))))", 5);
        dueWorth("0|3?6", 6);
        says("No blanks");
        dueFault(" 1", 0);
        dueFault("1 ", 1);
        dueFault("1 +2", 1);
        dueFault("1\n", 1);
    }

    private static void firstLineThatCounts() {
        says("The first LINE without a first E, or whose first E is not 0, counts; none: 0");
        dueWorth("1?7", 7);
        dueWorth("0?7", 0);
        dueWorth("0?7;0?8", 0);
        dueWorth("0?7;2?8;9", 8);
        dueWorth("0?7;-1?8", 8);
        dueWorth("0-1?8", 8);
        dueWorth("9;1?7", 9);
        dueWorth("1?0;9", 0);
        dueWorth("g<h?h;g", 7);
        dueWorth("g>h?h;g", 6);
    }

    private static void numbersOfALaw() {
        says("a number (1 to 4 digits)");
        dueWorth("0", 0);
        dueWorth("9", 9);
        dueWorth("12", 12);
        dueWorth("0007", 7);
        dueWorth("123-100", 23);
        dueWorth("9999-9989", 10);
        dueWorth("1000=999+1", 1);
        dueFault("12345", 4);
        dueFault("00000", 4);
        dueFault("1+12345", 6);
    }

    private static void namesOfALaw() {
        says("NAMES: g GOOD, h HANDS, t TASTE, e ENVY");
        dueWorth("g*10+h", 67);
        dueWorth("t*10+e", 32);
        says("d by how many PLANKS OVER is from the PLANK (without sign)");
        IceOfApplause x = new IceOfApplause();
        x.mend(0, 6, 16);
        x.hands(1, 15);
        x.hands(1, 0);
        x.hands(1, 7);
        x.turn(1, 1);
        tell(x, "d");
        due("15 to 0", x.gives(0, 0), 15);
        due("15 to 15", x.gives(0, 15), 0);
        due("0 to 15", x.gives(10, 15), 15);
        due("7 to 5", x.gives(20, 5), 2);
        due("7 to 9", x.gives(20, 9), 2);
        says("i the ICE that is there");
        x = iced(3, 0);
        tell(x, "i*2");
        due("on 0", x.gives(0, 0), 6);
        due("on 1", x.gives(0, 1), 0);
        bytes(x, 0, 0, 0);
        due("in thought it is the ice then", x.ice(0, 0), 3 * 3 * 3);
        due("now it is as it was", x.gives(0, 0), 6);
    }

    private static void openAtOnce() {
        says("At most 6 of ( ! - ahead of an O are open at once");
        dueWorth("((((((5))))))", 5);
        dueWorth("!!!!!!5", 1);
        dueWorth("------5", 5);
        dueWorth("(!-(!-5))", 1);
        dueWorth("(((((-5)))))", -5);
        dueFault("(((((((5)))))))", 6);
        dueFault("!!!!!!!5", 6);
        dueFault("-------5", 6);
        dueFault("((((((-5))))))", 6);
        dueFault("((((((!5))))))", 6);
        dueFault("------(5)", 6);
        dueFault("!!!!!!(5)", 6);
        dueFault("(-!(-!(", 6);
        says("open at once: what is closed is not open any more");
        dueWorth("((((((1))))))+((((((2))))))", 3);
        dueWorth("------1-------2", -1);
        dueFault("------1--------2", 14);
        dueWorth("(-(-(-1)))+(-(-(-2)))", -3);
        dueWorth("((((((1)+1)+1)+1)+1)+1)", 6);
        dueWorth("(-1-1-1-1-1-1-1-1)", -8);
        dueFault("((((((1)+(1))))))+(((((((1", 24);
        dueFault("((((((1+-1))))))", 8);
        dueFault("((((((1*(1))))))", 8);
        dueWorth("(((((1+-1)))))", 0);
    }

    private static void intsThatWrap() {
        says("Ints that wrap");
        String two31 = "1024*1024*2048";
        dueWorth(two31 + "<0", 1);
        dueWorth(two31 + "-1>0", 1);
        dueWorth(two31 + "-1+1<0", 1);
        dueWorth(two31 + "*2", 0);
        dueWorth("9999*9999*9999%97", 9999 * 9999 * 9999 % 97);
        dueWorth("-(" + two31 + ")<0", 1);
        dueWorth(two31 + "/-1<0", 1);
        dueWorth(two31 + "%-1", 0);
        says("/ and % toward 0, by 0 they give 0");
        dueWorth("7/2", 3);
        dueWorth("-7/2", -3);
        dueWorth("7/-2", -3);
        dueWorth("-7/-2", 3);
        dueWorth("7%4", 3);
        dueWorth("-7%4", -3);
        dueWorth("7%-4", 3);
        dueWorth("-7%-4", -3);
        dueWorth("5/0", 0);
        dueWorth("5%0", 0);
        dueWorth("-5/0+7", 7);
        dueWorth("5/(2-2)+5%(g-6)", 0);
        says("all is worked out");
        dueWorth("0&5/0", 0);
        dueWorth("1|5%0", 1);
        dueWorth("0?1/0;3", 3);
    }

    private static void signsOfALaw() {
        says("| & < = > ! give 1, 0");
        dueWorth("5|7", 1);
        dueWorth("0|7", 1);
        dueWorth("7|0", 1);
        dueWorth("0|0", 0);
        dueWorth("-1|0", 1);
        dueWorth("5&7", 1);
        dueWorth("5&-7", 1);
        dueWorth("0&7", 0);
        dueWorth("7&0", 0);
        dueWorth("2&1", 1);
        dueWorth("!0", 1);
        dueWorth("!7", 0);
        dueWorth("!-1", 0);
        dueWorth("!!7", 1);
        dueWorth("2<3", 1);
        dueWorth("3<3", 0);
        dueWorth("-3<2", 1);
        dueWorth("3=3", 1);
        dueWorth("3=2", 0);
        dueWorth("3>2", 1);
        dueWorth("3>3", 0);
        dueWorth("2>-3", 1);
        says("E = A { | A }. A = B { & B }. B = S < S. S = P { + P }. P = O { * O }");
        dueWorth("1|0&0", 1);
        dueWorth("0&0|1", 1);
        dueWorth("2&3<1", 0);
        dueWorth("3<1&0", 0);
        dueWorth("1<1+1", 1);
        dueWorth("2+2<3", 0);
        dueWorth("1+7%4", 4);
        dueWorth("8-6/2", 5);
        dueWorth("2+3*4", 14);
        dueWorth("8%3*2", 4);
        dueWorth("8*3%5", 4);
        dueWorth("9/2*2", 8);
        dueWorth("9-2-3", 4);
        dueWorth("9-2+3", 10);
        dueWorth("2*(3|0)", 2);
        dueWorth("-2*3", -6);
        dueWorth("-2+3", 1);
        dueWorth("!0+1", 2);
        dueWorth("2*-3", -6);
        dueWorth("2*!0", 2);
    }

    private static void oneComparison() {
        says("B = S, or S < S, S = S, S > S");
        dueFault("1<2<3", 3);
        dueFault("1=2=3", 3);
        dueFault("1>2=3", 3);
        dueFault("1<2&1<2<3", 7);
        dueFault("(1<2<3)", 4);
        dueWorth("(1<2)<3", 1);
        dueWorth("1<(2<3)", 0);
        dueWorth("1<2&2<3|3<2", 1);
        dueWorth("1<2?2<3;3<4", 1);
        dueWorth("(1<2)=(2<3)", 1);
    }

    private static void faults() {
        says("FAULT: the place (from 0) of the first byte with which no TEXT goes on");
        for (int letter : new int[] {0, 9, 32, '.', ',', 'G', 'a', 'z', '[', '^', '~', 127, 128, 200, 255}) {
            dueFault(String.valueOf((char) letter), 0);
            dueFault("g" + (char) letter, 1);
            dueFault("1+" + (char) letter, 2);
        }
        for (String sign : new String[] {"|", "&", "<", "=", ">", "+", "*", "/", "%", "?", ";", ")"}) {
            dueFault(sign, 0);
            dueFault("(" + sign, 1);
            dueFault("!" + sign, 1);
            dueFault("-" + sign, 1);
            dueFault("1*" + sign, 2);
        }
        for (String sign : new String[] {"!", "(", "g", "h", "t", "e", "d", "i"}) {
            dueFault("g" + sign, 1);
            dueFault("1" + sign, 1);
            dueFault("(1)" + sign, 3);
        }
        dueFault("g1", 1);
        dueFault("(1)1", 3);
        dueFault("1)", 1);
        dueFault("(1))", 3);
        says("the length, if it ends too early");
        for (String text : new String[] {"(", "!", "-", "1+", "1|", "1&", "1<", "1?", "1;", "(1", "((1)", "1?2;", "1-"}) {
            dueFault(text, text.length());
        }
        says("THE TAPE becomes THE LAW: 1; -100 less its FAULT; THE TAPE is empty then");
        IceOfApplause x = small();
        due("a fault", tell(x, "9)"), -101);
        due("no law yet", x.gives(0, 0), 40);
        due("a law", tell(x, "9"), 1);
        due("empty", x.count(2), 0);
        due("by it", x.gives(0, 0), 9);
        due("an empty tape is no law", x.law(), -100);
        due("as it was", x.gives(0, 0), 9);
        due("a fault behind a law", tell(x, "0?3;i+"), -106);
        due("as it was", x.gives(0, 1), 9);
        due("another law", tell(x, "d"), 1);
        due("by it", x.gives(0, 1), 1);
        due("no change that is undone", x.count(3), 1);
    }

    private static void heldWithin99() {
        says("held within -99 .. 99");
        dueWorth("98", 98);
        dueWorth("99", 99);
        dueWorth("100", 99);
        dueWorth("9999*9999", 99);
        dueWorth("-98", -98);
        dueWorth("-99", -99);
        dueWorth("-100", -99);
        dueWorth("1024*1024*2048", -99);
        dueWorth("1024*1024*2048-1", 99);
        IceOfApplause x = iced(500, 500);
        x.hands(0, 0);
        tell(x, "100");
        due("each row is held, not both together", x.play(0), 698);
        tell(x, "-100");
        due("below, too", x.play(0), 500);
    }

    private static void withoutAText() {
        says("Without a text: g less e, times h, by d and 1 together, by 4 (cut each time)");
        IceOfApplause x = new IceOfApplause();
        x.hands(3, 0);
        x.turn(1, 1);
        due("3 by 4", x.gives(0, 0), 0);
        x.mend(0, 3, 2);
        due("-3 by 4 is cut toward 0", x.gives(0, 0), 0);
        x.mend(0, 0, 5);
        due("-5 by 4", x.gives(0, 0), -1);
        due("-5 by 2, by 4", x.gives(0, 1), 0);
        x.mend(0, 3, 0);
        x.mend(0, 0, 79);
        due("79 by 2, by 4: 39 by 4", x.gives(0, 1), 9);
        due("79 by 8, by 4", x.gives(0, 7), 2);
        x.mend(0, 4, 9);
        x.mend(0, 0, 44);
        due("396 by 4", x.gives(0, 0), 99);
        x.mend(0, 0, 99);
        due("held within 99", x.gives(0, 0), 99);
        x.mend(0, 3, 9);
        due("g like e", x.gives(0, 0), 0);
        x.mend(0, 4, 0);
        due("held within -99", x.gives(0, 0), -99);
    }

    // ---- minutes, turns, programmes

    private static void minutesPass() {
        says("each PLANK has WARM less each minute (0 at least)");
        IceOfApplause x = iced(46, 45, 44, 0);
        x.mend(0, 7, 3);
        bytes(x, 0, 20);
        due("46 less 45", x.ice(0, 0), 1);
        due("45 less 45", x.ice(0, 1), 0);
        due("44 less 45", x.ice(0, 2), 0);
        due("0 less 45", x.ice(0, 3), 0);
        bytes(x, 0, 20, 20);
        due("twice", x.ice(0, 0), 0);
        x.interval();
        dueIce(x, 1, 0, 0, 0);
        tell(x, "50");
        x.play(0);
        dueIce(x, 50, 50, 50, 50);
    }

    private static void turnThawsThenClaps() {
        says("LASTS minutes pass, then all ROWS OF HANDS clap");
        IceOfApplause x = iced(5, 999);
        x.mend(0, 7, 1);
        x.mend(0, 5, 10);
        tell(x, "20");
        bytes(x, 0, 0);
        due("0 at least, then 20", x.ice(0, 0), 20);
        due("989, then 20, 999 at most", x.ice(0, 1), 999);
        x.play(0);
        dueIce(x, 20, 999);
        tell(x, "i");
        due("i behind the minutes", x.play(0), 20);
    }

    private static void allClapTogether() {
        says("each PLANK's ICE is more by what all of them give, all by the ICE as it was then, together");
        IceOfApplause x = iced(990, 5);
        x.mend(0, 0, 40);
        x.hands(60, 0);
        tell(x, "h=40?99;-99");
        x.play(0);
        dueIce(x, 990, 5);
        tell(x, "h=40?-99;99");
        x.play(0);
        dueIce(x, 990, 5);
        x.salt(1);
        tell(x, "i=0?10;50");
        x.play(0);
        dueIce(x, 999, 20);
        IceOfApplause y = new IceOfApplause();
        y.turn(9, 1);
        due("no ROWS OF HANDS: nothing", y.play(0), 0);
        tell(y, "99");
        due("nothing by a law, too", y.play(0), 0);
        for (int k = 0; k < 6; k++) {
            y.hands(0, 0);
        }
        due("all six", y.play(0), 594);
    }

    private static void newHandsAndTurnsClap() {
        says("all ROWS OF HANDS clap (those that came later, too)");
        IceOfApplause x = small();
        bytes(x, 0, 0);
        due("one row", x.ice(0, 0), 40);
        x.hands(20, 0);
        due("two rows", x.ice(0, 0), 60);
        bytes(x, 1, 10, 0, 0);
        x.rows(1, 0, 1);
        due("three rows", x.ice(0, 0), 70);
        x.turn(1, 1);
        bytes(x, 0, 2);
        due("another turn: 10, 5, 2", x.ice(0, 0), 17);
        tell(x, "1");
        due("another law", x.ice(0, 0), 3);
    }

    private static void endsOfAProgramme() {
        says("0 .. 7 a TURN, 20 an INTERVAL, anything else (a TURN that is none, too) ends it");
        IceOfApplause x = small();
        for (int end : new int[] {2, 3, 7, 8, 9, 10, 19, 21, 22, 40, 127, -1, -2, -20, -128}) {
            bytes(x, 0, 0, end, 0);
            due("ended by " + end, x.ice(0, -1), 1);
        }
        bytes(x, 0, 0, 256, 0);
        due("256 is 0 there", x.ice(0, -1), 3);
        bytes(x, 0, 0, 276, 0);
        due("276 is 20 there", x.ice(0, -2), 17);
        bytes(x, 0, 2, 0, 0);
        due("ended at once", x.ice(0, -1), 0);
        due("no minutes", x.ice(0, -2), 0);
        bytes(x, 0);
        due("a row of no bytes", x.ice(0, -1), 0);
        bytes(x, 0, 20, 20);
        due("intervals alone", x.ice(0, -1), 2);
        for (int k = 2; k < 8; k++) {
            x.turn(1, k);
        }
        bytes(x, 0, 0, 1, 2, 3, 4, 5, 6, 7, 8, 0);
        due("eight turns", x.ice(0, -1), 8);
        due("and their minutes", x.ice(0, -2), 1 + 5 + 2 + 3 + 4 + 5 + 6 + 7);
    }

    private static void twentyBytesAtMost() {
        says("20 bytes at most");
        IceOfApplause x = small();
        for (int n : new int[] {19, 20, 21, 60}) {
            x.row(0, 0, n);
            due(n + " bytes", x.ice(0, -1), Math.min(n, 20));
            due(n + " bytes, minutes", x.ice(0, -2), Math.min(n, 20));
            due(n + " bytes, ice", x.ice(0, 1), 20 * Math.min(n, 20) - Math.min(n, 20) + 1);
        }
        x.row(0, 0, 21);
        x.put(0, 20, 9);
        due("the 21st is not looked at", x.ice(0, -1), 20);
        x.put(0, 19, 9);
        due("the 20th is", x.ice(0, -1), 19);
    }

    private static void fromNowInThought() {
        says("from now, in thought");
        IceOfApplause x = small();
        bytes(x, 0, 0);
        due("from no ice", x.ice(0, 0), 40);
        x.play(0);
        due("from now", x.ice(0, 0), 79);
        due("once more from now", x.ice(0, 0), 79);
        dueIce(x, 40, 20);
        due("no deed", x.led(0), 1);
        due("no minutes", x.led(4), 1);
        bytes(x, 0);
        due("behind nothing it is as now", x.ice(0, 1), 20);
    }

    // ---- the calls

    private static void fullAndBad() {
        says("hands: BAD, FULL: 6. turn: BAD, FULL: 8. (of several the one named first)");
        IceOfApplause x = new IceOfApplause();
        for (int k = 0; k < 8; k++) {
            x.hands(1, 1);
            x.turn(1, 1);
        }
        due("hands, full and bad HANDS", x.hands(100, 0), BAD);
        due("hands, full and bad OVER", x.hands(0, 16), BAD);
        due("hands, full", x.hands(0, 0), FULL);
        due("turn, full and bad GOOD", x.turn(10, 1), BAD);
        due("turn, full and bad LASTS", x.turn(0, 0), BAD);
        due("turn, full", x.turn(0, 1), FULL);
        due("six", x.count(0), 6);
        due("eight", x.count(1), 8);
    }

    private static void rowsFromARow() {
        says("ROWS OF HANDS FROM A ROW on a SHELF, from place i on, n (1 .. 6) of them: how many came");
        for (int n : new int[] {0, 7, -1, MIN, MAX}) {
            due("n " + n + ", nothing there", small().rows(0, 0, n), BAD);
        }
        for (int shelf : new int[] {-1, 6, MIN, MAX}) {
            due("shelf " + shelf, small().rows(shelf, 0, 1), BAD);
        }
        IceOfApplause x = new IceOfApplause();
        bytes(x, 5, 9, 10, 1, 2, 20, 15, 9, 99, 0, 0);
        due("one from place 1", x.rows(5, 1, 1), 1);
        due("two from place 4", x.rows(5, 4, 2), 2);
        int[][] rows = {{10, 1, 5, 2}, {20, 15, 5, 9}, {99, 0, 5, 0}};
        for (int row = 0; row < 3; row++) {
            for (int what = 0; what < 4; what++) {
                due("row " + row + ", " + what, x.of(row, what), rows[row][what]);
            }
        }
        due("three", x.count(0), 3);
        says("(0 with i below 0)");
        due("-1", x.rows(5, -1, 1), 0);
        due("-3", x.rows(5, -3, 2), 0);
        due("MIN", x.rows(5, MIN, 6), 0);
        due("nothing there", x.rows(0, -1, 1), 0);
        says("-12 (no ROW of bytes; a SHELF that holds nothing is missing)");
        for (int shelf = 0; shelf < 5; shelf++) {
            due("nothing on " + shelf, x.rows(shelf, 0, 6), 0);
        }
        for (int sort = 1; sort < 5; sort++) {
            x.row(0, sort, 6);
            due("sort " + sort, x.rows(0, 0, 1), ANOTHER_KIND);
        }
        x.body(0);
        x.keep(0, 0);
        due("a body", x.rows(0, 0, 1), ANOTHER_KIND);
        due("BAD goes ahead of -12", x.rows(0, 0, 7), BAD);
        due("still three", x.count(0), 3);
    }

    private static void rowsEndWhereTheyAreNot() {
        says("it ends where the row ends (within a three, too)");
        for (int size = 0; size <= 7; size++) {
            IceOfApplause x = new IceOfApplause();
            x.row(0, 0, size);
            due("of " + size + " bytes", x.rows(0, 0, 6), size / 3);
            due("from behind the end of " + size, x.rows(0, size, 1), 0);
            due("from far behind the end of " + size, x.rows(0, MAX, 1), 0);
            due("from MAX - 2 on", x.rows(0, MAX - 2, 6), 0);
        }
        says("it ends where one is not as it may be: those ahead came");
        int[][] wrong = {{-1, 0, 0}, {100, 0, 0}, {0, -1, 0}, {0, 16, 0}, {0, 0, -1}, {0, 0, 10}};
        for (int[] three : wrong) {
            IceOfApplause x = new IceOfApplause();
            bytes(x, 0, 99, 15, 9, three[0], three[1], three[2], 1, 1, 1);
            due("the second is wrong", x.rows(0, 0, 3), 1);
            due("it alone", x.rows(0, 3, 1), 0);
            due("one behind it", x.rows(0, 6, 1), 1);
        }
        says("it ends where ROWS OF HANDS are FULL: those ahead came");
        IceOfApplause x = new IceOfApplause();
        x.hands(1, 1);
        x.row(0, 0, 60);
        due("five more", x.rows(0, 0, 6), 5);
        due("no more", x.rows(0, 0, 6), 0);
        due("six", x.count(0), 6);
        IceOfApplause y = new IceOfApplause();
        y.row(0, 0, 18);
        due("six at once", y.rows(0, 0, 6), 6);
        due("deeds and rows are no changes", y.count(3), 0);
    }

    private static void mendIsBad() {
        says("mend: number 0 for these, another: BAD");
        IceOfApplause x = small();
        for (int what = 6; what <= 9; what++) {
            for (int number : new int[] {1, -1, 5, MIN, MAX}) {
                due("number " + number + ", what " + what, x.mend(number, what, 5), BAD);
                due("of " + number + ", what " + what, x.of(number, what), BAD);
            }
        }
        says("mend: BAD: no such number");
        for (int what = 0; what <= 5; what++) {
            int many = what < 4 ? 1 : 2;
            for (int number : new int[] {many, 6, 8, -1, MIN, MAX}) {
                due("number " + number + ", what " + what, x.mend(number, what, 1), BAD);
                due("of " + number + ", what " + what, x.of(number, what), BAD);
            }
        }
        for (int what : new int[] {-1, 10, 11, MIN, MAX}) {
            due("what " + what, x.mend(0, what, 1), BAD);
        }
        due("no change but LONG", x.count(3), 1);
        says("mend: becomes v: what it was");
        due("7", x.mend(0, 0, 7), 40);
        due("7 again", x.mend(0, 0, 7), 7);
        due("0", x.mend(0, 0, 0), 7);
        due("99", x.mend(0, 0, 99), 0);
    }

    private static void ofPlanks() {
        says("of a PLANK (0 .. 15) 10 its ICE in deed. BAD");
        IceOfApplause x = iced(7, 8);
        dueIce(x, 7, 8, 0, 0, 0, 0, 0, 0, 0, 0, 0, 0, 0, 0, 0, 0);
        for (int plank : new int[] {-1, 16, MIN, MAX}) {
            due("plank " + plank, x.of(plank, 10), BAD);
        }
        for (int what : new int[] {-1, 11, MIN, MAX}) {
            due("what " + what, x.of(0, what), BAD);
        }
    }

    private static void givesIsVoid() {
        says("gives: on a PLANK (that is there) now. VOID: BAD");
        IceOfApplause x = small();
        x.hands(20, 1);
        x.hands(8, 1);
        due("row 2, turn 1, plank 1", x.gives(21, 1), 4);
        due("row 2, turn 0, plank 0", x.gives(20, 0), 4);
        due("row 1, turn 1", x.gives(11, 1), 10);
        for (int ht : new int[] {-1, -10, 2, 9, 12, 19, 22, 29, 30, 31, 99, 300, MIN, MAX}) {
            due("ht " + ht, x.gives(ht, 0), VOID);
        }
        for (int plank : new int[] {-1, 2, 15, 16, MIN, MAX}) {
            due("plank " + plank, x.gives(0, plank), VOID);
        }
        x.hands(4, 0);
        x.hands(4, 0);
        x.hands(12, 0);
        for (int k = 2; k < 8; k++) {
            x.turn(k, 1);
        }
        due("row 5, turn 7", x.gives(57, 0), 21);
        due("turn 8", x.gives(58, 0), VOID);
        due("row 6", x.gives(60, 0), VOID);
    }
}
