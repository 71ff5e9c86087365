import java.util.List;

/** Each sentence of 'Terms', parts 1 to 3, that names a boundary: what is just inside it, and what is just outside. */
public final class TermsEdgesTest {
    private static final int LEAST = Integer.MIN_VALUE;
    private static final int MOST = Integer.MAX_VALUE;
    private static final String[] WAYS = {"stand", "north", "east", "south", "west"};

    private static final Due due = new Due("TermsEdgesTest");

    private TermsEdgesTest() {
    }

    public static void main(String[] args) {
        quotientsGoDownwards();
        stateWraps();
        drawsHaveNoSign();
        spotsOfEachBridge();
        setsAreLongs();
        wideAndStepOfEachBridge();
        columnsOfTheView();
        bridgeToldAnew();
        twelveWalkers();
        eightStrangers();
        strangersInTheirOrder();
        emptyTexts();
        textsToldAnew();
        toneOfAWalker();
        minuteOfAWalker();
        spotOfAWalker();
        partsOfAWay();
        partsOfALawMayBeLeftOut();
        eitherAndBoth();
        lessAlikeMore();
        lettersStandTogether();
        digitsStandTogether();
        eachByteBehindAKeyword();
        eachByteBehindANumber();
        blanksBetween();
        keywordsOfThatTextAlone();
        tokensLeftOutOrTwice();
        intsWrap();
        partsGoTowardsZero();
        firstFaultByItsPlace();
        leastFaultAtOnePlace();
        faultAtTheEnd();
        partByZero();
        seventeenthLine();
        thirteenthWalker();
        ninthPart();
        ninthOpen();
        goneForGood();
        goneBehindTheLastPart();
        coveredByWalkers();
        coveredByStrangers();
        firstLineThatIsSo();
        shadeIsHeld();
        edgeOfEachBridge();
        toneOfTheLeast();
        worthIsHeld();
        worthWithoutALine();
        edgesOfTheView();
        peopleInTheView();
        drawsOnlyForComers();
        belowComers();
        spotRowByRow();
        untilHisLastMinute();
        lastOneIsBehind();
        tenShots();
        shotsAskForNoComers();
        shotsHaveTheirView();
        bookOfWalkers();
        bookOfStrangers();
        due.close();
    }

    private static NobodyThere bridge(int w, int h) {
        NobodyThere x = new NobodyThere();
        due.yes("bridge", x.bridge(w, h));
        return x;
    }

    private static NobodyThere told(int k, String text) {
        NobodyThere x = new NobodyThere();
        due.yes("text " + k + " <" + text + ">", Due.tell(x, k, text) >= 0);
        return x;
    }

    private static void right(int k, String text, int count) {
        NobodyThere x = new NobodyThere();
        due.same("text " + k + " <" + text + ">", Due.tell(x, k, text), count);
        due.same("fault(0) of <" + text + ">", x.fault(0), 0);
        due.same("fault(1) of <" + text + ">", x.fault(1), -1);
    }

    private static void faulty(int k, String text, int kind, int place) {
        NobodyThere x = new NobodyThere();
        due.same("text " + k + " <" + text + ">", Due.tell(x, k, text), -1);
        due.same("fault(0) of <" + text + ">", x.fault(0), kind);
        due.same("fault(1) of <" + text + ">", x.fault(1), place);
    }

    /** A stranger on the spot of that place, counted row by row, who comes in this minute. */
    private static void strangerComes(NobodyThere x, int place) {
        x.state(Due.stateDrawing(0, place, x.look(0) * x.look(1)));
        x.set(1, 1);
        due.same("one comes", x.minutes(1), 1);
        x.set(1, 0);
    }

    private static void path(NobodyThere x, int walker, int from, int... spots) {
        due.same("before he comes", x.where(walker, from - 1), -1);
        for (int i = 0; i < spots.length; i++) {
            due.same("where(" + walker + ", " + (from + i) + ")", x.where(walker, from + i), spots[i]);
        }
        due.same("behind it", x.where(walker, from + spots.length), -1);
    }

    private static void quotientsGoDownwards() {
        due.part("Quotients go downwards");
        NobodyThere x = told(1, "shade 50 when minute=0;shade 51 when minute=1;shade 52;");
        due.same("mean of 50", x.exposed(0, 0, 0, 1), 50);
        due.same("mean of 50, 51", x.exposed(0, 1, 0, 1), 50);
        due.same("mean of 50, 51, 52", x.exposed(0, 2, 0, 1), 51);
        due.same("mean of 50, 51, 52, 52", x.exposed(0, 3, 0, 1), 51);
        x.set(1, 1);
        due.same("999000 * 999 has no rest", x.nobody(2), 998001);
        due.same("998001 * 999 has one", x.nobody(3), 997002);
        due.same("and goes on from there", x.nobody(4), 996004);
    }

    private static void stateWraps() {
        due.part("STATE of draws (an int, 0 at first), ints, which wrap");
        due.same("0 at first", new NobodyThere().look(8), 0);
        for (int state : new int[] {0, 1, -1, MOST, LEAST, LEAST + 1, MOST - 1}) {
            NobodyThere x = new NobodyThere();
            x.state(state);
            due.same("told", x.look(8), state);
            x.set(1, 1);
            int one = (int) (1664525L * state + 1013904223L);
            int came = x.minutes(1);
            due.same("drawn from " + state, x.look(8), came == 0 ? one : (int) (1664525L * one + 1013904223L));
        }
    }

    private static void drawsHaveNoSign() {
        due.part("its highest 24 bits (without sign) modulo m");
        // 16777215 modulo 1000 is 215, 8388608 modulo 1000 is 608, 8388607 modulo 1000 is 607
        int[] after = {0xFFFFFF00, 0xFFFFFFFF, 0x80000000, 0x800000FF, 0x7FFFFFFF, 0x7FFFFF00, 0x000000FF, 0x00000100};
        int[] drawn = {215, 215, 608, 608, 607, 607, 0, 1};
        for (int i = 0; i < after.length; i++) {
            if (drawn[i] > 0) {
                NobodyThere x = new NobodyThere();
                x.state(Due.stateBefore(after[i]));
                x.set(1, drawn[i]);
                due.same("not below " + drawn[i], x.minutes(1), 0);
                due.same("state", x.look(8), after[i]);
            }
            NobodyThere x = new NobodyThere();
            x.state(Due.stateBefore(after[i]));
            x.set(1, drawn[i] + 1);
            due.same("below " + (drawn[i] + 1), x.minutes(1), 1);
            due.same("two draws", x.look(8), Due.drawnState(after[i]));
        }
    }

    private static void spotsOfEachBridge() {
        due.part("SPOTS x 0 .. W - 1, y 0 .. H - 1, told by 8 y + x");
        for (int w = 2; w <= 8; w++) {
            for (int h = 2; h <= 7; h++) {
                NobodyThere x = bridge(w, h);
                x.shoot();
                for (int c = -2; c < 66; c++) {
                    boolean there = c >= 0 && c % 8 < w && c / 8 < h;
                    String of = " of " + c + " on " + w + " by " + h;
                    due.same("at" + of, x.at(c, 0, 1), there ? 50 : -1);
                    due.same("paste" + of, x.paste(c, 0) ? 1 : 0, there ? 1 : 0);
                    due.same("picture" + of, x.picture(10 + c), there ? 0 : -2);
                    due.same("exposed" + of, x.exposed(0, 0, c, 1), there ? 50 : -1);
                    due.same("hours" + of, x.hours(c, 50, 0), there ? 501 : -1);
                    due.same("book" + of, x.book(0, c, 1), there ? 50 : -2);
                    due.same("middle" + of, x.middle(1, c), there ? 50 : -1);
                }
            }
        }
    }

    private static void setsAreLongs() {
        due.part("as a set SPOT c counts 2 to the c (a long)");
        NobodyThere x = bridge(8, 7);
        Due.tell(x, 0, "walker 1 comes 0 at 0;walker 1 comes 1 at 30;walker 1 comes 2 at 31;walker 1 comes 3 at 32;"
            + "walker 1 comes 4 at 55;");
        int[] spots = {0, 30, 31, 32, 55};
        long all = (1L << 56) - 1;
        for (int m = 0; m < spots.length; m++) {
            long set = 1L << spots[m];
            due.same("covered", x.covered(m), set);
            due.same("never", x.never(m, m), set);
            due.same("ghosts", x.ghosts(m, m + 1), set | (m < 4 ? 1L << spots[m + 1] : 0));
            x.shoot();
            due.same("laid", x.laid(1 << m), all - set);
            due.same("most", x.most(1 << m), all - set);
            due.same("sure", x.sure(1 << m, 1), all);
            x.minutes(1);
        }
    }

    private static void wideAndStepOfEachBridge() {
        due.part("WIDE 1 .. W, STEP 0 .. W - WIDE");
        for (int w = 2; w <= 8; w++) {
            NobodyThere x = bridge(w, 3);
            due.same("WIDE is W at first", x.look(3), w);
            due.same("STEP is 0 at first", x.look(4), 0);
            for (int wide = 0; wide <= 9; wide++) {
                boolean can = wide >= 1 && wide <= w;
                due.same("set(0, " + wide + ") of " + w, x.set(0, wide) ? 1 : 0, can ? 1 : 0);
                for (int v = can ? -1 : 10; v <= 9; v++) {
                    boolean goes = v >= 1 && v <= w - wide;
                    due.same("step(" + v + ") with " + wide + " of " + w, x.step(v) ? 1 : 0, goes ? 1 : 0);
                }
            }
            due.same("the last STEP told", x.look(4), 0);
            x.set(0, 1);
            due.yes("the last column", x.step(w - 1));
            due.no("behind it", x.step(w));
            due.same("STEP", x.look(4), w - 1);
        }
    }

    private static void columnsOfTheView() {
        due.part("columns STEP .. STEP and WIDE less 1");
        for (int wide = 1; wide <= 8; wide++) {
            for (int step = 0; step <= 8 - wide; step++) {
                NobodyThere x = bridge(8, 2);
                x.set(0, wide);
                x.step(step);
                x.shoot();
                for (int c = 0; c < 16; c++) {
                    boolean in = c % 8 >= step && c % 8 <= step + wide - 1;
                    due.same("book of " + c, x.book(0, c, 0), in ? -1 : -2);
                }
                due.same("laid", x.laid(1), Due.columns(step, step + wide - 1, 2));
                due.same("holes", x.picture(1), 2 * wide);
            }
        }
    }

    private static void bridgeToldAnew() {
        due.part("told anew: all is as at first but W, H, STATE, the TAPE, fault() and THE IMAGE");
        NobodyThere x = told(0, "walker 1 comes 0 at 0 stand 60;walker 2 comes 3 at 1;");
        Due.tell(x, 1, "shade 7;shade 8;");
        Due.tell(x, 2, "worth 7;");
        x.set(2, 60);
        x.set(3, 99);
        x.image(true);
        strangerComes(x, 23);
        x.shoot();
        x.paste(29, 0);
        x.set(0, 2);
        x.step(4);
        x.minutes(5);
        Due.tell(x, 2, "worth 1000");
        Due.feed(x, "shade 61;");
        int state = x.look(8);
        due.yes("the same W and H", x.bridge(6, 4));
        int[] first = {6, 4, 0, 6, 0, 0, 0, 0, state, 0, 0, 0, 0, 5, 20};
        for (int i = 0; i < first.length; i++) {
            due.same("look(" + i + ")", x.look(i), first[i]);
        }
        due.same("no walker", x.of(0, 0), -2);
        due.same("no way", x.covered(3), 0);
        due.same("no stranger", x.stranger(0, 0), -1);
        due.same("no shot", x.shot(0, 0), -1);
        due.same("no law of shade", x.at(0, 0, 1), 50);
        due.same("no law of worth", x.worth(0), 100);
        due.same("no picture", x.picture(39), -1);
        due.no("nothing to undo", x.undo());
        due.same("fault(0) stays", x.fault(0), 1);
        due.same("fault(1) stays", x.fault(1), 10);
        due.no("the tape has 9", x.end(10));
        due.yes("the tape has 9", x.end(9));
        due.same("the tape stays", x.text(1), 1);
        due.same("what is on it, too", x.at(0, 0, 1), 61);
        due.yes("the image stays", x.image(false));
        due.same("walkers of the image", x.look(5), 2);
        due.same("comers of the image", x.look(12), 0);
        due.same("grey of the image", x.look(14), 99);
    }

    private static void twelveWalkers() {
        due.part("WALKERS 0 .. 11 (none at first)");
        NobodyThere x = new NobodyThere();
        due.same("none: look(5)", x.look(5), 0);
        due.same("none: of(0, 0)", x.of(0, 0), -2);
        due.same("none: where(0, 0)", x.where(0, 0), -1);
        StringBuilder text = new StringBuilder();
        for (int i = 0; i < 12; i++) {
            text.append("walker ").append(i).append(" comes ").append(i).append(" at 0;");
        }
        due.same("twelve", Due.tell(x, 0, text.toString()), 12);
        for (int i = 0; i < 12; i++) {
            due.same("tone of " + i, x.of(i, 0), i);
            due.same("minute of " + i, x.of(i, 1), i);
            due.same("where of " + i, x.where(i, i), 0);
        }
        due.same("no thirteenth", x.of(12, 0), -2);
        due.same("no thirteenth", x.where(12, 12), -1);
        due.same("none before the first", x.of(-1, 0), -2);
        due.same("none before the first", x.where(-1, 0), -1);
    }

    private static void eightStrangers() {
        due.part("STRANGERS, 8 at most; if there are fewer than 8, a DRAW");
        NobodyThere x = new NobodyThere();
        x.set(1, 1000);
        x.set(2, 60);
        due.same("seven", x.minutes(7), 7);
        int state = x.look(8);
        due.same("the eighth comes", x.minutes(1), 1);
        due.same("by two draws", x.look(8), Due.drawnState(Due.drawnState(state)));
        due.same("eight", x.look(6), 8);
        state = x.look(8);
        due.same("no ninth", x.minutes(1), 0);
        due.same("without a draw", x.look(8), state);
        due.same("eight", x.look(6), 8);
        due.yes("the eighth is there", x.stranger(7, 0) >= 0);
        due.same("no ninth", x.stranger(8, 0), -1);
        Due.waitUntil(x, 59);
        due.same("the first is there in 59", x.look(6), 8);
        due.same("none comes in 59", x.minutes(1), 0);
        due.same("not drawn for", x.look(8), state);
        due.same("the first is gone in 60", x.look(6), 7);
        due.same("one comes in 60", x.minutes(1), 1);
    }

    private static void strangersInTheirOrder() {
        due.part("STRANGERS in the order in which they came");
        NobodyThere x = new NobodyThere();
        int[] stays = {60, 3, 60, 3, 60};
        for (int i = 0; i < stays.length; i++) {
            x.set(2, stays[i]);
            strangerComes(x, 5 - i);
        }
        // in minute 5 the one of minute 1 is gone (its last one was 3), the one of minute 3 is there until 5
        int[] came = {0, 2, 3, 4};
        for (int i = 0; i < came.length; i++) {
            due.same("came", x.stranger(i, 2), came[i]);
            due.same("spot", x.stranger(i, 0), 5 - came[i]);
            due.same("until", x.stranger(i, 1), came[i] + stays[came[i]] - 1);
        }
        due.same("four are left", x.look(6), 4);
        x.set(2, 60);
        strangerComes(x, 23);
        due.same("one is gone, one came", x.look(6), 4);
        due.same("the last in order", x.stranger(3, 0), 29);
        due.same("before him", x.stranger(2, 2), 4);
    }

    private static void emptyTexts() {
        due.part("TEXTS (empty at first)");
        for (int k = 0; k < 3; k++) {
            due.same("an empty tape", new NobodyThere().text(k), 0);
            right(k, " ", 0);
            right(k, "\n", 0);
            right(k, " ".repeat(399) + "\n", 0);
        }
        NobodyThere x = new NobodyThere();
        due.same("no line of shade", x.look(9), 0);
        due.same("no line of worth", x.look(10), 0);
        due.same("no walker", x.look(5), 0);
    }

    private static void textsToldAnew() {
        due.part("Told anew: those that were are no more");
        NobodyThere x = told(0, "walker 1 comes 0 at 0 east 3;walker 2 comes 0 at 8 stand 60;");
        due.same("fewer", Due.tell(x, 0, "walker 3 comes 1 at 1;"), 1);
        due.same("none in 0", x.covered(0), 0);
        due.same("one in 1", x.covered(1), Due.spots(1));
        due.same("none in 2", x.covered(2), 0);
        due.same("of the first", x.of(0, 3), 1);
        due.same("of the second", x.of(1, 0), -2);
        due.same("none", Due.tell(x, 0, ""), 0);
        due.same("none in 1", x.covered(1), 0);
        Due.tell(x, 1, "shade 1 when x=0;shade 2;");
        due.same("fewer lines", Due.tell(x, 1, "shade 3 when x=0;"), 1);
        due.same("the first", x.at(0, 0, 1), 3);
        due.same("the second is no more", x.at(1, 0, 1), 50);
        due.same("no lines", Due.tell(x, 1, ""), 0);
        due.same("none", x.at(0, 0, 1), 50);
        Due.tell(x, 2, "worth 1 when minute=0;worth 2;");
        due.same("no lines", Due.tell(x, 2, ""), 0);
        due.same("none", x.worth(0), 100);
        // a law is told anew as often as one likes, though each fills the tape
        String full = "worth 1" + "+1".repeat(196) + ";";
        for (int i = 0; i < 12; i++) {
            due.same("a full tape", Due.tell(x, 2, full), 1);
            due.same("all of it", x.worth(i), 197);
        }
    }

    private static void toneOfAWalker() {
        due.part("TONE 0 .. 99; FAULT 2: TONE above 99");
        for (String tone : new String[] {"0", "99", "0000", "0099"}) {
            NobodyThere x = told(0, "walker " + tone + " comes 0 at 0;");
            due.same("tone " + tone, x.of(0, 0), Integer.parseInt(tone));
            due.same("tone " + tone, x.at(0, 0, 2), Integer.parseInt(tone));
        }
        for (String tone : new String[] {"100", "0100", "9999"}) {
            faulty(0, "walker " + tone + " comes 0 at 0;", 2, 7);
        }
    }

    private static void minuteOfAWalker() {
        due.part("MINUTE 0 .. 500; FAULT 2: MINUTE above 500");
        for (String minute : new String[] {"0", "500", "0000", "0500"}) {
            NobodyThere x = told(0, "walker 1 comes " + minute + " at 9;");
            int m = Integer.parseInt(minute);
            due.same("comes " + minute, x.of(0, 1), m);
            due.same("in it", x.where(0, m), 9);
            due.same("in it alone", x.of(0, 3), 1);
        }
        for (String minute : new String[] {"501", "0501", "9999"}) {
            faulty(0, "walker 1 comes " + minute + " at 9;", 2, 15);
        }
    }

    private static void spotOfAWalker() {
        due.part("FAULT 2: a SPOT that there is not");
        for (int w = 2; w <= 8; w++) {
            for (int h = 2; h <= 7; h++) {
                NobodyThere x = bridge(w, h);
                for (int c = 0; c < 65; c++) {
                    boolean there = c % 8 < w && c / 8 < h;
                    due.same(c + " on " + w + " by " + h, Due.tell(x, 0, "walker 1 comes 0 at " + c + ";"), there ? 1 : -1);
                    due.same("fault(0)", x.fault(0), there ? 0 : 2);
                    due.same("fault(1)", x.fault(1), there ? -1 : 20);
                }
            }
        }
        faulty(0, "walker 1 comes 0 at 9999;", 2, 20);
    }

    private static void partsOfAWay() {
        due.part("N 1 .. 60; FAULT 2: N beyond its bounds");
        String head = "walker 1 comes 0 at 0 ";
        for (String way : WAYS) {
            for (String n : new String[] {"1", "60", "0001", "0060"}) {
                right(0, head + way + " " + n + ";", 1);
            }
            for (String n : new String[] {"0", "0000", "61", "0061", "9999"}) {
                faulty(0, head + way + " " + n + ";", 2, head.length() + way.length() + 1);
            }
        }
        due.same("stand 1", told(0, head + "stand 1;").of(0, 3), 2);
        due.same("stand 60", told(0, head + "stand 60;").of(0, 3), 61);
    }

    private static void partsOfALawMayBeLeftOut() {
        due.part("[when B], {or A}, {and C}, {(+ | -) T}, {* U | / NUMBER}: none, one, more");
        String[] tests = {"", " when 1=1", " when 1=1 or 1=2", " when 1=1 or 1=2 or 1=2", " when 1=1 and 1=1",
            " when 1=1 and 1=1 and 1=1", " when (1=1)", " when ((1=1))", " when not 1=2", " when not not 1=1"};
        String[] sums = {"12", "5+7", "20-8", "2+3+7", "20-5-3", "3*4", "24/2", "2*3*2", "96/4/2", "6*4/2", "3*8/6*3"};
        for (String test : tests) {
            for (String sum : sums) {
                NobodyThere x = told(1, "shade " + sum + test + ";");
                due.same(sum + test, x.at(0, 0, 1), 12);
            }
        }
    }

    private static String test(boolean so) {
        return so ? "3=3" : "3=4";
    }

    private static void eitherAndBoth() {
        due.part("B = A {or A}.  A = C {and C}.  C = not C | ( B )");
        for (int bits = 0; bits < 8; bits++) {
            boolean a = (bits & 1) != 0;
            boolean b = (bits & 2) != 0;
            boolean c = (bits & 4) != 0;
            String[] tests = {test(a), "not " + test(a), test(a) + " or " + test(b), test(a) + " and " + test(b),
                test(a) + " or " + test(b) + " or " + test(c), test(a) + " and " + test(b) + " and " + test(c),
                test(a) + " or " + test(b) + " and " + test(c), test(a) + " and " + test(b) + " or " + test(c),
                "(" + test(a) + " or " + test(b) + ") and " + test(c), test(a) + " and (" + test(b) + " or " + test(c) + ")",
                "not " + test(a) + " or " + test(b), "not (" + test(a) + " or " + test(b) + ")",
                "not " + test(a) + " and " + test(b), "not (" + test(a) + " and " + test(b) + ")",
                test(a) + " or not " + test(b) + " and not (" + test(c) + ")"};
            boolean[] so = {a, !a, a || b, a && b, a || b || c, a && b && c, a || b && c, a && b || c, (a || b) && c,
                a && (b || c), !a || b, !(a || b), !a && b, !(a && b), a || !b && !c};
            for (int i = 0; i < tests.length; i++) {
                shadeIs("shade 1 when " + tests[i] + ";shade 2;", so[i] ? 1 : 2);
            }
        }
    }

    private static void lessAlikeMore() {
        due.part("C = E (< | = | >) E: one less, alike, one more");
        String[] sums = {"0-9999*9999*21", "0-1", "0", "1", "9999", "9999*9999*21"};
        for (int i = 0; i < sums.length; i++) {
            for (int j = 0; j < sums.length; j++) {
                shadeIs("shade 1 when " + sums[i] + "<" + sums[j] + ";shade 2;", i < j ? 1 : 2);
                shadeIs("shade 1 when " + sums[i] + "=" + sums[j] + ";shade 2;", i == j ? 1 : 2);
                shadeIs("shade 1 when " + sums[i] + ">" + sums[j] + ";shade 2;", i > j ? 1 : 2);
            }
        }
    }

    private static void lettersStandTogether() {
        due.part("letters as many as stand together are KEYWORDS or none");
        right(1, "shade x;", 1);
        faulty(1, "shadex;", 1, 0);
        faulty(1, "xshade 1;", 1, 0);
        faulty(1, "shad e 1;", 1, 0);
        faulty(1, "shade xx;", 1, 6);
        faulty(1, "shade edgex;", 1, 6);
        faulty(1, "shade edg;", 1, 6);
        faulty(1, "shade edges;", 1, 6);
        faulty(2, "worth edge;", 1, 6);
        right(2, "worth edges;", 1);
        faulty(0, "walkers 1 comes 0 at 0;", 1, 0);
        faulty(0, "walke 1 comes 0 at 0;", 1, 0);
        right(0, "walker1comes0at0stand1;", 1);
        right(1, "shade1when1=1and2=2or3=3;", 1);
        faulty(1, "shade1when1=1andnot2=2;", 1, 13);
        right(1, "shade1when1=1and not 2=2;", 1);
        right(1, "shade1when not(1=1);", 1);
        faulty(1, "SHADE 1;", 1, 0);
        faulty(1, "shade X;", 1, 6);
        faulty(1, "shade xX;", 1, 6);
    }

    private static void digitsStandTogether() {
        due.part("digits as many as stand together NUMBERS of 1 to 4 digits or none");
        String[] numbers = {"7", "07", "007", "0007"};
        for (String n : numbers) {
            NobodyThere x = told(1, "shade " + n + ";");
            due.same(n, x.at(0, 0, 1), 7);
        }
        faulty(1, "shade 00007;", 1, 6);
        faulty(1, "shade 12345;", 1, 6);
        faulty(1, "shade " + "0".repeat(394), 1, 6);
        faulty(1, "shade 12 34;", 1, 9);
        NobodyThere x = told(1, "shade 1 when 9999=1111*9 and 9999>9998 and 9998<9999;");
        due.same("9999", x.at(0, 0, 1), 1);
        faulty(1, "shade 1 when 10000>0;", 1, 13);
        faulty(1, "shade 1/10000;", 1, 8);
        faulty(0, "walker 00001 comes 0 at 0;", 1, 7);
        faulty(0, "walker 1 comes 00000 at 0;", 1, 15);
        faulty(0, "walker 1 comes 0 at 00000;", 1, 20);
        faulty(0, "walker 1 comes 0 at 0 east 00001;", 1, 27);
    }

    private static boolean isLetter(int b) {
        return b >= 'a' && b <= 'z' || b >= 'A' && b <= 'Z';
    }

    private static void eachByteBehindAKeyword() {
        due.part("TOKENS: each byte there is, behind a KEYWORD");
        for (int b = 0; b < 256; b++) {
            String text = "shade" + (char) b + "1;";
            if (b == 32 || b == 10 || b >= '0' && b <= '9') {
                right(1, text, 1);
            } else {
                faulty(1, text, 1, isLetter(b) ? 0 : 5);
            }
        }
    }

    private static void eachByteBehindANumber() {
        due.part("TOKENS: each byte there is, behind a NUMBER");
        for (int b = 0; b < 256; b++) {
            String text = "shade 1" + (char) b + ";";
            if (b == 32 || b == 10 || b >= '0' && b <= '9') {
                right(1, text, 1);
            } else {
                faulty(1, text, 1, ";+-*/".indexOf(b) >= 0 ? 8 : 7);
            }
            String test = "shade 1 when 1" + (char) b + "2;";
            if (b == '<' || b == '=' || b == '>') {
                right(1, test, 1);
            } else if (b >= '0' && b <= '9' || "+-*/".indexOf(b) >= 0) {
                faulty(1, test, 1, 16);
            } else {
                faulty(1, test, 1, b == 32 || b == 10 ? 15 : 14);
            }
        }
    }

    private static void blanksBetween() {
        due.part("Blanks (32, 10) between");
        right(1, "shade 1;", 1);
        right(1, "\n\n  shade\n\n  1\n \n;\n ", 1);
        right(1, "shade1;shade1;", 2);
        right(1, "shade " + " ".repeat(392) + "1;", 1);
        right(0, "walker\n7\ncomes\n0\nat\n0\neast\n1\n;\n", 1);
        faulty(1, "shade 1 2;", 1, 8);
        faulty(1, "shade 1 when 1 < = 2;", 1, 17);
        faulty(1, "sh ade 1;", 1, 0);
        faulty(1, "shade\t1;", 1, 5);
        faulty(1, "shade\r\n1;", 1, 5);
        faulty(1, "shade" + (char) 160 + "1;", 1, 5);
    }

    private static void keywordsOfThatTextAlone() {
        due.part("KEYWORDS (those told here for that text) or none");
        String[] shade = {"x", "y", "minute", "edge"};
        String[] worth = {"minute", "covered", "edges", "step", "people"};
        String[] others = {"walker", "comes", "at", "stand", "north", "east", "south", "west", "shade", "worth", "when", "or",
            "and", "not"};
        for (String word : shade) {
            right(1, "shade " + word + ";", 1);
            right(1, "shade 1 when " + word + "=" + word + ";", 1);
            if (!word.equals("minute")) {
                faulty(2, "worth " + word + ";", 1, 6);
            }
        }
        for (String word : worth) {
            right(2, "worth " + word + ";", 1);
            right(2, "worth 1 when " + word + "<" + word + "*2;", 1);
            if (!word.equals("minute")) {
                faulty(1, "shade " + word + ";", 1, 6);
            }
        }
        for (String word : others) {
            faulty(1, "shade " + word + ";", 1, 6);
            faulty(2, "worth 1*" + word + ";", 1, 8);
        }
        for (String word : new String[] {"x", "minute", "when", "shade", "step", "at", "comes", "walker"}) {
            faulty(0, "walker 1 comes 0 at 0 " + word + " 1;", 1, 22);
        }
        faulty(0, "worth 1;", 1, 0);
        faulty(1, "walker 1 comes 0 at 0;", 1, 0);
        faulty(2, "shade 1;", 1, 0);
    }

    private static String joined(List<String> tokens, int from, int to) {
        return String.join(" ", tokens.subList(from, to)) + (to > from ? " " : "");
    }

    /** Leaves out each token, then tells each twice; free: those that may be left out or told twice, another: elsewhere. */
    private static void leftOutOrTwice(int k, String text, String free, String another) {
        right(k, text, 1);
        List<String> tokens = List.of(text.split(" "));
        for (int i = 0; i < tokens.size(); i++) {
            String token = tokens.get(i);
            String before = joined(tokens, 0, i);
            String behind = joined(tokens, i + 1, tokens.size()).trim();
            String twice = before + token + " " + token + " " + behind;
            if (free.contains(token)) {
                right(k, before + behind, 1);
                right(k, twice, 1);
            } else if (another.contains(token)) {
                faulty(k, before + behind, 1, (before + behind).indexOf(token.equals("(") ? ')' : ';'));
                faulty(k, twice, 1, token.equals("(") ? twice.indexOf(';') : before.length() + 2);
            } else {
                faulty(k, before + behind, 1, behind.isEmpty() ? before.length() : (before + behind).length() - behind.length());
                faulty(k, twice, 1, before.length() + token.length() + 1);
            }
        }
    }

    private static void tokensLeftOutOrTwice() {
        due.part("FAULT 1: what can't stand there, token by token");
        leftOutOrTwice(0, "walker 1 comes 2 at 3 stand 4 north 5 east 6 south 7 west 8 ;", "", "");
        leftOutOrTwice(1, "shade 1 + x * 2 / 3 - y when not ( 1 < 2 or minute > 4 ) and 5 = edge ;", "not", "()");
        leftOutOrTwice(2, "worth 1 - step * 2 / 3 + people when not ( 1 > 2 and minute < 4 ) or edges = covered ;", "not", "()");
    }

    private static void shadeIs(String law, int want) {
        due.same(law, told(1, law).at(0, 0, 1), want);
    }

    private static void intsWrap() {
        due.part("Ints, which wrap");
        // 9999 * 9999 is 99980001; 21 times that is 2099580021, 22 times that is above 2147483647
        shadeIs("shade 1 when 9999*9999*21>0;", 1);
        shadeIs("shade 1 when 9999*9999*22>0;shade 2 when 9999*9999*22<0;", 2);
        shadeIs("shade 1 when 9999*9999*21+9999*9999>0;shade 2;", 2);
        shadeIs("shade 1 when 9999*9999*21+9999*4000>0;shade 2;", 1);
        shadeIs("shade 1 when 0-9999*9999*21-9999*9999>0;shade 2;", 1);
        shadeIs("shade 1 when 0-9999*9999*21-9999*4000>0;shade 2;", 2);
        // 8192 * 8192 * 64 is 2 to the 32, half of it the least int there is
        shadeIs("shade 8192*8192*64+7;", 7);
        shadeIs("shade 1 when 8192*8192*32<0;", 1);
        shadeIs("shade 1 when 8192*8192*32-1>0;", 1);
        shadeIs("shade 1 when 0-8192*8192*32=8192*8192*32;", 1);
        shadeIs("shade 9999*9999*22;", 0);
        shadeIs("shade 0-9999*9999*22;", 99);
    }

    private static void partsGoTowardsZero() {
        due.part("/ goes towards 0");
        shadeIs("shade 7/7;", 1);
        shadeIs("shade 13/7;", 1);
        shadeIs("shade 14/7;", 2);
        shadeIs("shade 6/7;", 0);
        shadeIs("shade 9999/9999;", 1);
        shadeIs("shade 9998/9999+5;", 5);
        // 9999 * 9999 * 30 wraps to -1295567266
        shadeIs("shade 1 when 9999*9999*30/1000=0-1295*1000-567;shade 2;", 1);
        shadeIs("shade 1 when 9999*9999*30/1000<0-1295*1000-567;shade 2;", 2);
        // 8192 * 8192 * 32 is -2147483648
        shadeIs("shade 1 when 8192*8192*32/9999=0-214*1000-769;shade 2;", 1);
        shadeIs("shade 1 when 8192*8192*32/1=8192*8192*32;shade 2;", 1);
    }

    private static void firstFaultByItsPlace() {
        due.part("FAULTS, the first by its place");
        faulty(0, "walker 100 comes 501 at 99 stand 0;", 2, 7);
        faulty(0, "walker 99 comes 501 at 99 stand 0;", 2, 16);
        faulty(0, "walker 99 comes 500 at 99 stand 0;", 2, 23);
        faulty(0, "walker 99 comes 500 at 29 stand 0;", 2, 32);
        faulty(0, "walker 99 comes 500 at 29 stand 1 ?", 1, 34);
        faulty(0, "walker 100 ?", 2, 7);
        faulty(0, "walker ? 100", 1, 7);
        faulty(0, "? walker 100", 1, 0);
        faulty(1, "shade 1/0 ?", 2, 8);
        faulty(1, "shade ? 1/0", 1, 6);
        faulty(1, "shade 1;shade 1/0;shade ?;", 2, 16);
        faulty(1, "shade 1/0;" + "shade 1;".repeat(17), 2, 8);
        faulty(1, "shade 1;".repeat(16) + "shade 1/0;", 3, 128);
        faulty(1, "shade 1;".repeat(15) + "shade 1/0;shade 1;", 2, 128);
        faulty(1, "shade 1 when " + "not ".repeat(9) + "1/0=1;", 3, 45);
        faulty(1, "shade 1 when " + "not ".repeat(8) + "1/0=1;", 2, 47);
        faulty(0, "walker 1 comes 1 at 0;".repeat(12) + "walker 100", 3, 264);
    }

    private static void leastFaultAtOnePlace() {
        due.part("FAULTS, at one place the least");
        faulty(0, "walker 12345 comes 0 at 0;", 1, 7);
        faulty(0, "walker 1 comes 0 at 0 east 00000;", 1, 27);
        faulty(1, "shade 1/00000;", 1, 8);
        faulty(1, "shade 1;".repeat(16) + "worth 1;", 1, 128);
        faulty(2, "worth 1;".repeat(16) + "shade 1;", 1, 128);
        faulty(1, "shade 1;".repeat(16) + "shades 1;", 1, 128);
        faulty(0, "walker 1 comes 1 at 0;".repeat(12) + "walkers", 1, 264);
        faulty(0, "walker 1 comes 1 at 0" + " east 1".repeat(8) + " easts 1;", 1, 78);
        // a ( or a not that could not stand there is no ninth one
        faulty(1, "shade 1 when " + "(".repeat(8) + "1=(", 1, 23);
        faulty(1, "shade 1 when " + "(".repeat(8) + "1=not", 1, 23);
        faulty(1, "shade 1 when " + "(".repeat(8) + "1=1(", 1, 24);
        faulty(1, "shade 1 when " + "(".repeat(8) + "1=1 not", 1, 25);
    }

    private static void faultAtTheEnd() {
        due.part("FAULT 1, the end: the text's length");
        String walker = "walker 1 comes 2 at 3 stand 4;";
        int[] walkerEnds = {6, 8, 14, 16, 19, 21, 27, 29};
        for (int end : walkerEnds) {
            faulty(0, walker.substring(0, end), 1, end);
            faulty(0, walker.substring(0, end) + " \n ", 1, end + 3);
            faulty(0, walker + walker.substring(0, end), 1, walker.length() + end);
        }
        right(0, walker, 1);
        String law = "shade 1+2*3/4 when not (1<2 or 3>4) and 5=6;";
        int[] lawEnds = {5, 7, 8, 9, 10, 11, 12, 13, 18, 22, 24, 25, 26, 27, 30, 32, 33, 34, 35, 39, 41, 42, 43};
        for (int end : lawEnds) {
            faulty(1, law.substring(0, end), 1, end);
            faulty(1, law.substring(0, end) + "\n", 1, end + 1);
        }
        right(1, law, 1);
        faulty(1, "shade" + " ".repeat(395), 1, 400);
        faulty(1, "shade 1" + "+1".repeat(196) + " ", 1, 400);
        faulty(1, "shade1" + "+1".repeat(197), 1, 400);
    }

    private static void partByZero() {
        due.part("FAULT 2 (at the NUMBER): a part by 0");
        right(1, "shade 5/1;", 1);
        right(1, "shade 5/0001;", 1);
        right(1, "shade 5/9999;", 1);
        right(1, "shade 0/5;", 1);
        faulty(1, "shade 5/0;", 2, 8);
        faulty(1, "shade 5/ 00;", 2, 9);
        faulty(1, "shade 5/0000;", 2, 8);
        faulty(1, "shade 5/5/0;", 2, 10);
        faulty(1, "shade 5 when 5/0=5;", 2, 15);
        faulty(1, "shade 5 when 5=5/0;", 2, 17);
        faulty(2, "worth step/0;", 2, 11);
        faulty(1, "shade 5/x;", 1, 8);
        faulty(1, "shade 5/;", 1, 8);
    }

    private static void seventeenthLine() {
        due.part("FAULT 3 (at its KEYWORD): the 17th line of a LAW");
        right(1, "shade 1;".repeat(16), 16);
        right(2, "worth 1;".repeat(16), 16);
        faulty(1, "shade 1;".repeat(17), 3, 128);
        faulty(2, "worth 1;".repeat(17), 3, 128);
        faulty(1, "shade 1;".repeat(16) + "\n shade", 3, 130);
        StringBuilder text = new StringBuilder();
        for (int i = 1; i <= 16; i++) {
            text.append("shade ").append(i).append(" when minute=").append(i).append(";");
        }
        NobodyThere x = told(1, text.toString());
        due.same("lines", x.look(9), 16);
        for (int m = 1; m <= 16; m++) {
            due.same("line " + m, x.at(0, m, 1), m);
        }
        due.same("no line", x.at(0, 17, 1), 50);
    }

    private static void thirteenthWalker() {
        due.part("FAULT 3 (at its KEYWORD): the 13th WALKER");
        right(0, "walker 1 comes 1 at 0;".repeat(12), 12);
        right(0, "walker 1 comes 1 at 0;".repeat(12) + "\n", 12);
        faulty(0, "walker 1 comes 1 at 0;".repeat(13), 3, 264);
        faulty(0, "walker 1 comes 1 at 0;".repeat(12) + " walker", 3, 265);
    }

    private static void ninthPart() {
        due.part("FAULT 3 (at its KEYWORD): the 9th part of a WAY");
        String head = "walker 1 comes 1 at 0";
        right(0, head + " stand 1".repeat(8) + ";", 1);
        for (String way : WAYS) {
            faulty(0, head + " stand 1".repeat(8) + " " + way + " 1;", 3, 86);
            faulty(0, head + " stand 1".repeat(8) + " " + way, 3, 86);
        }
        right(0, (head + " stand 1".repeat(8) + ";").repeat(4), 4);
        faulty(0, (head + " stand 1".repeat(8) + ";").repeat(3) + head + " stand 1".repeat(9), 3, 3 * 86 + 86);
        NobodyThere x = told(0, head + " stand 1".repeat(8) + ";");
        due.same("all eight are walked", x.of(0, 3), 9);
    }

    private static void ninthOpen() {
        due.part("FAULT 3 (at it): the 9th ( or not that is open");
        String head = "shade 1 when ";
        right(1, head + "(".repeat(8) + "1=1" + ")".repeat(8) + ";", 1);
        faulty(1, head + "(".repeat(9) + "1=1" + ")".repeat(9) + ";", 3, 21);
        right(1, head + "not ".repeat(8) + "1=1;", 1);
        faulty(1, head + "not ".repeat(9) + "1=1;", 3, 45);
        right(1, head + "not(".repeat(4) + "1=1" + ")".repeat(4) + ";", 1);
        faulty(1, head + "not(".repeat(4) + "not 1=1", 3, 29);
        faulty(1, head + "not(".repeat(4) + "(1=1", 3, 29);
        // those that are closed count no more
        right(1, head + "(1=1) and ".repeat(9) + "1=1;", 1);
        right(1, head + "not 1=1 or ".repeat(9) + "1=1;", 1);
        right(1, head + "(".repeat(7) + "(1=1) and (1=1) or not 1=1 and not 1=1" + ")".repeat(7) + ";", 1);
        faulty(1, head + "(".repeat(7) + "(1=1) and (1=1) or not 1=1 and not not 1=1", 3, 55);
        right(1, head + "(".repeat(8) + "1=1" + ")".repeat(8) + " and " + "(".repeat(8) + "1=1" + ")".repeat(8) + ";", 1);
        right(1, (head + "not ".repeat(8) + "1=1;").repeat(2), 2);
        faulty(1, (head + "not ".repeat(8) + "1=1;") + head + "not ".repeat(9) + "1=1;", 3, 94);
        // an even number of nots is none, an odd number is one
        for (int n = 0; n <= 8; n++) {
            shadeIs(head + "not ".repeat(n) + "1=1;shade 2;", n % 2 == 0 ? 1 : 2);
        }
    }

    private static void goneForGood() {
        due.part("out of THE BRIDGE he is gone for good");
        for (int w = 2; w <= 8; w += 3) {
            NobodyThere x = bridge(w, 3);
            int last = 16 + w - 1;
            Due.tell(x, 0, "walker 1 comes 1 at 8 north 1 south 1 south 1;walker 1 comes 1 at 8 north 2 south 5;"
                + "walker 1 comes 1 at 1 west 1 east 1;walker 1 comes 1 at 1 west 2 east 5;"
                + "walker 1 comes 1 at " + (last - 8) + " south 1 north 1;walker 1 comes 1 at " + (last - 8) + " south 2 north 5;"
                + "walker 1 comes 1 at " + (last - 1) + " east 1 west 1;walker 1 comes 1 at " + (last - 1) + " east 2 west 5;");
            path(x, 0, 1, 8, 0, 8, 16);
            path(x, 1, 1, 8, 0);
            path(x, 2, 1, 1, 0, 1);
            path(x, 3, 1, 1, 0);
            path(x, 4, 1, last - 8, last, last - 8);
            path(x, 5, 1, last - 8, last);
            path(x, 6, 1, last - 1, last, last - 1);
            path(x, 7, 1, last - 1, last);
            for (int i = 1; i < 8; i += 2) {
                due.same("gone for good", x.of(i, 3), 2);
            }
        }
    }

    private static void goneBehindTheLastPart() {
        due.part("behind the last part he is gone");
        NobodyThere x = told(0, "walker 1 comes 7 at 0;walker 1 comes 7 at 0 stand 1;walker 1 comes 7 at 0 stand 2 east 2;"
            + "walker 1 comes 499 at 0 stand 1;walker 1 comes 499 at 0 stand 2;walker 1 comes 500 at 0 east 3;"
            + "walker 1 comes 0 at 29 north 1;");
        path(x, 0, 7, 0);
        path(x, 1, 7, 0, 0);
        path(x, 2, 7, 0, 0, 0, 1, 2);
        path(x, 3, 499, 0, 0);
        path(x, 4, 499, 0, 0);
        path(x, 5, 500, 0);
        path(x, 6, 0, 29, 21);
        int[] there = {1, 2, 5, 2, 2, 1, 2};
        for (int i = 0; i < there.length; i++) {
            due.same("in how many minutes", x.of(i, 3), there[i]);
        }
    }

    private static void coveredByWalkers() {
        due.part("COVERED, if a WALKER is there (told MINUTES, all of them)");
        NobodyThere x = told(0, "walker 1 comes 5 at 9 stand 2;");
        for (int now : new int[] {0, 5, 8, 300, 500}) {
            Due.waitUntil(x, now);
            for (int m = 4; m <= 8; m++) {
                boolean there = m >= 5 && m <= 7;
                due.same("covered(" + m + ") in " + now, x.covered(m), there ? Due.spots(9) : 0);
                due.same("at(9, " + m + ", 0) in " + now, x.at(9, m, 0), there ? 1 : 0);
            }
        }
    }

    private static void coveredByStrangers() {
        due.part("COVERED by a STRANGER (of those that there are now, from the MINUTE in which he came, until his last one)");
        NobodyThere x = new NobodyThere();
        x.set(2, 3);
        x.minutes(3);
        strangerComes(x, 7);
        for (int now = 4; now <= 6; now++) {
            for (int m = 2; m <= 6; m++) {
                boolean there = now <= 5 && m >= 3 && m <= 5;
                due.same("covered(" + m + ") in " + now, x.covered(m), there ? Due.spots(9) : 0);
                due.same("tone in " + m + " in " + now, x.at(9, m, 2), there ? 20 : 50);
            }
            x.minutes(1);
        }
    }

    private static void firstLineThatIsSo() {
        due.part("E of the first line whose B is so, or that has none (none: 50)");
        NobodyThere x = told(1, "shade 1 when minute<2;shade 2 when minute<3;shade 3 when minute<4;");
        int[] shades = {1, 1, 2, 3, 50};
        for (int m = 0; m < shades.length; m++) {
            due.same("shade in " + m, x.at(0, m, 1), shades[m]);
        }
        Due.tell(x, 1, "shade 1 when minute<2;shade 2;shade 3 when minute<4;");
        due.same("one without a test", x.at(0, 3, 1), 2);
        due.same("before it", x.at(0, 1, 1), 1);
        Due.tell(x, 1, "");
        due.same("no line at all", x.at(0, 3, 1), 50);
    }

    private static void shadeIsHeld() {
        due.part("SHADE held to 0 .. 99");
        shadeIs("shade 0;", 0);
        shadeIs("shade 0-1;", 0);
        shadeIs("shade 1;", 1);
        shadeIs("shade 98;", 98);
        shadeIs("shade 99;", 99);
        shadeIs("shade 100;", 99);
        shadeIs("shade 9999;", 99);
        shadeIs("shade 0-9999;", 0);
        NobodyThere x = told(1, "shade minute*10+x+y*2;");
        due.same("x, y and minute", x.at(29, 8, 1), 91);
        due.same("x, y and minute", x.at(0, 0, 1), 0);
    }

    private static void edgeOfEachBridge() {
        due.part("edge: 1, if x or y is the first or the last one, else 0");
        int[][] sizes = {{2, 2}, {2, 7}, {8, 2}, {3, 3}, {6, 4}, {8, 7}};
        for (int[] size : sizes) {
            NobodyThere x = bridge(size[0], size[1]);
            Due.tell(x, 1, "shade 70+edge*5;");
            for (int b = 0; b < size[1]; b++) {
                for (int a = 0; a < size[0]; a++) {
                    boolean inside = a > 0 && a < size[0] - 1 && b > 0 && b < size[1] - 1;
                    due.same("edge of " + a + ", " + b, x.at(8 * b + a, 0, 1), inside ? 70 : 75);
                }
            }
        }
    }

    private static void toneOfTheLeast() {
        due.part("TONE: that of the least WALKER there, else GREY of a STRANGER, else SHADE");
        NobodyThere x = told(0, "walker 11 comes 1 at 9;walker 12 comes 0 at 9 stand 2;walker 13 comes 0 at 9 stand 3;");
        Due.tell(x, 1, "shade 14;");
        x.set(3, 15);
        x.set(2, 5);
        strangerComes(x, 7);
        int[] tones = {12, 11, 12, 13, 15, 14};
        for (int m = 0; m < tones.length; m++) {
            due.same("tone in " + m, x.at(9, m, 2), tones[m]);
            due.same("shade in " + m, x.at(9, m, 1), 14);
        }
        for (int grey : new int[] {0, 99}) {
            x.set(3, grey);
            due.same("grey " + grey, x.at(9, 4, 2), grey);
        }
    }

    private static void worthIsHeld() {
        due.part("WORTH held to -999 .. 999");
        String[] sums = {"998", "999", "1000", "9999", "0-998", "0-999", "0-1000", "0-9999", "0"};
        int[] worths = {998, 999, 999, 999, -998, -999, -999, -999, 0};
        for (int i = 0; i < sums.length; i++) {
            due.same(sums[i], told(2, "worth " + sums[i] + ";").worth(0), worths[i]);
        }
    }

    private static void worthWithoutALine() {
        due.part("WORTH (none: 100 less covered)");
        NobodyThere x = bridge(4, 5);
        due.same("none is covered", x.worth(0), 100);
        x.set(2, 60);
        for (int i = 0; i < 8; i++) {
            strangerComes(x, 19 - i);
        }
        StringBuilder text = new StringBuilder();
        for (int i = 0; i < 12; i++) {
            text.append("walker 1 comes 8 at ").append(i / 4 * 8 + i % 4).append(';');
        }
        due.same("twelve", Due.tell(x, 0, text.toString()), 12);
        due.same("all twenty", x.covered(8), Due.columns(0, 3, 5));
        due.same("all are covered", x.worth(8), 80);
        due.same("strangers alone", x.worth(9), 92);
        Due.tell(x, 2, "worth 5 when covered>20;");
        due.same("no line is so", x.worth(8), 80);
        Due.tell(x, 2, "worth 5 when covered>19;");
        due.same("a line is so", x.worth(8), 5);
        x.set(0, 1);
        Due.tell(x, 2, "");
        due.same("a view of one column", x.worth(8), 95);
    }

    private static void edgesOfTheView() {
        due.part("edges: those of them in its first or last column");
        NobodyThere x = told(0, "walker 1 comes 0 at 0;walker 1 comes 0 at 9;walker 1 comes 0 at 18;walker 1 comes 0 at 27;"
            + "walker 1 comes 0 at 4;walker 1 comes 0 at 13;walker 1 comes 0 at 5;");
        Due.tell(x, 2, "worth covered*100+edges*10+step;");
        due.same("columns 0 .. 5", x.worth(0), 730);
        int[] wide = {1, 1, 2, 2, 3, 5, 5};
        int[] step = {0, 5, 0, 4, 1, 0, 1};
        int[] worth = {110, 225, 220, 334, 321, 520, 631};
        for (int i = 0; i < wide.length; i++) {
            x.set(0, wide[i]);
            x.step(step[i]);
            due.same(wide[i] + " columns from " + step[i], x.worth(0), worth[i]);
        }
    }

    private static void peopleInTheView() {
        due.part("people: WALKERS and STRANGERS in THE VIEW");
        NobodyThere x = told(0, "walker 1 comes 0 at 9;walker 1 comes 0 at 9 stand 1;walker 1 comes 0 at 10;");
        Due.tell(x, 2, "worth covered*100+people;");
        x.set(2, 2);
        strangerComes(x, 7);
        due.same("three walkers, a stranger, two spots", x.worth(0), 204);
        due.same("a walker, a stranger, one spot", x.worth(1), 102);
        due.same("nobody", x.worth(2), 0);
        x.set(0, 1);
        due.same("not in column 0", x.worth(0), 0);
        x.step(1);
        due.same("in column 1", x.worth(0), 103);
        x.step(2);
        due.same("in column 2", x.worth(0), 101);
        x.step(3);
        due.same("not in column 3", x.worth(0), 0);
    }

    private static void drawsOnlyForComers() {
        due.part("if COMERS are above 0 a DRAW");
        NobodyThere x = new NobodyThere();
        x.state(12345);
        due.same("0 comers", x.minutes(100), 0);
        due.same("no draw", x.look(8), 12345);
        x.state(Due.stateBefore(0x7FFFFFFF));
        x.set(1, 1);
        due.same("one comer of a thousand", x.minutes(1), 0);
        due.same("a draw", x.look(8), 0x7FFFFFFF);
        x.set(1, 0);
        x.minutes(1);
        due.same("no draw", x.look(8), 0x7FFFFFFF);
    }

    private static void belowComers() {
        due.part("below COMERS one comes");
        int[] comers = {1, 1, 2, 500, 500, 999, 999, 1000};
        int[] drawn = {0, 1, 1, 499, 500, 998, 999, 999};
        for (int i = 0; i < comers.length; i++) {
            NobodyThere x = new NobodyThere();
            x.set(1, comers[i]);
            x.state(Due.stateDrawing(drawn[i], 3, 24));
            due.same(drawn[i] + " drawn, " + comers[i] + " comers", x.minutes(1), drawn[i] < comers[i] ? 1 : 0);
            due.same("strangers", x.look(6), drawn[i] < comers[i] ? 1 : 0);
        }
    }

    private static void spotRowByRow() {
        due.part("his SPOT a DRAW of W times H (counted row by row)");
        int[][] sizes = {{2, 2}, {2, 7}, {8, 2}, {3, 5}, {6, 4}, {8, 7}};
        for (int[] size : sizes) {
            int w = size[0];
            int all = w * size[1];
            for (int drawn : new int[] {0, 1, w - 1, w, 2 * w - 1, all - w, all - 1}) {
                NobodyThere x = bridge(w, size[1]);
                strangerComes(x, drawn);
                due.same(drawn + " of " + all, x.stranger(0, 0), drawn / w * 8 + drawn % w);
            }
        }
    }

    private static void untilHisLastMinute() {
        due.part("until MINUTE and STAY less 1");
        for (int stay : new int[] {1, 2, 5, 59, 60}) {
            NobodyThere x = new NobodyThere();
            x.minutes(10);
            x.set(2, stay);
            strangerComes(x, 0);
            due.same("there in 11, if he stays", x.look(6), stay > 1 ? 1 : 0);
            if (stay > 1) {
                due.same("came", x.stranger(0, 2), 10);
                due.same("until", x.stranger(0, 1), 9 + stay);
                Due.waitUntil(x, 9 + stay);
                due.same("in his last one", x.look(6), 1);
                x.minutes(1);
                due.same("behind it", x.look(6), 0);
            }
        }
        NobodyThere x = new NobodyThere();
        Due.waitUntil(x, 499);
        x.set(2, 60);
        strangerComes(x, 0);
        due.same("there in 500", x.covered(500), 1);
        due.same("until 558", x.stranger(0, 1), 558);
        x = new NobodyThere();
        x.set(2, 5);
        strangerComes(x, 0);
        x.set(2, 60);
        due.same("as long as he was told when he came", x.stranger(0, 1), 4);
    }

    private static void lastOneIsBehind() {
        due.part("STRANGERS whose last one is behind go");
        NobodyThere x = new NobodyThere();
        x.set(2, 4);
        strangerComes(x, 1);
        x.set(2, 3);
        strangerComes(x, 2);
        x.set(2, 2);
        strangerComes(x, 3);
        due.same("three with one and the same last minute", x.look(6), 3);
        for (int i = 0; i < 3; i++) {
            due.same("until", x.stranger(i, 1), 3);
        }
        x.minutes(1);
        due.same("all go at once", x.look(6), 0);
        due.same("none", x.stranger(0, 0), -1);
        x.set(1, 1000);
        x.set(2, 1);
        due.same("each comes and is gone", x.minutes(100), 100);
        due.same("none is left", x.look(6), 0);
    }

    private static void tenShots() {
        due.part("A SHOT (10 at most)");
        NobodyThere x = new NobodyThere();
        for (int i = 0; i < 10; i++) {
            due.same("no such shot yet", x.shot(i, 0), -1);
            due.same("shoot()", x.shoot(), i);
            due.same("its minute", x.shot(i, 0), i);
            x.minutes(1);
        }
        due.same("no eleventh", x.shoot(), -1);
        due.same("ten", x.look(7), 10);
        due.same("the first is as it was", x.shot(0, 0), 0);
        due.same("the last is as it was", x.shot(9, 0), 9);
        due.same("no eleventh", x.shot(10, 0), -1);
    }

    private static void shotsAskForNoComers() {
        due.part("A SHOT: of what there is in this MINUTE ((a) of it not asked)");
        NobodyThere x = told(0, "walker 7 comes 0 at 0;");
        x.set(1, 1000);
        x.state(9);
        x.shoot();
        due.same("no draw", x.look(8), 9);
        due.same("no stranger", x.look(6), 0);
        due.same("the walker alone", x.shot(0, 3), 1);
        due.same("the minute stays", x.look(2), 0);
    }

    private static void shotsHaveTheirView() {
        due.part("A SHOT: MINUTE, STEP, WIDE; of each SPOT of THE VIEW whether it is COVERED, its TONE");
        NobodyThere x = told(0, "walker 7 comes 500 at 2;walker 8 comes 500 at 3;walker 9 comes 500 at 4;");
        Due.tell(x, 1, "shade x;");
        Due.waitUntil(x, 500);
        x.set(0, 2);
        x.step(3);
        x.shoot();
        x.set(0, 1);
        x.step(2);
        Due.tell(x, 1, "shade 77;");
        due.same("minute", x.shot(0, 0), 500);
        due.same("step", x.shot(0, 1), 3);
        due.same("wide", x.shot(0, 2), 2);
        due.same("covered", x.shot(0, 3), 2);
        due.same("left of it", x.book(0, 2, 1), -2);
        due.same("its first column", x.book(0, 3, 1), 8);
        due.same("its last column", x.book(0, 4, 1), 9);
        due.same("right of it", x.book(0, 5, 1), -2);
        due.same("clear: its shade then", x.book(0, 28, 1), 4);
    }

    private static void bookOfWalkers() {
        due.part("THE BOOK: the least WALKER");
        NobodyThere x = bridge(8, 7);
        StringBuilder text = new StringBuilder();
        for (int i = 0; i < 12; i++) {
            text.append("walker 1 comes 0 at ").append(i < 10 ? 11 - i : 55).append(';');
        }
        Due.tell(x, 0, text.toString());
        strangerComes(x, 55);
        due.same("the stranger is on 55", x.stranger(0, 0), 55);
        Due.tell(x, 0, text.toString().replace("comes 0", "comes 1"));
        x.shoot();
        for (int i = 0; i < 10; i++) {
            due.same("walker " + i, x.book(0, 11 - i, 0), i);
        }
        due.same("the least of 10, 11 and a stranger", x.book(0, 55, 0), 10);
        due.same("nobody", x.book(0, 54, 0), -1);
    }

    private static void bookOfStrangers() {
        due.part("THE BOOK: or 12 and the place of the STRANGER, or none");
        NobodyThere x = bridge(8, 7);
        x.set(2, 60);
        for (int i = 0; i < 8; i++) {
            strangerComes(x, i < 7 ? 55 - i : 55);
        }
        x.shoot();
        for (int i = 0; i < 7; i++) {
            due.same("stranger " + i, x.book(0, 55 - i, 0), 12 + i);
        }
        due.same("nobody", x.book(0, 48, 0), -1);
        x = bridge(8, 7);
        x.set(2, 60);
        for (int i = 0; i < 8; i++) {
            strangerComes(x, i);
        }
        x.shoot();
        due.same("the first place", x.book(0, 0, 0), 12);
        due.same("the last place", x.book(0, 7, 0), 19);
        Due.waitUntil(x, 60);
        x.shoot();
        due.same("he is gone", x.book(1, 0, 0), -1);
        due.same("the next has his place", x.book(1, 1, 0), 12);
        due.same("the last one", x.book(1, 7, 0), 18);
        due.same("the shot before is as it was", x.book(0, 7, 0), 19);
    }
}
