/** The promises one by one: ordinary inputs, the edges that the document names, wrong inputs. */
public final class PromisesTest {
    private static final int LEAST = Integer.MIN_VALUE;
    private static final int MOST = Integer.MAX_VALUE;
    private static final long ALL = Due.columns(0, 5, 4);
    /** On six by four: one stands, goes east along row 1, then north and out; one crosses row 0. */
    private static final String PAIR =
        "walker 30 comes 2 at 8 stand 2 east 3 north 2; walker 70 comes 0 at 0 east 9;";

    private static final Due due = new Due("PromisesTest");

    private PromisesTest() {
    }

    public static void main(String[] args) {
        p01NewObject();
        p02State();
        p03Bridge();
        p04Set();
        p05Step();
        p06Feed();
        p07End();
        p08Text();
        p08Walkers();
        p08Laws();
        p09FaultsOfWalkers();
        p09FaultsOfLaws();
        p09FaultsOfTokens();
        p10Minutes();
        p11Shoot();
        p12Of();
        p13Where();
        p14Stranger();
        p15Covered();
        p16At();
        p17Worth();
        p18Shot();
        p19Book();
        p20Waits();
        p21Row();
        p22Best();
        p23Steps();
        p24Laid();
        p25Fewest();
        p26Never();
        p27Most();
        p28Middle();
        p29Sure();
        p30Exposed();
        p31Ghosts();
        p32Nobody();
        p33Copies();
        p34Enough();
        p35Hours();
        p36Judged();
        p37WhenShot();
        p38Stander();
        p39With();
        p40Twos();
        p41Two();
        p42Paste();
        p43Picture();
        p44Undo();
        p44WhatForgets();
        p45Image();
        p46Look();
        readme();
        due.close();
    }

    private static NobodyThere told(String walkers) {
        NobodyThere x = new NobodyThere();
        if (Due.tell(x, 0, walkers) < 0) {
            due.same("telling " + walkers, x.fault(1), -1);
        }
        return x;
    }

    /** A bridge w by h on which a stranger comes every minute and stays so long. */
    private static NobodyThere crowded(int w, int h, int stay) {
        NobodyThere x = new NobodyThere();
        x.bridge(w, h);
        x.set(1, 1000);
        x.set(2, stay);
        return x;
    }

    private static void p01NewObject() {
        due.part("promise 1");
        NobodyThere x = new NobodyThere();
        int[] first = {6, 4, 0, 6, 0, 0, 0, 0, 0, 0, 0, 0, 0, 5, 20};
        for (int i = 0; i < first.length; i++) {
            due.same("look(" + i + ")", x.look(i), first[i]);
        }
        due.same("fault(0)", x.fault(0), 0);
        due.same("fault(1)", x.fault(1), -1);
        due.no("image(false)", x.image(false));
        due.no("undo()", x.undo());
        for (int c = 0; c < 64; c++) {
            boolean there = c % 8 < 6 && c / 8 < 4;
            due.same("picture", x.picture(10 + c), there ? -1 : -2);
            due.same("shade", x.at(c, 0, 1), there ? 50 : -1);
        }
        due.same("covered", x.covered(0), 0);
        due.same("tape is empty", x.feed(0, 0, 0, 0, 0), 20);
        due.same("NONE", NobodyThere.NONE, -1);
    }

    private static void p02State() {
        due.part("promise 2");
        NobodyThere x = new NobodyThere();
        due.same("state(5)", x.state(5), 0);
        due.same("state(MIN)", x.state(LEAST), 5);
        due.same("state(MAX)", x.state(MOST), LEAST);
        due.same("look(8)", x.look(8), MOST);
        due.same("state again", x.state(MOST), MOST);
        x.state(1);
        x.minutes(3);
        due.same("no draws without comers", x.look(8), 1);
        x.set(1, 1);
        x.minutes(1);
        due.same("one draw, none comes", x.look(8), 1664525 + 1013904223);
    }

    private static void p03Bridge() {
        due.part("promise 3");
        NobodyThere x = told(PAIR);
        due.no("bridge(1, 4)", x.bridge(1, 4));
        due.no("bridge(9, 4)", x.bridge(9, 4));
        due.no("bridge(4, 1)", x.bridge(4, 1));
        due.no("bridge(4, 8)", x.bridge(4, 8));
        due.no("bridge(MIN, MAX)", x.bridge(LEAST, MOST));
        due.same("nothing is done", x.look(5), 2);
        Due.tell(x, 1, "shade 1;");
        Due.tell(x, 2, "worth 1;");
        x.set(0, 3);
        x.set(1, 1000);
        x.set(2, 9);
        x.set(3, 9);
        x.minutes(4);
        x.shoot();
        x.paste(0, 0);
        x.step(1);
        x.image(true);
        int state = x.look(8);
        Due.tell(x, 0, "walker ?");
        x.feed(0, 0, 0, 0, 0);
        due.yes("bridge(8, 7)", x.bridge(8, 7));
        int[] after = {8, 7, 0, 8, 0, 0, 0, 0, state, 0, 0, 0, 0, 5, 20};
        for (int i = 0; i < after.length; i++) {
            due.same("look(" + i + ")", x.look(i), after[i]);
        }
        due.same("fault(0) stays", x.fault(0), 1);
        due.same("fault(1) stays", x.fault(1), 7);
        due.same("the tape stays", x.feed(0, 0, 0, 0, 0), 40);
        due.same("picture(10)", x.picture(10), -1);
        due.same("walkers are no more", x.covered(2), 0);
        due.same("the law of worth is no more", x.worth(0), 100);
        due.same("at(55)", x.at(55, 0, 1), 50);
        due.yes("the image stays", x.image(false));
        due.same("look(0)", x.look(0), 6);
        x.minutes(1);
        due.yes("the same bridge", x.bridge(6, 4));
        due.same("is told anew", x.look(2), 0);
        due.yes("bridge(2, 2)", x.bridge(2, 2));
        due.same("at(10)", x.at(10, 0, 1), -1);
        due.same("at(9)", x.at(9, 0, 1), 50);
    }

    private static void p04Set() {
        due.part("promise 4");
        NobodyThere x = new NobodyThere();
        due.yes("set(0, 1)", x.set(0, 1));
        x.step(5);
        due.yes("set(0, 1) again", x.set(0, 1));
        due.same("step is 0 then", x.look(4), 0);
        due.yes("set(0, 6)", x.set(0, 6));
        due.no("set(0, 0)", x.set(0, 0));
        due.no("set(0, 7)", x.set(0, 7));
        due.same("look(3)", x.look(3), 6);
        due.yes("set(1, 0)", x.set(1, 0));
        due.yes("set(1, 1000)", x.set(1, 1000));
        due.no("set(1, 1001)", x.set(1, 1001));
        due.no("set(1, -1)", x.set(1, -1));
        due.same("look(12)", x.look(12), 1000);
        due.yes("set(2, 1)", x.set(2, 1));
        due.yes("set(2, 60)", x.set(2, 60));
        due.no("set(2, 0)", x.set(2, 0));
        due.no("set(2, 61)", x.set(2, 61));
        due.same("look(13)", x.look(13), 60);
        due.yes("set(3, 0)", x.set(3, 0));
        due.yes("set(3, 99)", x.set(3, 99));
        due.no("set(3, -1)", x.set(3, -1));
        due.no("set(3, 100)", x.set(3, 100));
        due.same("look(14)", x.look(14), 99);
        due.no("set(4, 1)", x.set(4, 1));
        due.no("set(-1, 1)", x.set(-1, 1));
    }

    private static void p05Step() {
        due.part("promise 5");
        NobodyThere x = new NobodyThere();
        due.no("all columns: step(0)", x.step(0));
        due.no("step(1)", x.step(1));
        x.set(0, 4);
        due.no("step(-1)", x.step(-1));
        due.no("step(3)", x.step(3));
        due.no("step(MAX)", x.step(MOST));
        due.no("step(MIN)", x.step(LEAST));
        due.yes("step(2)", x.step(2));
        due.no("the same", x.step(2));
        due.same("look(4)", x.look(4), 2);
        due.yes("step(0)", x.step(0));
        due.same("look(11)", x.look(11), 2);
    }

    private static void p06Feed() {
        due.part("promise 6");
        NobodyThere x = new NobodyThere();
        for (int i = 1; i <= 20; i++) {
            due.same("feed " + i, x.feed(0x20202020, 0x20202020, 0x20202020, 0x20202020, 0x20202020), 20 * i);
        }
        due.same("more than 400", x.feed(0, 0, 0, 0, 0), -1);
        due.yes("nothing comes", x.end(400));
        due.yes("end(381)", x.end(381));
        due.same("401 are too many", x.feed(0, 0, 0, 0, 0), -1);
        x.end(380);
        due.same("400 are not", x.feed(0x20202020, 0x20202020, 0x20202020, 0x20202020, 0x20202020), 400);
        due.same("text(1)", x.text(1), 0);
        // "shade 1234567890;..." : the highest byte of each number first
        due.same("feed", x.feed(0x73686164, 0x65203132, 0x33343B20, 0x20202020, 0x20202020), 20);
        due.same("text(1)", x.text(1), 1);
        x.feed(0x73686164, 0x65203737, 0x3B200AFF, 0x80000000, -1);
        x.text(1);
        due.same("bytes without sign can't stand there", x.fault(1), 11);
    }

    private static void p07End() {
        due.part("promise 7");
        NobodyThere x = new NobodyThere();
        due.yes("end(0)", x.end(0));
        due.no("end(1)", x.end(1));
        due.no("end(-1)", x.end(-1));
        Due.feed(x, "shade 7; shade 8");
        due.no("end(17)", x.end(17));
        due.no("end(MIN)", x.end(LEAST));
        due.no("end(MAX)", x.end(MOST));
        due.yes("end(16)", x.end(16));
        due.yes("end(8)", x.end(8));
        due.no("end(9)", x.end(9));
        due.same("text(1)", x.text(1), 1);
        due.no("the tape is empty", x.end(1));
    }

    private static void p08Text() {
        due.part("promise 8");
        NobodyThere x = told(PAIR);
        due.same("look(5)", x.look(5), 2);
        due.same("a fault", Due.tell(x, 0, "walker 1 comes 1 at 0; walker"), -1);
        due.same("it stays as it was", x.look(5), 2);
        due.same("where", x.where(1, 5), 5);
        due.same("the tape is empty", x.feed(0, 0, 0, 0, 0), 20);
        due.same("text(3)", x.text(3), -1);
        due.same("tells 0", x.fault(0), 0);
        due.same("fault(1)", x.fault(1), -1);
        due.same("the tape is empty", x.feed(0, 0, 0, 0, 0), 20);
        due.same("text(-1)", x.text(-1), -1);
        due.same("told anew", Due.tell(x, 0, "walker 9 comes 500 at 29;"), 1);
        due.same("those that were are no more", x.covered(2), 0);
        due.same("covered(500)", x.covered(500), Due.spots(29));
        due.same("none", Due.tell(x, 0, ""), 0);
        due.same("look(5)", x.look(5), 0);
        due.same("laws", Due.tell(x, 1, "shade 1;shade 2;shade 3;"), 3);
        due.same("other laws", Due.tell(x, 2, "worth 1;"), 1);
        due.same("a fault in a law", Due.tell(x, 1, "shade 1;shade y y;"), -1);
        due.same("it stays", x.look(9), 3);
        due.same("its value too", x.at(0, 0, 1), 1);
        due.same("no line", Due.tell(x, 1, " \n "), 0);
        due.same("look(9)", x.look(9), 0);
        due.same("look(10)", x.look(10), 1);
    }

    private static void p08Walkers() {
        due.part("promise 8, walkers");
        NobodyThere x = told("walker 1 comes 3 at 9 stand 1 north 1 stand 1 west 1 south 3 east 2;");
        int[] way = {-1, -1, -1, 9, 9, 1, 1, 0, 8, 16, 24, 25, 26, -1};
        for (int m = 0; m < way.length; m++) {
            due.same("where(0, " + m + ")", x.where(0, m), way[m]);
        }
        Due.tell(x, 0, "walker 1 comes 0 at 1 west 2 east 5;walker 1 comes 0 at 25 south 1;walker 1 comes 0 at 5 east 1;"
            + "walker 1 comes 0 at 0 north 1 south 1;");
        due.same("at the rim", x.where(0, 1), 0);
        due.same("gone for good in the west", x.where(0, 2), -1);
        due.same("gone for good in the west", x.where(0, 3), -1);
        due.same("gone in the south", x.where(1, 1), -1);
        due.same("gone in the east", x.where(2, 1), -1);
        due.same("gone in the north", x.where(3, 2), -1);
        due.same("twelve", Due.tell(x, 0, "walker 1 comes 0 at 0;".repeat(12)), 12);
        due.same("the last of them", x.of(11, 0), 1);
        due.same("eight parts", Due.tell(x, 0, "walker 1 comes 0 at 0" + " stand 60".repeat(8) + ";"), 1);
        due.same("480 minutes more", x.of(0, 3), 481);
        due.same("no blanks are needed", Due.tell(x, 0, "walker1comes2at3stand4;"), 1);
        due.same("of", x.of(0, 3), 5);
        due.same("line breaks are blanks", Due.tell(x, 0, "\nwalker\n1\ncomes 0002 at\n3;\n\n"), 1);
        due.same("of", x.of(0, 1), 2);
    }

    private static int shade(String law, int spot, int minute) {
        NobodyThere x = new NobodyThere();
        due.same("text(1) of " + law, Due.tell(x, 1, law), law.chars().filter(c -> c == ';').count());
        return x.at(spot, minute, 1);
    }

    private static void p08Laws() {
        due.part("promise 8, laws");
        due.same("+ - from the left", shade("shade 9-3-2+1;", 0, 0), 5);
        due.same("* before +", shade("shade 1+2*3+4*5-1*2;", 0, 0), 25);
        due.same("* / from the left", shade("shade 7/2*3;", 0, 0), 9);
        due.same("/ behind *", shade("shade 7*3/2;", 0, 0), 10);
        due.same("/ before -", shade("shade 50+x-7/2;", 0, 0), 47);
        due.same("x", shade("shade x*10+y;", 21, 0), 52);
        due.same("minute", shade("shade minute/6;", 21, 500), 83);
        due.same("edge of a corner", shade("shade edge;", 0, 0), 1);
        due.same("edge in the east", shade("shade edge;", 13, 0), 1);
        due.same("edge in the south", shade("shade edge;", 26, 0), 1);
        due.same("edge inside", shade("shade edge;", 12, 0), 0);
        due.same("held to 99", shade("shade 100;", 0, 0), 99);
        due.same("held to 0", shade("shade 0-1;", 0, 0), 0);
        due.same("no line is so", shade("shade 1 when x>0;", 0, 0), 50);
        due.same("the first that is so", shade("shade 1 when x>0;shade 2 when x=0;shade 3;", 0, 0), 2);
        due.same("one without a test", shade("shade 1 when x>0;shade 3;shade 2 when x=0;", 0, 0), 3);
        due.same("and before or", shade("shade 1 when 1=1 or 1=2 and 1=2;shade 2;", 0, 0), 1);
        due.same("and before or, behind", shade("shade 1 when 1=2 and 1=2 or 1=1;shade 2;", 0, 0), 1);
        due.same("or of two ands", shade("shade 1 when 1=2 or 1=1 and 1=1 or 1=2;shade 2;", 0, 0), 1);
        due.same("( ) before and", shade("shade 1 when (1=1 or 1=2) and 1=2;shade 2;", 0, 0), 2);
        due.same("not of one test", shade("shade 1 when not 1=2 and 1=2;shade 2;", 0, 0), 2);
        due.same("not of ( )", shade("shade 1 when not (1=2 and 1=1);shade 2;", 0, 0), 1);
        due.same("not not", shade("shade 1 when not not 1<2;shade 2;", 0, 0), 1);
        due.same("<", shade("shade 1 when 2<2;shade 2 when 1<2;", 0, 0), 2);
        due.same(">", shade("shade 1 when 2>2;shade 2 when 3>2;", 0, 0), 2);
        due.same("=", shade("shade 1 when 3=2;shade 2 when 2=2;", 0, 0), 2);
        due.same("ints wrap", shade("shade 1 when 9999*9999*9999>0;shade 2;", 0, 0), 2);
        due.same("what wrapped is divided towards 0", shade("shade 8 when 0-9999*9999*9999/9999=9999*10+2755;", 0, 0), 8);
        due.same("tests of all kinds", shade("shade 1 when 1=1 and 1<2 and 3>2 and not 1=2 and (1=1 or 2=1);", 0, 0), 1);
        due.same("of which one is not so", shade("shade 1 when 1=1 and 1<2 and 3>2 and not 1=1 and 1=1;", 0, 0), 50);
        due.same("a part by 1", shade("shade 7/1;", 0, 0), 7);
        due.same("a full tape", shade("shade 1" + "+1*1-1".repeat(65) + "+1;", 0, 0), 2);
        NobodyThere x = new NobodyThere();
        due.same("sixteen lines", Due.tell(x, 2, "worth 1;".repeat(16)), 16);
        due.same("eight open", Due.tell(x, 1, "shade 3 when " + "(".repeat(8) + "1=1" + ")".repeat(8) + ";"), 1);
        due.same("at", x.at(0, 0, 1), 3);
        due.same("eight open, some closed", Due.tell(x, 1,
            "shade 4 when (not (1=2) and not (1=2)) and not not not not not not not not 1=1;"), 1);
        due.same("at", x.at(0, 0, 1), 4);
        String deep = "shade 5 when " + "1=2 or 1=1 and (".repeat(8) + "1=2 or 1=1 and 1+1*2=3" + ")".repeat(8) + ";";
        due.same("deep", Due.tell(x, 1, deep), 1);
        due.same("at", x.at(0, 0, 1), 5);
    }

    private static void faulty(int k, String text, int kind, int place) {
        NobodyThere x = new NobodyThere();
        due.same("text of <" + text + ">", Due.tell(x, k, text), -1);
        due.same("fault(0) of <" + text + ">", x.fault(0), kind);
        due.same("fault(1) of <" + text + ">", x.fault(1), place);
    }

    private static void p09FaultsOfWalkers() {
        due.part("promise 9, walkers");
        NobodyThere x = new NobodyThere();
        due.same("fault(2)", x.fault(2), -1);
        due.same("fault(-1)", x.fault(-1), -1);
        faulty(0, "walker ?", 1, 7);
        faulty(0, "walker 1 comes 1 at 0", 1, 21);
        faulty(0, "walker 1 comes 1 at 0  ", 1, 23);
        faulty(0, "walker 100 comes 501 at 99;", 2, 7);
        faulty(0, "walker 99 comes 501 at 99;", 2, 16);
        faulty(0, "walker 99 comes 500 at 6;", 2, 23);
        faulty(0, "walker 99 comes 500 at 32;", 2, 23);
        faulty(0, "walker 99 comes 500 at 9999;", 2, 23);
        faulty(0, "walker 99 comes 500 at 29 stand 0;", 2, 32);
        faulty(0, "walker 99 comes 500 at 29 stand 61;", 2, 32);
        faulty(0, "walker 99 comes 500 at 29 stand 60 east;", 1, 39);
        faulty(0, "walker 99 comes 500 at 29 up 1;", 1, 26);
        faulty(0, "walker 99 at 1 comes 1;", 1, 10);
        faulty(0, "walker 1 comes 1 at 0;;", 1, 22);
        faulty(0, "shade 1;", 1, 0);
        faulty(0, " comes", 1, 1);
        faulty(0, "walker 1 comes 1 at 0" + " east 1".repeat(9) + ";", 3, 78);
        faulty(0, "walker 1 comes 1 at 0" + " east 1".repeat(8) + " est 1;", 1, 78);
        faulty(0, "walker 1 comes 1 at 0;".repeat(13), 3, 264);
        faulty(0, "walker 1 comes 1 at 0;".repeat(12) + "worker", 1, 264);
        faulty(0, "walker 1 comes 1 at 0;".repeat(11) + "walker 1 comes 1 at 6;walker", 2, 262);
    }

    private static void p09FaultsOfLaws() {
        due.part("promise 9, laws");
        faulty(1, "shade", 1, 5);
        faulty(1, "shade 1", 1, 7);
        faulty(1, "shade 1 when", 1, 12);
        faulty(1, "shade 1 when 1;", 1, 14);
        faulty(1, "shade 1 when 1<;", 1, 15);
        faulty(1, "shade 1 when 1<2<3;", 1, 16);
        faulty(1, "shade 1 when (1<2;", 1, 17);
        faulty(1, "shade 1 when 1<2);", 1, 16);
        faulty(1, "shade 1 when (1)<2;", 1, 15);
        faulty(1, "shade 1 when 1<2 or;", 1, 19);
        faulty(1, "shade 1 when 1<2 and or;", 1, 21);
        faulty(1, "shade 1 when not;", 1, 16);
        faulty(1, "shade (1);", 1, 6);
        faulty(1, "shade -1;", 1, 6);
        faulty(1, "shade 1+;", 1, 8);
        faulty(1, "shade 1*;", 1, 8);
        faulty(1, "shade 6/x;", 1, 8);
        faulty(1, "shade 6/0;", 2, 8);
        faulty(1, "shade 6/0000;", 2, 8);
        faulty(1, "shade 1 when 6/0=1;", 2, 15);
        faulty(1, "shade 6/00000;", 1, 8);
        faulty(1, "shade 1 2;", 1, 8);
        faulty(1, "worth 1;", 1, 0);
        faulty(2, "shade 1;", 1, 0);
        String[] ofWorth = {"covered", "edges", "step", "people"};
        for (String name : ofWorth) {
            faulty(1, "shade " + name + ";", 1, 6);
            due.same("worth asks " + name, Due.tell(new NobodyThere(), 2, "worth " + name + ";"), 1);
        }
        String[] ofShade = {"x", "y", "edge"};
        for (String name : ofShade) {
            faulty(2, "worth " + name + ";", 1, 6);
            due.same("shade asks " + name, Due.tell(new NobodyThere(), 1, "shade " + name + ";"), 1);
        }
        due.same("both ask minute", Due.tell(new NobodyThere(), 2, "worth minute;"), 1);
        faulty(1, "shade walker;", 1, 6);
        faulty(1, "shade 1;".repeat(17), 3, 128);
        faulty(1, "shade 1;".repeat(16) + "worth 1;", 1, 128);
        faulty(2, "worth 1;".repeat(17), 3, 128);
        faulty(1, "shade 1 when " + "not ".repeat(9) + "1=1;", 3, 45);
        faulty(1, "shade 1 when " + "(".repeat(9) + "1=1;", 3, 21);
        faulty(1, "shade 1 when " + "not(".repeat(5) + "1=1;", 3, 29);
        faulty(1, "shade 1 when " + "(".repeat(8) + "1=1 and not 1=1;", 3, 29);
        faulty(1, "shade 1 when " + "(".repeat(8) + "1=1" + ")".repeat(8) + " and " + "(".repeat(9), 3, 45);
    }

    private static void p09FaultsOfTokens() {
        due.part("promise 9, tokens");
        faulty(1, "shade 12345;", 1, 6);
        faulty(1, "shade 00001;", 1, 6);
        due.same("four digits", Due.tell(new NobodyThere(), 1, "shade 0001;"), 1);
        faulty(1, "shades 1;", 1, 0);
        faulty(1, "Shade 1;", 1, 0);
        faulty(1, "shadE 1;", 1, 0);
        faulty(1, "shadeX 1;", 1, 0);
        faulty(1, "shadeA 1;", 1, 0);
        faulty(1, "shadeZ 1;", 1, 0);
        faulty(1, "shadea 1;", 1, 0);
        faulty(1, "shadez 1;", 1, 0);
        faulty(1, "shade[1;", 1, 5);
        faulty(1, "shade@1;", 1, 5);
        faulty(1, "shade`1;", 1, 5);
        faulty(1, "shade{1;", 1, 5);
        faulty(1, "shade 1:", 1, 7);
        faulty(0, ";".repeat(400), 1, 0);
        faulty(1, "shade 1" + "+1".repeat(196) + " ", 1, 400);
        faulty(1, "shade xy;", 1, 6);
        faulty(1, "shade x y;", 1, 8);
        faulty(1, "shade x2;", 1, 7);
        faulty(1, "shade 2x;", 1, 7);
        faulty(1, "shade\t1;", 1, 5);
        faulty(1, "shade\r1;", 1, 5);
        faulty(1, "shade 1," + (char) 233, 1, 7);
        faulty(1, "shade 1" + (char) 0, 1, 7);
        faulty(1, "shade 1 when 1==1;", 1, 15);
        faulty(1, "shade 1;\n\n?", 1, 10);
        faulty(0, "walker 12345 comes 1 at 0;", 1, 7);
    }

    private static void p10Minutes() {
        due.part("promise 10");
        NobodyThere x = new NobodyThere();
        due.same("minutes(0)", x.minutes(0), -1);
        due.same("minutes(-1)", x.minutes(-1), -1);
        due.same("minutes(101)", x.minutes(101), -1);
        due.same("minutes(MAX)", x.minutes(MOST), -1);
        due.same("minutes(MIN)", x.minutes(LEAST), -1);
        due.same("look(2)", x.look(2), 0);
        for (int i = 0; i < 4; i++) {
            due.same("minutes(100)", x.minutes(100), 0);
        }
        due.same("minutes(99)", x.minutes(99), 0);
        due.same("minutes(2)", x.minutes(2), -1);
        due.same("look(2)", x.look(2), 499);
        due.same("minutes(1)", x.minutes(1), 0);
        due.same("minutes(1)", x.minutes(1), -1);
        due.same("look(2)", x.look(2), 500);
        // every minute one comes and goes again at once
        x = crowded(6, 4, 1);
        due.same("a hundred came", x.minutes(100), 100);
        due.same("none is there", x.look(6), 0);
        // eight at most; the ninth is not drawn for
        x = crowded(6, 4, 60);
        due.same("eight came", x.minutes(20), 8);
        int state = x.look(8);
        due.same("look(6)", x.look(6), 8);
        x.minutes(39);
        due.same("no draws with eight", x.look(8), state);
        due.same("still eight", x.look(6), 8);
        x.minutes(1);
        due.same("the first is gone in minute 60", x.look(6), 7);
        due.same("the next one comes", x.minutes(1), 1);
        // draws: 563 first, so below 564 one comes
        x = new NobodyThere();
        x.set(1, 563);
        due.same("563 is not below 563", x.minutes(1), 0);
        x = new NobodyThere();
        x.set(1, 564);
        due.same("563 is below 564", x.minutes(1), 1);
        due.same("state", x.look(8), 1196435762);
        due.same("its spot is the second draw, row by row", x.stranger(0, 0), 4673577 % 24 / 6 * 8 + 4673577 % 24 % 6);
    }

    private static void p11Shoot() {
        due.part("promise 11");
        NobodyThere x = new NobodyThere();
        for (int i = 0; i < 10; i++) {
            due.same("shoot()", x.shoot(), i);
        }
        due.same("the eleventh", x.shoot(), -1);
        due.same("look(7)", x.look(7), 10);
        x.undo();
        due.same("the tenth again", x.shoot(), 9);
        // a stranger comes in the minute that goes by, not in the shot's
        x = crowded(6, 4, 5);
        x.shoot();
        due.same("nobody yet", x.shot(0, 3), 0);
        x.minutes(1);
        x.shoot();
        due.same("one", x.shot(1, 3), 1);
        due.same("the first stays as it was", x.shot(0, 3), 0);
    }

    private static void p12Of() {
        due.part("promise 12");
        NobodyThere x = told(PAIR + "walker 5 comes 499 at 29 stand 60;");
        int[] first = {30, 2, 8, 7, -1, -2};
        int[] second = {70, 0, 0, 6, 0, -2};
        int[] third = {5, 499, 29, 2, -1, -2};
        for (int what = 0; what < 6; what++) {
            due.same("of(0, " + what + ")", x.of(0, what), first[what]);
            due.same("of(1, " + what + ")", x.of(1, what), second[what]);
            due.same("of(2, " + what + ")", x.of(2, what), third[what]);
        }
        x.minutes(6);
        due.same("now", x.of(0, 4), 10);
        due.same("gone", x.of(1, 4), -1);
        due.same("of(3, 0)", x.of(3, 0), -2);
        due.same("of(-1, 0)", x.of(-1, 0), -2);
        due.same("of(0, -1)", x.of(0, -1), -2);
        due.same("of(MAX, 4)", x.of(MOST, 4), -2);
    }

    private static void p13Where() {
        due.part("promise 13");
        NobodyThere x = told(PAIR);
        int[] first = {-1, -1, 8, 8, 8, 9, 10, 11, 3, -1};
        for (int m = 0; m < first.length; m++) {
            due.same("where(0, " + m + ")", x.where(0, m), first[m]);
            due.same("where(1, " + m + ")", x.where(1, m), m < 6 ? m : -1);
        }
        due.same("where(0, -1)", x.where(0, -1), -1);
        due.same("where(0, 501)", x.where(0, 501), -1);
        due.same("where(2, 3)", x.where(2, 3), -1);
        due.same("where(-1, 3)", x.where(-1, 3), -1);
        due.same("where(MIN, MAX)", x.where(LEAST, MOST), -1);
        x.minutes(50);
        due.same("told minutes, all of them", x.where(0, 2), 8);
        Due.tell(x, 0, "walker 1 comes 500 at 29 stand 1;");
        due.same("where(0, 500)", x.where(0, 500), 29);
    }

    private static void p14Stranger() {
        due.part("promise 14");
        NobodyThere x = crowded(4, 3, 2);
        due.same("none yet", x.stranger(0, 0), -1);
        x.minutes(1);
        due.same("spot", x.stranger(0, 0), 17);
        due.same("last minute", x.stranger(0, 1), 1);
        due.same("came", x.stranger(0, 2), 0);
        due.same("stranger(0, 3)", x.stranger(0, 3), -1);
        due.same("stranger(0, -1)", x.stranger(0, -1), -1);
        due.same("stranger(1, 0)", x.stranger(1, 0), -1);
        due.same("stranger(-1, 0)", x.stranger(-1, 0), -1);
        x.minutes(1);
        due.same("the first is gone, the next is in its place", x.stranger(0, 0), 11);
        due.same("came", x.stranger(0, 2), 1);
        x = crowded(4, 3, 60);
        x.minutes(8);
        for (int i = 0; i < 8; i++) {
            due.same("in the order in which they came", x.stranger(i, 2), i);
            due.same("until", x.stranger(i, 1), i + 59);
        }
        due.same("stranger(8, 2)", x.stranger(8, 2), -1);
    }

    private static void p15Covered() {
        due.part("promise 15");
        NobodyThere x = told(PAIR);
        x.set(0, 2);
        due.same("of the bridge, not of the view", x.covered(5), Due.spots(9, 5));
        due.same("covered(2)", x.covered(2), Due.spots(8, 2));
        due.same("covered(9)", x.covered(9), 0);
        due.same("covered(500)", x.covered(500), 0);
        due.same("covered(501)", x.covered(501), -1);
        due.same("covered(-1)", x.covered(-1), -1);
        x = crowded(4, 3, 2);
        x.minutes(1);
        due.same("from the minute in which he came", x.covered(0), Due.spots(17));
        due.same("until his last one", x.covered(1), Due.spots(17));
        due.same("not longer", x.covered(2), 0);
        x.minutes(1);
        due.same("only those that there are now", x.covered(0), 0);
        due.same("the second", x.covered(1), Due.spots(11));
        x = new NobodyThere();
        x.bridge(8, 7);
        Due.tell(x, 0, "walker 1 comes 0 at 55;");
        due.same("the last spot", x.covered(0), 1L << 55);
    }

    private static void p16At() {
        due.part("promise 16");
        NobodyThere x = told(PAIR + "walker 40 comes 2 at 8;");
        Due.tell(x, 1, "shade x+minute;");
        due.same("covered", x.at(8, 2, 0), 1);
        due.same("shade under him", x.at(8, 2, 1), 2);
        due.same("tone of the least walker", x.at(8, 2, 2), 30);
        due.same("not covered", x.at(9, 2, 0), 0);
        due.same("shade", x.at(9, 2, 1), 3);
        due.same("tone is shade", x.at(9, 2, 2), 3);
        due.same("at(9, 2, 3)", x.at(9, 2, 3), -1);
        due.same("at(9, 2, -1)", x.at(9, 2, -1), -1);
        due.same("at(6, 2, 0)", x.at(6, 2, 0), -1);
        due.same("at(32, 2, 0)", x.at(32, 2, 0), -1);
        due.same("at(-1, 2, 0)", x.at(-1, 2, 0), -1);
        due.same("at(MAX, 2, 0)", x.at(MOST, 2, 0), -1);
        due.same("at(9, 501, 0)", x.at(9, 501, 0), -1);
        due.same("at(9, -1, 0)", x.at(9, -1, 0), -1);
        due.same("at(29, 500, 1)", x.at(29, 500, 1), 99);
        x = crowded(4, 3, 2);
        x.minutes(1);
        due.same("grey", x.at(17, 1, 2), 20);
        x.set(3, 77);
        due.same("grey as it is now", x.at(17, 1, 2), 77);
        due.same("gone", x.at(17, 2, 2), 50);
        Due.tell(x, 0, "walker 3 comes 1 at 17;");
        due.same("a walker before a stranger", x.at(17, 1, 2), 3);
        due.same("stranger alone", x.at(17, 0, 2), 77);
    }

    private static void p17Worth() {
        due.part("promise 17");
        NobodyThere x = told(PAIR + "walker 1 comes 2 at 8;");
        due.same("100 less covered", x.worth(2), 98);
        due.same("worth(500)", x.worth(500), 100);
        due.same("worth(501)", x.worth(501), -1000);
        due.same("worth(-1)", x.worth(-1), -1000);
        Due.tell(x, 2, "worth minute+10*covered+100*edges+200*people;");
        due.same("all columns", x.worth(2), 2 + 20 + 100 + 600);
        x.set(0, 2);
        due.same("columns 0, 1", x.worth(2), 2 + 10 + 100 + 400);
        x.step(1);
        due.same("columns 1, 2", x.worth(2), 2 + 10 + 100 + 200);
        x.set(0, 1);
        due.same("one column is the first and the last", x.worth(2), 2 + 10 + 100 + 400);
        x.set(0, 3);
        x.step(1);
        due.same("inside", x.worth(2), 2 + 10 + 200);
        Due.tell(x, 2, "worth step*7;");
        due.same("step", x.worth(9), 7);
        Due.tell(x, 2, "worth 9999;");
        due.same("held to 999", x.worth(2), 999);
        Due.tell(x, 2, "worth 0-9999;");
        due.same("held to -999", x.worth(2), -999);
        Due.tell(x, 2, "worth 5 when covered>0;worth 6 when minute>400;");
        due.same("first", x.worth(2), 5);
        due.same("second", x.worth(401), 6);
        due.same("none", x.worth(400), 100);
        x = crowded(4, 3, 2);
        x.minutes(1);
        Due.tell(x, 2, "worth people*100+covered;");
        due.same("a stranger counts", x.worth(1), 101);
        Due.tell(x, 0, "walker 3 comes 1 at 17;");
        due.same("and who is with him", x.worth(1), 201);
        due.same("gone", x.worth(2), 0);
    }

    private static void p18Shot() {
        due.part("promise 18");
        NobodyThere x = told(PAIR);
        x.minutes(2);
        x.shoot();
        x.set(0, 2);
        x.step(1);
        x.minutes(3);
        x.shoot();
        int[] first = {2, 0, 6, 2, -1};
        int[] second = {5, 1, 2, 1, -1};
        for (int what = 0; what < 5; what++) {
            due.same("shot(0, " + what + ")", x.shot(0, what), first[what]);
            due.same("shot(1, " + what + ")", x.shot(1, what), second[what]);
        }
        due.same("shot(0, -1)", x.shot(0, -1), -1);
        due.same("shot(2, 0)", x.shot(2, 0), -1);
        due.same("shot(-1, 0)", x.shot(-1, 0), -1);
        due.same("shot(MAX, 0)", x.shot(MOST, 0), -1);
    }

    private static void p19Book() {
        due.part("promise 19");
        NobodyThere x = told(PAIR + "walker 40 comes 2 at 8;");
        Due.tell(x, 1, "shade x*9;");
        x.set(0, 3);
        x.minutes(2);
        x.shoot();
        due.same("the least walker", x.book(0, 8, 0), 0);
        due.same("his tone", x.book(0, 8, 1), 30);
        due.same("the other", x.book(0, 2, 0), 1);
        due.same("nobody", x.book(0, 1, 0), -1);
        due.same("shade", x.book(0, 1, 1), 9);
        due.same("not in its view", x.book(0, 3, 0), -2);
        due.same("no such spot", x.book(0, 6, 0), -2);
        due.same("no such spot", x.book(0, 56, 0), -2);
        due.same("no such spot", x.book(0, -1, 0), -2);
        due.same("no such shot", x.book(1, 1, 0), -2);
        due.same("no such shot", x.book(-1, 1, 0), -2);
        due.same("another what", x.book(0, 1, 2), -2);
        due.same("another what", x.book(0, 1, -1), -2);
        x.set(0, 6);
        Due.tell(x, 1, "shade 1;");
        Due.tell(x, 0, "");
        due.same("it stays as it was: who", x.book(0, 8, 0), 0);
        due.same("it stays as it was: tone", x.book(0, 1, 1), 9);
        due.same("it stays as it was: view", x.book(0, 3, 0), -2);
        // 4673577 % 12 = 9: the first is on 17; eight of them, told by their places
        x = crowded(2, 2, 60);
        x.minutes(8);
        x.shoot();
        for (int c : new int[] {0, 1, 8, 9}) {
            int who = -1;
            for (int i = 7; i >= 0; i--) {
                who = x.stranger(i, 0) == c ? 12 + i : who;
            }
            due.same("the first stranger on " + c, x.book(0, c, 0), who);
            due.same("tone", x.book(0, c, 1), who == -1 ? 50 : 20);
        }
        x = crowded(4, 3, 2);
        x.minutes(2);
        x.shoot();
        due.same("a stranger", x.book(0, 11, 0), 12);
        due.same("one who is gone", x.book(0, 17, 0), -1);
    }

    private static void p20Waits() {
        due.part("promise 20");
        NobodyThere x = told(PAIR);
        due.same("all columns", x.waits(), 9);
        x.set(0, 2);
        due.same("columns 0, 1", x.waits(), 6);
        x.step(2);
        due.same("columns 2, 3: free now", x.waits(), 0);
        x.minutes(2);
        due.same("from this minute on", x.waits(), 4);
        x.minutes(3);
        due.same("this one counts", x.waits(), 5);
        x.minutes(95);
        for (int i = 0; i < 4; i++) {
            x.minutes(100);
        }
        due.same("minute 500", x.waits(), 500);
        Due.tell(x, 0, "walker 1 comes 500 at 2;");
        due.same("none", x.waits(), -1);
        x = crowded(4, 3, 5);
        x.minutes(1);
        due.same("until the stranger is gone", x.waits(), 5);
    }

    private static void p21Row() {
        due.part("promise 21");
        NobodyThere x = told("walker 1 comes 10 at 0;walker 1 comes 21 at 1;walker 1 comes 32 at 2;"
            + "walker 1 comes 43 at 0" + " stand 60".repeat(8) + ";");
        due.same("how long", x.row(0), 10);
        due.same("the first of several", x.row(1), 0);
        due.same("row(2)", x.row(2), -1);
        due.same("row(-1)", x.row(-1), -1);
        x.minutes(1);
        due.same("from this minute on", x.row(1), 11);
        x.minutes(30);
        due.same("how long", x.row(0), 10);
        due.same("first", x.row(1), 33);
        x.minutes(12);
        due.same("none", x.row(0), 0);
        due.same("no first", x.row(1), -1);
        x.set(0, 3);
        x.step(3);
        due.same("in the view", x.row(0), 458);
        due.same("to 500", x.row(1), 43);
    }

    private static void p22Best() {
        due.part("promise 22");
        NobodyThere x = told(PAIR);
        due.same("minute", x.best(0), 9);
        due.same("worth", x.best(1), 100);
        due.same("best(2)", x.best(2), -1000);
        due.same("best(-1)", x.best(-1), -1000);
        Due.tell(x, 2, "worth minute when minute<7;worth 6 when minute<9;worth 0-minute;");
        due.same("of several the first", x.best(0), 6);
        due.same("worth", x.best(1), 6);
        x.minutes(7);
        due.same("from this one on", x.best(0), 7);
        Due.tell(x, 2, "worth 0-9999;");
        due.same("the least worth there is", x.best(0), 7);
        due.same("worth", x.best(1), -999);
        Due.tell(x, 2, "worth minute;");
        due.same("to 500", x.best(0), 500);
        for (int i = 0; i < 4; i++) {
            x.minutes(100);
        }
        x.minutes(93);
        due.same("in 500", x.best(0), 500);
        due.same("in 500", x.best(1), 500);
    }

    private static void p23Steps() {
        due.part("promise 23");
        NobodyThere x = told(PAIR);
        due.same("one step alone", x.steps(0, 8), 0);
        x.set(0, 2);
        due.same("most free minutes", x.steps(0, 8), 4);
        due.same("of several the least", x.steps(9, 500), 0);
        due.same("one minute", x.steps(0, 0), 1);
        due.same("steps(0, 1)", x.steps(0, 1), 2);
        due.same("steps(8, 0)", x.steps(8, 0), -1);
        due.same("steps(-1, 3)", x.steps(-1, 3), -1);
        due.same("steps(3, 501)", x.steps(3, 501), -1);
        x.step(3);
        due.same("whatever the step now", x.steps(0, 0), 1);
        due.same("nothing of it stays", x.look(4), 3);
    }

    /** Three shots of one walker along row 0 of a bridge of three by two: at 0, at 1, at 2. */
    private static NobodyThere threeShots() {
        NobodyThere x = new NobodyThere();
        x.bridge(3, 2);
        Due.tell(x, 0, "walker 9 comes 0 at 0 east 3;");
        x.shoot();
        x.minutes(1);
        x.shoot();
        x.minutes(1);
        x.shoot();
        return x;
    }

    private static void p24Laid() {
        due.part("promise 24");
        NobodyThere x = threeShots();
        long all = Due.columns(0, 2, 2);
        due.same("laid(0)", x.laid(0), 0);
        due.same("laid(1)", x.laid(1), all - 1);
        due.same("laid(2)", x.laid(2), all - 2);
        due.same("laid(3)", x.laid(3), all);
        due.same("laid(7)", x.laid(7), all);
        due.same("laid(8)", x.laid(8), -1);
        due.same("laid(-1)", x.laid(-1), -1);
        due.same("laid(MIN)", x.laid(LEAST), -1);
        x.set(0, 1);
        due.same("of the view now", x.laid(1), Due.spots(8));
        x.step(1);
        due.same("of the view now", x.laid(1), Due.spots(1, 9));
        x.shoot();
        x.set(0, 3);
        due.same("in its view", x.laid(8), Due.spots(1, 9));
        due.same("with another", x.laid(9), all - 1);
    }

    private static void p25Fewest() {
        due.part("promise 25");
        NobodyThere x = new NobodyThere();
        due.same("without shots", x.fewest(0), 0);
        due.same("without shots", x.fewest(1), 0);
        due.same("without shots", x.fewest(2), 0);
        x = threeShots();
        due.same("two", x.fewest(0), 2);
        due.same("the least set", x.fewest(1), 3);
        due.same("greedy", x.fewest(2), 2);
        due.same("fewest(3)", x.fewest(3), -1);
        due.same("fewest(-1)", x.fewest(-1), -1);
        x.minutes(1);
        x.shoot();
        due.same("one does it", x.fewest(0), 1);
        due.same("the fourth", x.fewest(1), 8);
        due.same("greedy takes it first", x.fewest(2), 1);
        // a spot that is never clear: as many as by all, and none more is taken
        x = new NobodyThere();
        x.bridge(2, 2);
        Due.tell(x, 0, "walker 1 comes 0 at 0 stand 9;walker 1 comes 0 at 1 stand 9;walker 1 comes 0 at 8 stand 9;"
            + "walker 1 comes 0 at 9 stand 9;");
        x.shoot();
        due.same("nothing can be laid", x.fewest(0), 0);
        due.same("the empty set", x.fewest(1), 0);
        due.same("greedy takes none", x.fewest(2), 0);
        p25Greedy();
    }

    /** Views of one column each and one of all: the greedy way takes one more than need be. */
    private static void p25Greedy() {
        NobodyThere x = new NobodyThere();
        x.bridge(6, 2);
        // shot 0 has columns 1 .. 4 clear (8 spots); shot 1 has columns 0 .. 2, shot 2 columns 3 .. 5
        x.set(0, 4);
        x.step(1);
        x.shoot();
        x.set(0, 3);
        x.shoot();
        x.step(3);
        x.shoot();
        x.set(0, 6);
        due.same("two are enough", x.fewest(0), 2);
        due.same("shots 1 and 2", x.fewest(1), 6);
        due.same("greedy takes three", x.fewest(2), 3);
        // of three that lay as many the least is taken, though another would have done better
        NobodyThere y = new NobodyThere();
        y.bridge(6, 2);
        y.set(0, 3);
        y.step(1);
        y.shoot();
        y.step(0);
        y.shoot();
        y.step(3);
        y.shoot();
        y.set(0, 6);
        due.same("greedy takes the least of several", y.fewest(2), 3);
        due.same("two are enough", y.fewest(1), 6);
        x.set(0, 4);
        x.step(1);
        due.same("of the view now: one", x.fewest(0), 1);
        due.same("shot 0", x.fewest(1), 1);
        due.same("greedy", x.fewest(2), 1);
    }

    private static void p26Never() {
        due.part("promise 26");
        NobodyThere x = told(PAIR);
        due.same("never(2, 4)", x.never(2, 4), Due.spots(8));
        due.same("never(2, 5)", x.never(2, 5), 0);
        due.same("one minute", x.never(3, 3), Due.spots(8, 3));
        x.set(0, 2);
        due.same("of the view", x.never(3, 3), Due.spots(8));
        due.same("never(4, 3)", x.never(4, 3), -1);
        due.same("never(-1, 3)", x.never(-1, 3), -1);
        due.same("never(0, 501)", x.never(0, 501), -1);
        due.same("never(0, 500)", x.never(0, 500), 0);
    }

    private static void p27Most() {
        due.part("promise 27");
        NobodyThere x = threeShots();
        long all = Due.columns(0, 2, 2);
        due.same("most(0)", x.most(0), 0);
        due.same("most(1)", x.most(1), all - 1);
        due.same("half is not more than half", x.most(3), all - 3);
        due.same("two of three", x.most(7), all);
        due.same("most(8)", x.most(8), -1);
        due.same("most(-1)", x.most(-1), -1);
        x.set(0, 1);
        due.same("spots of the bridge, not of the view", x.most(7), all);
        x.step(2);
        x.shoot();
        due.same("those shots that have them in view", x.most(9), all - 1 - 4);
        due.same("by it alone", x.most(8), Due.spots(10));
    }

    private static void p28Middle() {
        due.part("promise 28");
        NobodyThere x = new NobodyThere();
        int[] greys = {40, 10, 30, 20};
        x.set(0, 3);
        for (int grey : greys) {
            Due.tell(x, 1, "shade " + grey + "+x;");
            x.shoot();
        }
        due.same("of one", x.middle(1, 0), 40);
        due.same("of two the lesser", x.middle(3, 0), 10);
        due.same("of three", x.middle(7, 0), 30);
        due.same("of four the lesser one of both", x.middle(15, 0), 20);
        due.same("of another spot", x.middle(15, 18), 22);
        due.same("middle(14, 0)", x.middle(14, 0), 20);
        due.same("none", x.middle(0, 0), -1);
        due.same("not in view", x.middle(15, 3), -1);
        due.same("no such spot", x.middle(15, 6), -1);
        due.same("no such spot", x.middle(15, -1), -1);
        due.same("no such set", x.middle(16, 0), -1);
        due.same("no such set", x.middle(-1, 0), -1);
        x.step(3);
        x.shoot();
        due.same("one of five has it", x.middle(31, 5), 25);
        due.same("four of five have it", x.middle(31, 0), 20);
        Due.tell(x, 1, "shade 26;");
        x.shoot();
        due.same("one apart", x.middle(48, 5), 25);
        Due.tell(x, 1, "shade 0;");
        x.shoot();
        due.same("none less than 0", x.middle(64, 5), 0);
        due.same("none less than 0", x.middle(96, 5), 0);
        Due.tell(x, 1, "shade 25;");
        x.shoot();
        due.same("of three, one apart", x.middle(32 + 128 + 64, 5), 25);
        due.same("the lesser one of 26 and 25", x.middle(32 + 128, 5), 25);
    }

    private static void p29Sure() {
        due.part("promise 29");
        NobodyThere x = threeShots();
        long all = Due.columns(0, 2, 2);
        due.same("sure(7, 1)", x.sure(7, 1), all);
        due.same("sure(7, 2)", x.sure(7, 2), all);
        due.same("sure(7, 3)", x.sure(7, 3), Due.columns(0, 2, 2) - 7);
        due.same("sure(7, 4)", x.sure(7, 4), 0);
        due.same("sure(3, 2)", x.sure(3, 2), all - 3);
        due.same("sure(0, 1)", x.sure(0, 1), 0);
        due.same("sure(7, 10)", x.sure(7, 10), 0);
        due.same("sure(7, 0)", x.sure(7, 0), -1);
        due.same("sure(7, 11)", x.sure(7, 11), -1);
        due.same("sure(8, 1)", x.sure(8, 1), -1);
        due.same("sure(-1, 1)", x.sure(-1, 1), -1);
        x.set(0, 1);
        due.same("spots of the bridge", x.sure(7, 3), all - 7);
        x.step(1);
        x.shoot();
        due.same("only what is in view", x.sure(8, 1), Due.spots(1, 9));
    }

    private static void p30Exposed() {
        due.part("promise 30");
        NobodyThere x = told(PAIR);
        due.same("minutes", x.exposed(2, 8, 8, 0), 3);
        due.same("the mean goes downwards", x.exposed(2, 8, 8, 1), (3 * 30 + 4 * 50) / 7);
        due.same("a and b count", x.exposed(2, 4, 8, 0), 3);
        due.same("a and b count", x.exposed(4, 5, 8, 0), 1);
        due.same("one minute", x.exposed(2, 2, 8, 1), 30);
        due.same("all minutes", x.exposed(0, 500, 8, 0), 3);
        due.same("a spot outside the view too", x.set(0, 1) ? x.exposed(0, 8, 5, 0) : 0, 1);
        due.same("another what", x.exposed(2, 8, 8, 2), -1);
        due.same("another what", x.exposed(2, 8, 8, -1), -1);
        due.same("no such spot", x.exposed(2, 8, 7, 0), -1);
        due.same("no such spot", x.exposed(2, 8, -1, 1), -1);
        due.same("a above b", x.exposed(8, 2, 8, 0), -1);
        due.same("b above 500", x.exposed(2, 501, 8, 0), -1);
        due.same("a below 0", x.exposed(-1, 2, 8, 0), -1);
    }

    private static void p31Ghosts() {
        due.part("promise 31");
        NobodyThere x = told(PAIR);
        due.same("ghosts(2, 8)", x.ghosts(2, 8), Due.spots(8, 9, 10, 11, 2, 3, 4, 5));
        due.same("three of five are more than half", x.ghosts(2, 6), Due.spots(9, 10, 2, 3, 4, 5));
        due.same("three of six are not", x.ghosts(2, 7), Due.spots(8, 9, 10, 11, 2, 3, 4, 5));
        due.same("one of one is", x.ghosts(2, 2), 0);
        x.set(0, 1);
        due.same("of the bridge", x.ghosts(2, 7), Due.spots(8, 9, 10, 11, 2, 3, 4, 5));
        due.same("ghosts(9, 500)", x.ghosts(9, 500), 0);
        due.same("ghosts(3, 2)", x.ghosts(3, 2), -1);
        due.same("ghosts(-1, 2)", x.ghosts(-1, 2), -1);
        due.same("ghosts(3, 501)", x.ghosts(3, 501), -1);
    }

    private static void p32Nobody() {
        due.part("promise 32");
        NobodyThere x = new NobodyThere();
        due.same("no comers", x.nobody(500), 1000000);
        x.set(1, 333);
        int chance = 1000000;
        for (int n = 0; n <= 20; n++) {
            due.same("nobody(" + n + ")", x.nobody(n), chance);
            chance = (int) (chance * 667L / 1000);
        }
        due.same("downwards each time", x.nobody(3), 296740);
        due.same("nobody(501)", x.nobody(501), -1);
        due.same("nobody(-1)", x.nobody(-1), -1);
        x.set(1, 1000);
        due.same("nobody(0)", x.nobody(0), 1000000);
        due.same("nobody(1)", x.nobody(1), 0);
    }

    private static void p33Copies() {
        due.part("promise 33");
        NobodyThere x = new NobodyThere();
        due.same("one", x.copies(1, 1), 999000);
        due.same("three", x.copies(3, 100), 972000);
        due.same("five", x.copies(5, 100), 991440);
        // the last copy: 442225 * 335 and 445550 * 665, both downwards, then added; and 442225 * 665
        due.same("three with rests", x.copies(3, 335), 148145 + 296290 + 294079);
        due.same("surely right", x.copies(15, 0), 1000000);
        due.same("surely wrong", x.copies(15, 1000), 0);
        due.same("even", x.copies(2, 100), -1);
        due.same("none", x.copies(0, 100), -1);
        due.same("below", x.copies(-1, 100), -1);
        due.same("below", x.copies(-3, 100), -1);
        due.same("too many", x.copies(17, 100), -1);
        due.same("e above", x.copies(3, 1001), -1);
        due.same("e below", x.copies(3, -1), -1);
    }

    private static void p34Enough() {
        due.part("promise 34");
        NobodyThere x = new NobodyThere();
        due.same("at least", x.enough(100, 972000), 3);
        due.same("more", x.enough(100, 972001), 5);
        due.same("enough(100, 0)", x.enough(100, 0), 1);
        due.same("enough(1000, 0)", x.enough(1000, 0), 1);
        due.same("enough(1000, 1)", x.enough(1000, 1), -1);
        due.same("fifteen are", x.enough(300, x.copies(15, 300)), 15);
        due.same("fifteen are not", x.enough(300, x.copies(15, 300) + 1), -1);
        due.same("enough(0, 1000000)", x.enough(0, 1000000), 1);
        due.same("m above", x.enough(0, 1000001), -1);
        due.same("m below", x.enough(0, -1), -1);
        due.same("e above", x.enough(1001, 0), -1);
        due.same("e below", x.enough(-1, 0), -1);
    }

    private static void p35Hours() {
        due.part("promise 35");
        NobodyThere x = told(PAIR);
        Due.tell(x, 1, "shade minute/5+x when y=1;");
        due.same("how many", x.hours(8, 7, 0), 5);
        due.same("the first", x.hours(8, 7, 1), 35);
        due.same("the last", x.hours(8, 7, 2), 39);
        due.same("another column", x.hours(9, 7, 1), 30);
        due.same("shade, not tone", x.hours(8, 0, 0), 5);
        due.same("no line is so", x.hours(0, 50, 0), 501);
        due.same("held to 99", x.hours(8, 99, 2), 500);
        due.same("none", x.hours(0, 49, 0), 0);
        due.same("none", x.hours(0, 49, 1), -1);
        due.same("none", x.hours(0, 49, 2), -1);
        due.same("another what", x.hours(8, 7, 3), -1);
        due.same("another what", x.hours(8, 7, -1), -1);
        due.same("v above", x.hours(8, 100, 0), -1);
        due.same("v below", x.hours(8, -1, 0), -1);
        due.same("no such spot", x.hours(7, 7, 0), -1);
        due.same("no such spot", x.hours(-8, 7, 0), -1);
    }

    private static void p36Judged() {
        due.part("promise 36");
        NobodyThere x = told(PAIR);
        Due.tell(x, 1, "shade minute when y=1;shade 20 when minute<9;shade 30;");
        x.set(0, 2);
        x.minutes(2);
        x.shoot();
        due.same("in its own minute", x.judged(0, 2), -1);
        due.same("8 is covered, 9 is clear", x.judged(0, 3), 9);
        due.same("the first by number", x.judged(0, 9), 0);
        x.set(0, 6);
        due.same("only what its view has", x.judged(0, 8), 9);
        due.same("judged(1, 2)", x.judged(1, 2), -1);
        due.same("judged(-1, 2)", x.judged(-1, 2), -1);
        due.same("judged(0, 501)", x.judged(0, 501), -1);
        due.same("judged(0, -1)", x.judged(0, -1), -1);
        Due.tell(x, 1, "shade 1;");
        due.same("by the law as it is now", x.judged(0, 2), 0);
    }

    private static void p37WhenShot() {
        due.part("promise 37");
        NobodyThere x = told(PAIR);
        Due.tell(x, 1, "shade minute/5;");
        x.minutes(7);
        x.shoot();
        due.same("how many", x.whenShot(0, 0), 5);
        due.same("the first", x.whenShot(0, 1), 5);
        due.same("the last", x.whenShot(0, 2), 9);
        due.same("another what", x.whenShot(0, 3), -2);
        due.same("another what", x.whenShot(0, -1), -2);
        due.same("no such shot", x.whenShot(1, 0), -2);
        due.same("no such shot", x.whenShot(-1, 0), -2);
        Due.tell(x, 1, "shade 1;");
        due.same("all minutes", x.whenShot(0, 0), 501);
        due.same("from 0", x.whenShot(0, 1), 0);
        due.same("to 500", x.whenShot(0, 2), 500);
        Due.tell(x, 1, "shade 70;");
        due.same("none", x.whenShot(0, 0), 0);
        due.same("none", x.whenShot(0, 1), -1);
        due.same("none", x.whenShot(0, 2), -1);
    }

    private static void p38Stander() {
        due.part("promise 38");
        NobodyThere x = new NobodyThere();
        due.same("without walkers", x.stander(0), -1);
        due.same("without walkers", x.stander(1), -1);
        due.same("without walkers", x.stander(2), -1);
        x = told(PAIR);
        due.same("who", x.stander(0), 0);
        due.same("how long", x.stander(1), 3);
        due.same("from when", x.stander(2), 2);
        due.same("another what", x.stander(3), -1);
        due.same("another what", x.stander(-1), -1);
        x = told("walker 1 comes 9 at 0 east 1 stand 3 west 1 stand 3;walker 1 comes 0 at 0 stand 3;"
            + "walker 1 comes 0 at 1 stand 1 east 1 west 1 stand 2;");
        due.same("of several the least", x.stander(0), 0);
        due.same("how long", x.stander(1), 4);
        due.same("the first such", x.stander(2), 10);
        x = told("walker 1 comes 0 at 0 east 1 west 1 east 1 west 1;walker 1 comes 499 at 0 stand 60;");
        due.same("to minute 500", x.stander(0), 1);
        due.same("to minute 500", x.stander(1), 2);
        x = told("walker 1 comes 3 at 0 east 1 stand 2 stand 2 east 1;");
        due.same("two parts without a break", x.stander(1), 5);
        due.same("from when", x.stander(2), 4);
        x = told("walker 1 comes 500 at 0;");
        due.same("one minute", x.stander(1), 1);
        due.same("from when", x.stander(2), 500);
    }

    private static void p39With() {
        due.part("promise 39");
        NobodyThere x = told(PAIR);
        due.same("both", x.with(2, 5), 3);
        due.same("one", x.with(0, 5), 2);
        due.same("the other", x.with(2, 8), 1);
        due.same("none", x.with(0, 8), 0);
        x.set(0, 2);
        x.step(4);
        due.same("in the view", x.with(4, 5), 2);
        due.same("not in each", x.with(3, 5), 0);
        due.same("with(5, 4)", x.with(5, 4), -1);
        due.same("with(-1, 4)", x.with(-1, 4), -1);
        due.same("with(4, 501)", x.with(4, 501), -1);
        Due.tell(x, 0, "walker 1 comes 0 at 4;".repeat(12));
        due.same("all twelve", x.with(0, 0), 4095);
        due.same("without walkers", new NobodyThere().with(0, 0), 0);
    }

    private static void p40Twos() {
        due.part("promise 40");
        NobodyThere x = told("walker 1 comes 0 at 9;walker 1 comes 0 at 9;walker 1 comes 0 at 10;walker 1 comes 0 at 17;"
            + "walker 1 comes 0 at 18;walker 1 comes 1 at 0;walker 1 comes 1 at 9;walker 1 comes 2 at 0;walker 1 comes 2 at 2;");
        // 9-9, 9-10 twice, 9-17 twice, 10-18, 17-18
        due.same("on one spot or beside", x.twos(0), 7);
        due.same("not across a corner", x.twos(1), 0);
        due.same("not over one", x.twos(2), 0);
        due.same("nobody", x.twos(3), 0);
        due.same("twos(501)", x.twos(501), -1);
        due.same("twos(-1)", x.twos(-1), -1);
        x = new NobodyThere();
        x.bridge(8, 7);
        Due.tell(x, 0, "walker 1 comes 0 at 7;walker 1 comes 0 at 8;");
        due.same("the next row's first is not beside", x.twos(0), 0);
        x = crowded(2, 2, 60);
        x.minutes(8);
        due.same("strangers do not count", x.twos(7), 0);
    }

    private static void p41Two() {
        due.part("promise 41");
        NobodyThere x = told(PAIR);
        due.same("m", x.two(0), 0);
        due.same("n", x.two(1), 1);
        due.same("two(2)", x.two(2), -1);
        due.same("two(-1)", x.two(-1), -1);
        x.minutes(2);
        due.same("8 is covered in 2 .. 4, so 2 goes with 5", x.two(0), 2);
        due.same("n", x.two(1), 5);
        x.set(0, 2);
        x.step(1);
        due.same("in the view", x.two(1), 3);
        Due.tell(x, 0, "walker 1 comes 0 at 1 stand 60;");
        due.same("62 is 60 more", x.two(0), 2);
        due.same("n", x.two(1), 61);
        Due.tell(x, 0, "walker 1 comes 0 at 1 stand 60 stand 1;");
        due.same("n is 60 more", x.two(1), 62);
        Due.tell(x, 0, "walker 1 comes 0 at 1 stand 60 stand 2;");
        due.same("n would be 61 more", x.two(0), -1);
        due.same("none", x.two(1), -1);
        Due.tell(x, 0, "");
        for (int i = 0; i < 4; i++) {
            x.minutes(100);
        }
        x.minutes(97);
        due.same("499", x.two(0), 499);
        due.same("500", x.two(1), 500);
        x.minutes(1);
        due.same("no n behind 500", x.two(0), -1);
        Due.tell(x, 0, "walker 1 comes 499 at 1 stand 9;");
        x.undo();
        due.same("telling walkers forgets", x.look(2), 500);
    }

    private static void p42Paste() {
        due.part("promise 42");
        NobodyThere x = threeShots();
        due.yes("paste(0, 0)", x.paste(0, 0));
        due.yes("paste(0, 2)", x.paste(0, 2));
        due.same("picture(10)", x.picture(10), 2);
        due.no("no such shot", x.paste(0, 3));
        due.no("no such shot", x.paste(0, -2));
        due.no("no such spot", x.paste(3, 0));
        due.no("no such spot", x.paste(-1, 0));
        due.no("no such spot", x.paste(16, 0));
        due.no("no such spot", x.paste(MOST, 0));
        due.same("picture(10)", x.picture(10), 2);
        due.yes("from none", x.paste(0, -1));
        due.yes("from none again", x.paste(0, -1));
        due.same("picture(10)", x.picture(10), -1);
        due.no("no such spot, none", x.paste(3, -1));
        x.set(0, 1);
        x.shoot();
        due.yes("a spot that is not in its view", x.paste(1, 3));
        due.same("picture(11)", x.picture(11), 3);
    }

    private static void p43Picture() {
        due.part("promise 43");
        NobodyThere x = threeShots();
        due.same("feet of none", x.picture(0), 0);
        due.same("all are holes", x.picture(1), 6);
        due.same("no seams", x.picture(2), 0);
        due.same("picture(3)", x.picture(3), -2);
        due.same("picture(9)", x.picture(9), -2);
        due.same("picture(-1)", x.picture(-1), -2);
        due.same("picture(13)", x.picture(13), -2);
        due.same("picture(MIN)", x.picture(LEAST), -2);
        due.same("picture(MAX)", x.picture(MOST), -2);
        x.paste(0, 1);
        x.paste(1, 1);
        due.same("walker 0 is on 1 in shot 1", x.picture(0), 1);
        due.same("holes", x.picture(1), 4);
        due.same("one shot, no seam", x.picture(2), 0);
        x.paste(0, 0);
        x.paste(1, -1);
        due.same("walker 0 is on 0 in shot 0", x.picture(0), 1);
        x.paste(0, 1);
        x.paste(1, 2);
        due.same("no feet", x.picture(0), 0);
        due.same("a seam", x.picture(2), 1);
        x.paste(9, 0);
        due.same("a seam below", x.picture(2), 2);
        x.paste(8, 1);
        due.same("8 is beside 0 (alike) and 9 (unlike)", x.picture(2), 3);
        due.same("holes", x.picture(1), 2);
        x.set(0, 1);
        due.same("holes of the view", x.picture(1), 0);
        x.step(2);
        due.same("holes of the view", x.picture(1), 2);
        x.shoot();
        x.paste(0, 3);
        due.same("from one that has it not in view: a seam less", x.picture(2), 2);
        x.step(0);
        due.same("and a hole", x.picture(1), 1);
        due.same("told all the same", x.picture(10), 3);
        p43More();
    }

    private static void p43More() {
        NobodyThere x = new NobodyThere();
        x.bridge(8, 2);
        Due.tell(x, 0, "walker 1 comes 0 at 7;".repeat(11) + "walker 1 comes 0 at 8;");
        x.shoot();
        x.shoot();
        x.paste(7, 0);
        x.paste(8, 1);
        due.same("the next row's first is not beside", x.picture(2), 0);
        due.same("by the book: the least walker alone", x.picture(0), 1 + 2048);
        Due.tell(x, 0, "");
        due.same("by the book, whoever walks now", x.picture(0), 1 + 2048);
        x = crowded(2, 2, 60);
        x.minutes(8);
        x.shoot();
        for (int c : new int[] {0, 1, 8, 9}) {
            x.paste(c, 0);
        }
        due.same("strangers have no feet here", x.picture(0), 0);
    }

    private static void p44Undo() {
        due.part("promise 44");
        NobodyThere x = crowded(4, 3, 3);
        x.set(0, 2);
        due.no("nothing yet", x.undo());
        x.minutes(2);
        int state = x.look(8);
        int first = x.stranger(0, 0);
        int second = x.stranger(1, 0);
        x.minutes(2);
        due.same("look(6)", x.look(6), 2);
        x.step(1);
        x.shoot();
        due.same("look(11)", x.look(11), 6);
        due.yes("the shot", x.undo());
        due.same("look(7)", x.look(7), 0);
        due.same("look(4)", x.look(4), 1);
        due.yes("the step", x.undo());
        due.same("look(4)", x.look(4), 0);
        due.yes("a minute", x.undo());
        due.yes("a minute", x.undo());
        due.same("minute", x.look(2), 2);
        due.same("state", x.look(8), state);
        due.same("those who were gone are there", x.stranger(0, 0), first);
        due.same("in their order", x.stranger(1, 0), second);
        due.same("look(11)", x.look(11), 2);
        x.minutes(1);
        due.same("look(11)", x.look(11), 3);
        x.undo();
        x.undo();
        x.undo();
        due.no("nothing is left", x.undo());
        due.same("minute", x.look(2), 0);
        due.same("strangers", x.look(6), 0);
        x.minutes(10);
        due.same("six are kept", x.look(11), 6);
        for (int i = 0; i < 6; i++) {
            due.yes("undo()", x.undo());
        }
        due.no("the seventh", x.undo());
        due.same("minute", x.look(2), 4);
    }

    private static void p44WhatForgets() {
        due.part("promise 44, what forgets");
        for (int way = 0; way < 20; way++) {
            NobodyThere x = told(PAIR);
            x.set(0, 3);
            x.shoot();
            x.image(true);
            x.minutes(2);
            int left = 3;
            boolean forgets = true;
            switch (way) {
                case 0: x.state(0); break;
                case 1: x.bridge(6, 4); break;
                case 2: x.set(0, 3); break;
                case 3: x.set(1, 0); break;
                case 4: x.set(2, 5); break;
                case 5: x.set(3, 20); break;
                case 6: Due.tell(x, 0, PAIR); break;
                case 7: x.paste(0, 0); break;
                case 8: x.image(false); break;
                case 9: x.paste(0, -1); break;
                default: forgets = false;
            }
            switch (way) {
                case 10: Due.tell(x, 1, "shade 9;"); break;
                case 11: Due.tell(x, 2, "worth 9;"); break;
                case 12: x.image(true); break;
                case 13: Due.tell(x, 0, "walker"); break;
                case 14: x.bridge(1, 1); break;
                case 15: x.set(0, 9); break;
                case 16: x.paste(6, 0); break;
                case 17: x.step(0); break;
                case 18: x.minutes(0); break;
                case 19: x.best(0); break;
                default: break;
            }
            due.same("look(11) behind way " + way, x.look(11), forgets ? 0 : left);
        }
        NobodyThere x = new NobodyThere();
        x.minutes(1);
        Due.tell(x, 1, "shade 9;");
        x.undo();
        due.same("a law is not undone", x.at(0, 0, 1), 9);
    }

    private static void p45Image() {
        due.part("promise 45");
        NobodyThere x = told(PAIR);
        Due.tell(x, 1, "shade 7;");
        Due.tell(x, 2, "worth 8;");
        due.no("none yet", x.image(false));
        x.state(77);
        x.set(0, 3);
        x.set(1, 1000);
        x.set(2, 9);
        x.set(3, 33);
        x.minutes(3);
        x.shoot();
        x.paste(0, 0);
        x.step(2);
        int[] then = new int[15];
        for (int i = 0; i < 15; i++) {
            then[i] = x.look(i);
        }
        due.yes("taken", x.image(true));
        due.same("taking forgets nothing", x.look(11), 1);
        x.undo();
        Due.tell(x, 0, "");
        x.bridge(3, 3);
        x.state(5);
        Due.tell(x, 1, "shade 99-9;shade 1;");
        x.shoot();
        x.paste(0, -1);
        Due.feed(x, "walker");
        Due.tell(x, 0, "walker 1");
        int kind = x.fault(0);
        int place = x.fault(1);
        x.feed(0, 0, 0, 0, 0);
        for (int time = 0; time < 2; time++) {
            due.yes("gone back", x.image(false));
            for (int i = 0; i < 15; i++) {
                due.same("look(" + i + ")", x.look(i), i == 11 ? 0 : then[i]);
            }
            due.same("walkers", x.where(0, 2), 8);
            due.same("shade", x.at(0, 9, 1), 7);
            due.same("worth", x.worth(400), 8);
            due.same("picture", x.picture(10), 0);
            due.same("book", x.book(0, 2, 0), x.stranger(0, 0) == 2 ? 12 : -1);
            due.same("shot", x.shot(0, 0), 3);
            due.same("stranger", x.stranger(2, 2), 2);
            due.same("fault(0) stays", x.fault(0), kind);
            due.same("fault(1) stays", x.fault(1), place);
            due.same("the tape stays", x.feed(0, 0, 0, 0, 0), 40 + 20 * time);
            due.no("nothing can be undone", x.undo());
            x.minutes(40);
            x.shoot();
            x.step(1);
            x.state(1234);
            x.paste(1, 1);
        }
        p45Shots();
        x.image(true);
        x.bridge(2, 2);
        x.image(false);
        due.same("a later one takes its place", x.look(2), 43);
        due.same("with its picture", x.picture(11), 1);
    }

    /** Shots taken on another bridge behind the image leave nothing in those of the image. */
    private static void p45Shots() {
        NobodyThere x = told(PAIR + "walker 4 comes 0 at 17 stand 9;");
        x.set(0, 2);
        x.minutes(1);
        x.step(1);
        x.shoot();
        x.shoot();
        x.paste(17, 1);
        x.image(true);
        x.bridge(8, 7);
        x.minutes(9);
        x.shoot();
        x.shoot();
        x.image(false);
        for (int i = 0; i < 2; i++) {
            due.same("minute", x.shot(i, 0), 1);
            due.same("step", x.shot(i, 1), 1);
            due.same("wide", x.shot(i, 2), 2);
            due.same("covered", x.shot(i, 3), 2);
            due.same("who", x.book(i, 17, 0), 2);
            due.same("tone", x.book(i, 17, 1), 4);
            due.same("who", x.book(i, 1, 0), 1);
            due.same("nobody", x.book(i, 2, 0), -1);
            due.same("not in its view", x.book(i, 0, 0), -2);
            due.same("laid", x.laid(1 << i), Due.columns(1, 2, 4) - Due.spots(1, 17));
        }
        due.same("feet", x.picture(0), 4);
    }

    private static void p46Look() {
        due.part("promise 46");
        NobodyThere x = told(PAIR);
        x.bridge(5, 3);
        Due.tell(x, 0, "walker 1 comes 0 at 0;walker 1 comes 0 at 0;");
        Due.tell(x, 1, "shade 1;shade 2;shade 3;");
        Due.tell(x, 2, "worth 1;worth 2;");
        x.set(0, 4);
        x.set(1, 1000);
        x.set(2, 7);
        x.set(3, 98);
        x.minutes(3);
        x.shoot();
        x.step(1);
        int[] now = {5, 3, 3, 4, 1, 2, 3, 1, x.look(8), 3, 2, 5, 1000, 7, 98};
        for (int i = 0; i < now.length; i++) {
            due.same("look(" + i + ")", x.look(i), now[i]);
        }
        int state = 0;
        for (int i = 0; i < 6; i++) {
            state = state * 1664525 + 1013904223;
        }
        due.same("state as it is, six draws on", x.look(8), state);
        due.same("look(15)", x.look(15), -1);
        due.same("look(-1)", x.look(-1), -1);
        due.same("look(MAX)", x.look(MOST), -1);
    }

    private static void readme() {
        due.part("README.md");
        NobodyThere x = new NobodyThere();
        x.feed(2002873451, 1701978161, 543387501, 1702043697, 543257632);
        x.feed(809181216, 538976288, 538976288, 538976288, 538976288);
        due.yes("end(22)", x.end(22));
        due.same("text(0)", x.text(0), 1);
        due.same("waits()", x.waits(), 0);
        due.same("minutes(1)", x.minutes(1), 0);
        due.same("waits()", x.waits(), 2);
        due.same("shoot()", x.shoot(), 0);
        due.same("laid(1)", x.laid(1), ALL - 1);
    }
}
