import java.util.ArrayDeque;
import java.util.Arrays;

/** Each sentence of a promise that names a boundary: what is just inside it, and what is just outside. */
public final class PromiseEdgesTest {
    private static final int LEAST = Integer.MIN_VALUE;
    private static final int MOST = Integer.MAX_VALUE;
    private static final int[] NO_MINUTES = {-1, 501, LEAST, MOST};
    /** MINUTES a to b that can't be: a below 0, b above 500, a above b. */
    private static final int[][] NO_SPANS = {{-1, 0}, {-1, 500}, {500, 501}, {0, 501}, {501, 501}, {-1, -1}, {1, 0}, {500, 499},
        {500, 0}, {LEAST, 0}, {0, MOST}, {MOST, LEAST}, {LEAST, MOST}};
    private static final int BLANKS = 0x20202020;

    private static final Due due = new Due("PromiseEdgesTest");

    private PromiseEdgesTest() {
    }

    public static void main(String[] args) {
        p01();
        p02();
        p03();
        p04();
        p05();
        p06();
        p07();
        p08();
        p09();
        p10();
        p11();
        p12();
        p13();
        p14();
        p15();
        p16();
        p17();
        p18();
        p19();
        p20();
        p21();
        p22();
        p23();
        p24();
        p25();
        p26();
        p27();
        p28();
        p29();
        p30();
        p31();
        p32();
        p33();
        p34();
        p35();
        p36();
        p37();
        p38();
        p39();
        p40();
        p41();
        p42();
        p43();
        p44();
        p45();
        p46();
        due.close();
    }

    private static NobodyThere bridge(int w, int h) {
        NobodyThere x = new NobodyThere();
        due.yes("bridge", x.bridge(w, h));
        return x;
    }

    private static NobodyThere told(int k, String text) {
        NobodyThere x = new NobodyThere();
        due.yes("text " + k + " <" + text + ">", Due.tell(x, k, text) >= 0);
        return x;
    }

    private static void strangerComes(NobodyThere x, int place) {
        x.state(Due.stateDrawing(0, place, x.look(0) * x.look(1)));
        x.set(1, 1);
        due.same("one comes", x.minutes(1), 1);
        x.set(1, 0);
    }

    private static int[] looks(NobodyThere x) {
        int[] all = new int[15];
        for (int i = 0; i < 15; i++) {
            all[i] = x.look(i);
        }
        return all;
    }

    private static void sameLooks(String when, NobodyThere x, int[] then) {
        for (int i = 0; i < 15; i++) {
            due.same("look(" + i + ") " + when, x.look(i), then[i]);
        }
    }

    private static void p01() {
        due.part("1: a bridge of six by four");
        NobodyThere x = new NobodyThere();
        due.same("W", x.look(0), 6);
        due.same("H", x.look(1), 4);
        due.same("the last column", x.at(5, 0, 0), 0);
        due.same("behind it", x.at(6, 0, 0), -1);
        due.same("the last row", x.at(24, 0, 0), 0);
        due.same("below it", x.at(32, 0, 0), -1);
        due.same("all spots", x.picture(1), 24);
    }

    private static void p02() {
        due.part("2: STATE is told: what it was");
        NobodyThere x = new NobodyThere();
        int was = 0;
        for (int v : new int[] {0, 1, -1, MOST, LEAST, 0}) {
            due.same("state(" + v + ")", x.state(v), was);
            due.same("look(8)", x.look(8), v);
            was = v;
        }
    }

    private static void p03() {
        due.part("3: W 2 .. 8, H 2 .. 7: true; false if they can't be");
        int[] sizes = {LEAST, -1, 0, 1, 2, 3, 6, 7, 8, 9, 16, MOST};
        for (int w : sizes) {
            for (int h : sizes) {
                NobodyThere x = new NobodyThere();
                boolean can = w >= 2 && w <= 8 && h >= 2 && h <= 7;
                due.same("bridge(" + w + ", " + h + ")", x.bridge(w, h) ? 1 : 0, can ? 1 : 0);
                due.same("W", x.look(0), can ? w : 6);
                due.same("H", x.look(1), can ? h : 4);
                due.same("WIDE", x.look(3), can ? w : 6);
            }
        }
    }

    private static void bounds(int what, int look, int least, int greatest, int first) {
        NobodyThere x = new NobodyThere();
        due.same("at first", x.look(look), first);
        for (int v : new int[] {least - 1, greatest + 1, LEAST, MOST}) {
            due.no("set(" + what + ", " + v + ")", x.set(what, v));
            due.same("as it was", x.look(look), first);
        }
        for (int v : new int[] {least, least + 1, greatest - 1, greatest}) {
            due.yes("set(" + what + ", " + v + ")", x.set(what, v));
            due.same("told", x.look(look), v);
        }
    }

    private static void p04() {
        due.part("4: what 0 WIDE 1 .. W");
        bounds(0, 3, 1, 6, 6);
        due.part("4: what 1 COMERS 0 .. 1000");
        bounds(1, 12, 0, 1000, 0);
        due.part("4: what 2 STAY 1 .. 60");
        bounds(2, 13, 1, 60, 5);
        due.part("4: what 3 GREY 0 .. 99");
        bounds(3, 14, 0, 99, 20);
        due.part("4: STEP is 0 then");
        NobodyThere x = new NobodyThere();
        x.set(0, 3);
        x.step(3);
        due.no("not with another what", x.set(4, 3));
        due.no("not when it can't be", x.set(0, 7));
        x.set(1, 3);
        x.set(2, 3);
        x.set(3, 3);
        due.same("STEP", x.look(4), 3);
        due.yes("the same WIDE", x.set(0, 3));
        due.same("STEP is 0", x.look(4), 0);
        due.part("4: false for another what");
        for (int what : new int[] {-1, 4, LEAST, MOST}) {
            due.no("set(" + what + ", 5)", x.set(what, 5));
        }
    }

    private static void p05() {
        due.part("5: STEP 0 .. W - WIDE; false if it can't be (the same as it is)");
        NobodyThere x = new NobodyThere();
        x.set(0, 4);
        for (int v : new int[] {-1, 3, LEAST, MOST, 0}) {
            due.no("step(" + v + ")", x.step(v));
            due.same("as it was", x.look(4), 0);
            due.same("nothing to undo", x.look(11), 0);
        }
        due.yes("step(2)", x.step(2));
        due.no("step(2) again", x.step(2));
        due.same("one to undo", x.look(11), 1);
        due.yes("step(1)", x.step(1));
        due.yes("step(0)", x.step(0));
        due.no("step(0) again", x.step(0));
        due.same("three to undo", x.look(11), 3);
    }

    private static void p06() {
        due.part("6: how many it has; NONE, and nothing comes, if there would be more than 400");
        for (int cut = 0; cut <= 20; cut++) {
            NobodyThere x = new NobodyThere();
            for (int i = 1; i <= 20; i++) {
                due.same("feed", x.feed(BLANKS, BLANKS, BLANKS, BLANKS, BLANKS), 20 * i);
            }
            due.yes("end", x.end(400 - cut));
            due.same("on " + (400 - cut), x.feed(0, 0, 0, 0, 0), cut == 20 ? 400 : -1);
            int has = cut == 20 ? 400 : 400 - cut;
            due.no("not more", x.end(has + 1));
            due.yes("not less", x.end(has));
            due.same("what is on it", x.text(1), cut == 20 ? -1 : 0);
        }
        due.part("6: twenty bytes, of each number the highest first");
        String text = "shade 12;shade 345; ";
        for (int i = 0; i < 20; i++) {
            int[] n = {BLANKS, BLANKS, BLANKS, BLANKS, BLANKS};
            n[i / 4] ^= (' ' ^ '?') << 24 - i % 4 * 8;
            NobodyThere x = new NobodyThere();
            due.same("feed", x.feed(n[0], n[1], n[2], n[3], n[4]), 20);
            due.same("a fault", x.text(0), -1);
            due.same("at byte " + i, x.fault(1), i);
        }
        NobodyThere x = new NobodyThere();
        Due.feed(x, text);
        due.same("two lines", x.text(1), 2);
        due.same("the first", x.at(0, 0, 1), 12);
    }

    private static void p07() {
        due.part("7: its first n bytes alone; false if it has not so many, or n is below 0");
        NobodyThere x = new NobodyThere();
        due.yes("end(0) of an empty tape", x.end(0));
        for (int n : new int[] {1, -1, LEAST, MOST, 400}) {
            due.no("end(" + n + ") of an empty tape", x.end(n));
        }
        Due.feed(x, "shade 123");
        due.no("end(10)", x.end(10));
        due.no("end(-1)", x.end(-1));
        due.no("end(400)", x.end(400));
        due.yes("end(9), as it is", x.end(9));
        due.yes("end(8)", x.end(8));
        due.no("end(9) now", x.end(9));
        due.same("feed behind it", x.feed(0x3B000000, 0, 0, 0, 0), 28);
        due.yes("end(9)", x.end(9));
        due.same("shade 12;", x.text(1), 1);
        due.same("shade", x.at(0, 0, 1), 12);
        due.no("the tape is empty", x.end(1));
        due.yes("the tape is empty", x.end(0));
        due.part("7: nothing behind its first n bytes is read");
        String[] texts = {"shadeshade 1;", "shade 12345;", "shade 1;;", "shade minuteedge;", "shade 1;?", "shade 1 when 1=1or1=1;"};
        int[] cuts = {5, 10, 8, 12, 8, 16};
        int[] places = {5, 10, -1, 12, -1, 16};
        for (int i = 0; i < texts.length; i++) {
            Due.feed(x, texts[i]);
            due.yes("end", x.end(cuts[i]));
            due.same("the first " + cuts[i] + " of <" + texts[i] + ">", x.text(1), places[i] < 0 ? 1 : -1);
            due.same("fault(1)", x.fault(1), places[i]);
        }
    }

    private static void p08() {
        due.part("8: the TAPE, empty then");
        for (int k : new int[] {-1, 0, 1, 2, 3, LEAST, MOST}) {
            for (String text : new String[] {"", "?", "walker 1 comes 0 at 0;", "shade 1;", "worth 1;"}) {
                NobodyThere x = new NobodyThere();
                int told = Due.tell(x, k, text);
                due.no("empty behind text(" + k + ")", x.end(1));
                boolean fits = k >= 0 && k <= 2 && (text.isEmpty() || text.charAt(0) == "wsw".charAt(k) && text.charAt(1)
                    == "aho".charAt(k));
                due.same("text(" + k + ") of <" + text + ">", told, fits ? text.isEmpty() ? 0 : 1 : -1);
                due.same("look(5)", x.look(5), fits && k == 0 ? told : 0);
                due.same("look(9)", x.look(9), fits && k == 1 ? told : 0);
                due.same("look(10)", x.look(10), fits && k == 2 ? told : 0);
            }
        }
        due.part("8: how many WALKERS, lines");
        for (int n = 0; n <= 17; n++) {
            due.same("walkers", Due.tell(new NobodyThere(), 0, "walker 1 comes 0 at 0;".repeat(n)), n <= 12 ? n : -1);
            due.same("lines", Due.tell(new NobodyThere(), 1, "shade 1;".repeat(n)), n <= 16 ? n : -1);
            due.same("lines", Due.tell(new NobodyThere(), 2, "worth 1;".repeat(n)), n <= 16 ? n : -1);
        }
        due.part("8: a FAULT (it stays as it was)");
        NobodyThere x = told(0, "walker 5 comes 1 at 9 east 1;");
        Due.tell(x, 1, "shade 5 when x=1;shade 6;");
        Due.tell(x, 2, "worth 5 when minute=1;worth 6;");
        due.same("walkers", Due.tell(x, 0, "walker 7 comes 3 at 0;walker 8 comes 4 at 0;walker"), -1);
        due.same("shade", Due.tell(x, 1, "shade 7;shade 8;shade 9;shade"), -1);
        due.same("worth", Due.tell(x, 2, "worth 7;worth 8;worth 9;worth"), -1);
        due.same("walkers stay", x.look(5), 1);
        due.same("tone", x.of(0, 0), 5);
        due.same("way", x.covered(2), Due.spots(10));
        due.same("no other way", x.covered(3), 0);
        due.same("lines stay", x.look(9), 2);
        due.same("lines stay", x.look(10), 2);
        due.same("shade", x.at(1, 0, 1), 5);
        due.same("shade", x.at(2, 0, 1), 6);
        due.same("worth", x.worth(1), 5);
        due.same("worth", x.worth(2), 6);
    }

    private static void p09() {
        due.part("9: of the latest text(): 0 without one, NONE");
        NobodyThere x = new NobodyThere();
        due.same("none yet", x.fault(0), 0);
        due.same("none yet", x.fault(1), -1);
        String[] texts = {"?", "shade 1/0;", "shade 1;".repeat(17), "", "shade ?", "shade 1;", " ?"};
        int[] kinds = {1, 2, 3, 0, 1, 0, 1};
        int[] places = {0, 8, 128, -1, 6, -1, 1};
        for (int i = 0; i < texts.length; i++) {
            Due.feed(x, texts[i]);
            due.same("not before text()", x.fault(0), i == 0 ? 0 : kinds[i - 1]);
            x.text(1);
            due.same("fault(0)", x.fault(0), kinds[i]);
            due.same("fault(1)", x.fault(1), places[i]);
            due.same("asked again", x.fault(1), places[i]);
        }
        due.part("9: no such text: fault() tells 0");
        for (int k : new int[] {3, -1, LEAST, MOST}) {
            Due.tell(x, 1, " ?");
            Due.tell(x, k, "?");
            due.same("fault(0)", x.fault(0), 0);
            due.same("fault(1)", x.fault(1), -1);
        }
        due.part("9: NONE for another what");
        Due.tell(x, 1, "shade 1/0;");
        for (int what : new int[] {-1, 2, LEAST, MOST}) {
            due.same("fault(" + what + ")", x.fault(what), -1);
        }
    }

    private static void p10() {
        due.part("10: MINUTES go by (1 .. 100)");
        for (int n : new int[] {0, -1, 101, LEAST, MOST}) {
            NobodyThere x = new NobodyThere();
            x.set(1, 1000);
            due.same("minutes(" + n + ")", x.minutes(n), -1);
            due.same("MINUTE", x.look(2), 0);
            due.same("STATE", x.look(8), 0);
            due.same("nothing to undo", x.look(11), 0);
        }
        for (int n : new int[] {1, 2, 99, 100}) {
            NobodyThere x = new NobodyThere();
            due.same("minutes(" + n + ")", x.minutes(n), 0);
            due.same("MINUTE", x.look(2), n);
        }
        due.part("10: NONE if MINUTE would be above 500");
        for (int left = 0; left <= 100; left += 25) {
            NobodyThere x = new NobodyThere();
            Due.waitUntil(x, 500 - left);
            if (left < 100) {
                due.same("one too many", x.minutes(left + 1), -1);
                due.same("a hundred", x.minutes(100), -1);
            }
            due.same("MINUTE", x.look(2), 500 - left);
            due.same("just so many", x.minutes(left), left == 0 ? -1 : 0);
            due.same("MINUTE", x.look(2), 500);
            due.same("no more", x.minutes(1), -1);
        }
        due.part("10: how many STRANGERS came in them");
        NobodyThere x = new NobodyThere();
        x.set(1, 1000);
        x.set(2, 2);
        due.same("in one", x.minutes(1), 1);
        due.same("in three", x.minutes(3), 3);
        due.same("there are fewer", x.look(6), 1);
        x.set(1, 0);
        due.same("none", x.minutes(3), 0);
    }

    private static void p11() {
        due.part("11: its number; NONE if there are ten");
        NobodyThere x = new NobodyThere();
        for (int i = 0; i < 10; i++) {
            due.same("shoot()", x.shoot(), i);
        }
        x.minutes(3);
        for (int i = 0; i < 3; i++) {
            due.same("an eleventh", x.shoot(), -1);
            due.same("ten", x.look(7), 10);
            due.same("no more to undo", x.look(11), 6);
        }
        due.same("the last minute", x.undo() ? x.look(2) : 0, 2);
        x.undo();
        x.undo();
        due.same("the tenth", x.undo() ? x.look(7) : 0, 9);
        due.same("is taken again", x.shoot(), 9);
        due.same("then none", x.shoot(), -1);
    }

    private static void p12() {
        due.part("12: of a WALKER; NONE - 1 if there is none such, or another what");
        for (int n = 0; n <= 12; n += 4) {
            NobodyThere x = told(0, "walker 7 comes 9 at 10 stand 1;".repeat(n));
            for (int i : new int[] {-1, 0, n - 1, n, 11, 12, LEAST, MOST}) {
                boolean there = i >= 0 && i < n;
                int[] answers = {7, 9, 10, 2, -1};
                for (int what = 0; what < 5; what++) {
                    due.same("of(" + i + ", " + what + ") of " + n, x.of(i, what), there ? answers[what] : -2);
                }
                for (int what : new int[] {-1, 5, LEAST, MOST}) {
                    due.same("of(" + i + ", " + what + ")", x.of(i, what), -2);
                }
            }
        }
        due.part("12: where he is in this MINUTE (NONE)");
        NobodyThere x = told(0, "walker 7 comes 1 at 10 east 1;");
        int[] spots = {-1, 10, 11, -1};
        for (int m = 0; m < spots.length; m++) {
            due.same("in " + m, x.of(0, 4), spots[m]);
            x.minutes(1);
        }
    }

    private static void p13() {
        due.part("13: NONE if he is not there, or there is none such (0 .. 500)");
        NobodyThere x = told(0, "walker 1 comes 0 at 0;walker 1 comes 500 at 29;walker 1 comes 100 at 9 stand 5;");
        due.same("in 0", x.where(0, 0), 0);
        due.same("in 1", x.where(0, 1), -1);
        due.same("in 500", x.where(1, 500), 29);
        due.same("in 499", x.where(1, 499), -1);
        int[] around = {99, 100, 105, 106};
        int[] spots = {-1, 9, 9, -1};
        for (int i = 0; i < around.length; i++) {
            due.same("in " + around[i], x.where(2, around[i]), spots[i]);
        }
        for (int m : NO_MINUTES) {
            for (int i = 0; i < 3; i++) {
                due.same("where(" + i + ", " + m + ")", x.where(i, m), -1);
            }
        }
        for (int i : new int[] {-1, 3, 11, 12, LEAST, MOST}) {
            due.same("where(" + i + ", 0)", x.where(i, 0), -1);
            due.same("where(" + i + ", 500)", x.where(i, 500), -1);
        }
        // the last minutes of one walker are not the first ones of the next
        due.same("where(0, 501)", told(0, "walker 1 comes 9 at 0;walker 1 comes 0 at 8;").where(0, 501), -1);
    }

    private static void p14() {
        due.part("14: NONE if there is none such, or another what");
        NobodyThere x = new NobodyThere();
        x.set(2, 60);
        for (int n = 0; n <= 8; n++) {
            for (int i : new int[] {-1, n, 8, LEAST, MOST}) {
                for (int what = 0; what < 3; what++) {
                    due.same("stranger(" + i + ", " + what + ") of " + n, x.stranger(i, what), -1);
                }
            }
            if (n > 0) {
                due.same("the last of " + n, x.stranger(n - 1, 0), (n - 1) / 6 * 8 + (n - 1) % 6);
                due.same("until", x.stranger(n - 1, 1), n + 58);
                due.same("came", x.stranger(n - 1, 2), n - 1);
            }
            if (n < 8) {
                strangerComes(x, n);
            }
        }
        for (int what : new int[] {-1, 3, LEAST, MOST}) {
            due.same("stranger(0, " + what + ")", x.stranger(0, what), -1);
        }
    }

    private static void p15() {
        due.part("15: a MINUTE (0 .. 500); NONE if one can't be");
        NobodyThere x = told(0, "walker 1 comes 0 at 0;walker 1 comes 500 at 29;");
        due.same("covered(0)", x.covered(0), 1);
        due.same("covered(1)", x.covered(1), 0);
        due.same("covered(499)", x.covered(499), 0);
        due.same("covered(500)", x.covered(500), 1L << 29);
        for (int m : NO_MINUTES) {
            due.same("covered(" + m + ")", x.covered(m), -1);
        }
    }

    private static void p16() {
        due.part("16: a MINUTE (0 .. 500); NONE if there is none such, or another what");
        NobodyThere x = told(0, "walker 1 comes 0 at 0;walker 2 comes 500 at 29;");
        Due.tell(x, 1, "shade minute/10;");
        int[][] asked = {{0, 0, 1, 0, 1}, {29, 0, 0, 0, 0}, {29, 500, 1, 50, 2}, {0, 500, 0, 50, 50}, {0, 499, 0, 49, 49}};
        for (int[] one : asked) {
            for (int what = 0; what < 3; what++) {
                due.same("at(" + one[0] + ", " + one[1] + ", " + what + ")", x.at(one[0], one[1], what), one[2 + what]);
            }
            for (int what : new int[] {-1, 3, LEAST, MOST}) {
                due.same("at(.., " + what + ")", x.at(one[0], one[1], what), -1);
            }
        }
        for (int what = 0; what < 3; what++) {
            for (int m : NO_MINUTES) {
                due.same("at(0, " + m + ", " + what + ")", x.at(0, m, what), -1);
            }
            for (int c : new int[] {-1, 6, 7, 14, 30, 32, 56, 64, LEAST, MOST}) {
                due.same("at(" + c + ", 0, " + what + ")", x.at(c, 0, what), -1);
            }
        }
    }

    private static void p17() {
        due.part("17: NONE - 999 if one can't be (0 .. 500)");
        NobodyThere x = told(2, "worth minute;");
        for (int m : new int[] {0, 1, 499, 500}) {
            due.same("worth(" + m + ")", x.worth(m), m);
        }
        for (int m : NO_MINUTES) {
            due.same("worth(" + m + ")", x.worth(m), -1000);
        }
    }

    private static void p18() {
        due.part("18: NONE if there is none such, or another what");
        NobodyThere x = told(0, "walker 1 comes 0 at 0 stand 60;");
        x.set(0, 2);
        for (int n = 0; n <= 10; n++) {
            for (int i : new int[] {-1, n, 10, LEAST, MOST}) {
                for (int what = 0; what < 4; what++) {
                    due.same("shot(" + i + ", " + what + ") of " + n, x.shot(i, what), -1);
                }
            }
            if (n < 10) {
                x.minutes(1);
                due.same("shoot()", x.shoot(), n);
                int[] answers = {n + 1, 0, 2, 1};
                for (int what = 0; what < 4; what++) {
                    due.same("shot(" + n + ", " + what + ")", x.shot(n, what), answers[what]);
                }
            }
        }
        for (int what : new int[] {-1, 4, LEAST, MOST}) {
            due.same("shot(0, " + what + ")", x.shot(0, what), -1);
        }
    }

    private static void p19() {
        due.part("19: NONE - 1 if it is not in its VIEW, there is none such, or another what");
        NobodyThere x = told(0, "walker 7 comes 0 at 2;");
        x.set(0, 2);
        x.step(2);
        due.same("no shot yet", x.book(0, 2, 0), -2);
        x.shoot();
        due.same("who", x.book(0, 2, 0), 0);
        due.same("his tone", x.book(0, 2, 1), 7);
        due.same("nobody", x.book(0, 3, 0), -1);
        due.same("shade", x.book(0, 3, 1), 50);
        due.same("the last spot of its view", x.book(0, 27, 0), -1);
        for (int what = 0; what < 2; what++) {
            for (int c : new int[] {1, 4, 6, 9, 12, 34, 56, 58, 64, 66, -1, -6, LEAST, LEAST + 2, MOST}) {
                due.same("book(0, " + c + ", " + what + ")", x.book(0, c, what), -2);
            }
            for (int i : new int[] {-1, 1, 10, LEAST, MOST}) {
                due.same("book(" + i + ", 2, " + what + ")", x.book(i, 2, what), -2);
            }
        }
        for (int what : new int[] {-1, 2, LEAST, MOST}) {
            due.same("book(0, 2, " + what + ")", x.book(0, 2, what), -2);
        }
    }

    private static void p20() {
        due.part("20: WAIT from this MINUTE on: the first one (500 at most); NONE if there is none");
        NobodyThere x = told(0, "walker 1 comes 1 at 0;walker 1 comes 3 at 0 stand 1;");
        int[] waits = {0, 2, 2, 5, 5, 5};
        for (int m = 0; m < waits.length; m++) {
            due.same("in " + m, x.waits(), waits[m]);
            x.minutes(1);
        }
        Due.tell(x, 0, "walker 1 comes 0 at 0" + " stand 60".repeat(8) + ";walker 1 comes 481 at 0 stand 18;");
        due.same("500 at most", x.waits(), 500);
        Due.tell(x, 0, "walker 1 comes 0 at 0" + " stand 60".repeat(8) + ";walker 1 comes 481 at 0 stand 19;");
        due.same("none", x.waits(), -1);
        Due.waitUntil(x, 500);
        due.same("none in 500", x.waits(), -1);
        Due.tell(x, 0, "");
        due.same("500", x.waits(), 500);
        due.part("20: nobody COVERS THE VIEW");
        x = told(0, "walker 1 comes 0 at 1 stand 9;walker 1 comes 0 at 4 stand 9;");
        x.set(0, 2);
        due.same("columns 0, 1", x.waits(), 10);
        x.step(2);
        due.same("columns 2, 3", x.waits(), 0);
        x.step(3);
        due.same("columns 3, 4", x.waits(), 10);
        due.part("20: no DRAWS, no STRANGERS come");
        x = new NobodyThere();
        x.set(1, 1000);
        due.same("nobody now", x.waits(), 0);
        x.minutes(1);
        due.same("until he goes", x.waits(), 5);
        due.same("the minute stays", x.look(2), 1);
    }

    private static void p21() {
        due.part("21: ROW, of MINUTES from this one to 500 the longest; of several the first");
        NobodyThere x = new NobodyThere();
        due.same("all", x.row(0), 501);
        due.same("from 0", x.row(1), 0);
        Due.tell(x, 0, "walker 1 comes 250 at 0;");
        due.same("two of 250", x.row(0), 250);
        due.same("the first", x.row(1), 0);
        x.minutes(1);
        due.same("the second is longer now", x.row(0), 250);
        due.same("from 251", x.row(1), 251);
        Due.tell(x, 0, "walker 1 comes 249 at 0;");
        due.same("to 500", x.row(0), 251);
        Due.tell(x, 0, "walker 1 comes 0 at 0" + " stand 60".repeat(8) + ";walker 1 comes 481 at 0 stand 18;");
        due.same("500 alone", x.row(0), 1);
        due.same("500 alone", x.row(1), 500);
        due.part("21: the first MINUTE (NONE without one)");
        Due.tell(x, 0, "walker 1 comes 0 at 0" + " stand 60".repeat(8) + ";walker 1 comes 481 at 0 stand 19;");
        due.same("none", x.row(0), 0);
        due.same("none", x.row(1), -1);
        due.part("21: NONE for another what");
        for (int what : new int[] {-1, 2, LEAST, MOST}) {
            due.same("row(" + what + ")", x.row(what), -1);
            due.same("row(" + what + ")", new NobodyThere().row(what), -1);
        }
    }

    private static void p22() {
        due.part("22: BEST, from this one to 500 with the greatest WORTH; of several the first");
        NobodyThere x = told(2, "worth 7 when minute=1;worth 7 when minute=3;worth 8 when minute=500;worth 9 when minute=0;"
            + "worth 0-5;");
        int[] best = {0, 500, 500};
        for (int m = 0; m < best.length; m++) {
            due.same("in " + m, x.best(0), best[m]);
            x.minutes(1);
        }
        x = told(2, "worth 7 when minute=1;worth 7 when minute=3;worth 6 when minute=500;worth 6 when minute=0;worth 0-5;");
        int[] next = {1, 1, 3, 3, 500};
        int[] worth = {7, 7, 7, 7, 6};
        for (int m = 0; m < next.length; m++) {
            due.same("in " + m, x.best(0), next[m]);
            due.same("worth in " + m, x.best(1), worth[m]);
            x.minutes(1);
        }
        Due.waitUntil(x, 500);
        due.same("500 alone", x.best(0), 500);
        due.same("500 alone", x.best(1), 6);
        x = told(2, "worth 0-1000;");
        due.same("all as little as can be", x.best(0), 0);
        due.same("all as little as can be", x.best(1), -999);
        due.part("22: NONE - 999 for another what");
        for (int what : new int[] {-1, 2, LEAST, MOST}) {
            due.same("best(" + what + ")", x.best(what), -1000);
        }
    }

    private static void p23() {
        due.part("23: the STEP with which most MINUTES have nobody; of several the least");
        NobodyThere x = told(0, "walker 1 comes 0 at 0 stand 5;walker 1 comes 0 at 2 stand 1;walker 1 comes 0 at 3 stand 2;"
            + "walker 1 comes 0 at 5 stand 1;");
        x.set(0, 1);
        due.same("columns 1 and 4 are free: the lesser", x.steps(0, 5), 1);
        due.same("from 6 on all are free", x.steps(6, 500), 0);
        x.set(0, 2);
        // columns 0, 1: none of 0 .. 5; 1, 2: four; 2, 3: three; 3, 4: three; 4, 5: four
        due.same("two columns", x.steps(0, 5), 1);
        x.set(0, 3);
        // columns 0 .. 2: none; 1 .. 3: three; 2 .. 4: three; 3 .. 5: three
        due.same("three columns", x.steps(0, 5), 1);
        x.step(3);
        due.same("whatever STEP is now", x.steps(0, 5), 1);
        x.set(0, 6);
        due.same("all columns", x.steps(0, 500), 0);
        x = bridge(2, 2);
        Due.tell(x, 0, "walker 1 comes 0 at 0 stand 9;walker 1 comes 0 at 1 stand 9;");
        x.set(0, 1);
        due.same("no minute with nobody: the least", x.steps(0, 9), 0);
        due.same("one minute with nobody", x.steps(0, 10), 0);
        Due.tell(x, 0, "walker 1 comes 0 at 0 stand 9;walker 1 comes 0 at 1 stand 8;");
        due.same("the last column", x.steps(0, 9), 1);
        due.same("b counts", x.steps(0, 8), 0);
        due.same("a counts", x.steps(9, 9), 1);
        due.same("the last minute", x.steps(500, 500), 0);
        due.part("23: NONE if one can't be");
        for (int[] span : NO_SPANS) {
            due.same("steps(" + span[0] + ", " + span[1] + ")", x.steps(span[0], span[1]), -1);
        }
    }

    private static void p24() {
        due.part("24: LAID by a set of SHOTS; NONE if it is not one of SHOTS that there are");
        NobodyThere x = new NobodyThere();
        long all = Due.columns(0, 5, 4);
        for (int n = 0; n <= 10; n++) {
            int sets = 1 << n;
            due.same("none of " + n, x.laid(0), 0);
            due.same("all of " + n, x.laid(sets - 1), n == 0 ? 0 : all);
            due.same("one more than " + n, x.laid(sets), -1);
            due.same("all and one more", x.laid(2 * sets - 1), -1);
            for (int shots : new int[] {-1, LEAST, MOST, LEAST + 1}) {
                due.same("laid(" + shots + ")", x.laid(shots), -1);
                due.same("most(" + shots + ")", x.most(shots), -1);
                due.same("middle(" + shots + ", 0)", x.middle(shots, 0), -1);
                due.same("sure(" + shots + ", 1)", x.sure(shots, 1), -1);
            }
            x.shoot();
        }
        due.part("24: CLEAR in one of them at least (in its VIEW, not COVERED), of THE VIEW now");
        x = told(0, "walker 1 comes 0 at 0 east 1;");
        x.set(0, 2);
        x.shoot();
        x.minutes(1);
        x.shoot();
        long two = Due.columns(0, 1, 4);
        due.same("0 is covered", x.laid(1), two - 1);
        due.same("1 is covered", x.laid(2), two - 2);
        due.same("each is clear in one", x.laid(3), two);
        x.set(0, 6);
        due.same("in their views", x.laid(3), two);
        x.set(0, 1);
        due.same("of the view now", x.laid(3), Due.columns(0, 0, 4));
        x.step(2);
        due.same("none of the view now", x.laid(3), 0);
    }

    private static void p25() {
        due.part("25: the fewest SHOTS: the least set");
        NobodyThere x = bridge(4, 2);
        x.set(0, 1);
        for (int i = 0; i < 10; i++) {
            x.step(9 - i & 3);
            x.shoot();
        }
        // columns 1 0 3 2 1 0 3 2 1 0
        x.set(0, 4);
        due.same("one of each column", x.fewest(0), 4);
        due.same("the first four", x.fewest(1), 15);
        due.same("greedy", x.fewest(2), 4);
        x.set(0, 2);
        x.step(2);
        due.same("of the view now", x.fewest(0), 2);
        due.same("columns 3 and 2", x.fewest(1), 12);
        due.same("greedy", x.fewest(2), 2);
        due.part("25: as many SPOTS as by all; until none does more");
        x = bridge(2, 2);
        due.same("without shots", x.fewest(0), 0);
        due.same("without shots", x.fewest(1), 0);
        due.same("without shots", x.fewest(2), 0);
        Due.tell(x, 0, "walker 1 comes 0 at 0;walker 1 comes 0 at 1;walker 1 comes 0 at 8;walker 1 comes 0 at 9;");
        x.shoot();
        due.same("none is clear", x.fewest(0), 0);
        due.same("none is clear", x.fewest(1), 0);
        due.same("none is clear", x.fewest(2), 0);
        x.minutes(1);
        x.shoot();
        x.shoot();
        due.same("the second does it", x.fewest(0), 1);
        due.same("the second does it", x.fewest(1), 2);
        due.same("the second does it", x.fewest(2), 1);
        due.part("25: all ten are needed");
        x = bridge(2, 5);
        StringBuilder text = new StringBuilder();
        for (int m = 0; m < 10; m++) {
            // one spot after the other is clear, all the others are covered; the walkers are told for each minute anew
            text.setLength(0);
            for (int c = 0; c < 10; c++) {
                text.append(c == m ? "" : "walker 1 comes 0 at " + (c / 2 * 8 + c % 2) + ";");
            }
            due.same("nine walkers", Due.tell(x, 0, text.toString()), 9);
            x.shoot();
        }
        due.same("ten", x.fewest(0), 10);
        due.same("all", x.fewest(1), 1023);
        due.same("greedy", x.fewest(2), 10);
        due.part("25: SHOTS that were undone are none");
        x = bridge(4, 2);
        x.set(0, 1);
        x.shoot();
        x.step(1);
        x.shoot();
        x.undo();
        x.set(0, 4);
        due.same("one", x.fewest(0), 1);
        due.same("the first", x.fewest(1), 1);
        due.same("greedy", x.fewest(2), 1);
        due.same("laid", x.laid(1), Due.columns(0, 0, 2));
        due.same("laid", x.laid(3), -1);
        x.set(0, 1);
        x.step(1);
        x.shoot();
        x.set(0, 4);
        x.shoot();
        due.same("the third does it alone", x.fewest(1), 4);
        due.same("greedy", x.fewest(2), 1);
        x.undo();
        due.same("without it", x.fewest(1), 3);
        due.same("greedy", x.fewest(2), 2);
        due.part("25: NONE for another what");
        for (int what : new int[] {-1, 3, LEAST, MOST}) {
            due.same("fewest(" + what + ")", x.fewest(what), -1);
        }
    }

    private static void p26() {
        due.part("26: SPOTS of THE VIEW now that are COVERED in each MINUTE from a to b; NONE if one can't be");
        NobodyThere x = told(0, "walker 1 comes 10 at 0 stand 5;walker 1 comes 499 at 29 stand 1;walker 1 comes 10 at 5 east 1;"
            + "walker 1 comes 11 at 5 stand 9;walker 1 comes 0 at 8;");
        due.same("one minute", x.never(0, 0), Due.spots(8));
        due.same("not in each", x.never(0, 1), 0);
        due.same("just so long", x.never(10, 15), Due.spots(0, 5));
        due.same("one before", x.never(9, 15), 0);
        due.same("one behind", x.never(10, 16), Due.spots(5));
        due.same("by one after the other", x.never(10, 20), Due.spots(5));
        due.same("to 500", x.never(499, 500), Due.spots(29));
        due.same("500 alone", x.never(500, 500), Due.spots(29));
        due.same("all minutes", x.never(0, 500), 0);
        x.set(0, 1);
        due.same("of the view", x.never(10, 15), Due.spots(0));
        x.step(5);
        due.same("of the view", x.never(10, 15), Due.spots(5));
        x.step(4);
        due.same("of the view", x.never(10, 15), 0);
        for (int[] span : NO_SPANS) {
            due.same("never(" + span[0] + ", " + span[1] + ")", x.never(span[0], span[1]), -1);
        }
    }

    /** Ten shots of a bridge of two by two; spot 0 is covered in the first n of them, the others are clear. */
    private static NobodyThere tenShots(int n) {
        NobodyThere x = bridge(2, 2);
        Due.tell(x, 0, n == 0 ? "" : n == 1 ? "walker 9 comes 0 at 0;" : "walker 9 comes 0 at 0 stand " + (n - 1) + ";");
        for (int i = 0; i < 10; i++) {
            x.shoot();
            x.minutes(1);
        }
        return x;
    }

    private static void p27() {
        due.part("27: CLEAR in more than half of those SHOTS of the set that have them in VIEW");
        for (int n = 0; n <= 10; n++) {
            NobodyThere x = tenShots(n);
            long all = Due.columns(0, 1, 2);
            for (int many = 1; many <= 10; many++) {
                int clear = Math.max(0, many - n);
                due.same(clear + " of " + many, x.most((1 << many) - 1), 2 * clear > many ? all : all - 1);
            }
            due.same("none", x.most(0), 0);
            due.same("the last alone", x.most(512), n == 10 ? all - 1 : all);
        }
        due.part("27: those that have them in VIEW");
        NobodyThere x = told(0, "walker 1 comes 0 at 0 stand 1;");
        x.set(0, 1);
        x.shoot();
        x.minutes(1);
        x.shoot();
        x.minutes(1);
        x.shoot();
        x.step(1);
        x.shoot();
        x.shoot();
        due.same("one of three, two of two", x.most(31), Due.columns(0, 1, 4) - 1);
        due.same("one of two, one of one", x.most(8 + 4 + 1), Due.columns(0, 1, 4) - 1);
        due.same("one of one, none of none", x.most(4), Due.columns(0, 0, 4));
        due.part("27: NONE if one can't be");
        due.same("no such shot", x.most(32), -1);
        due.same("all and one more", x.most(63), -1);
        due.same("below 0", x.most(-1), -1);
    }

    private static void p28() {
        due.part("28: that in the middle (of an even number the lesser one of both)");
        int[] tones = {99, 0, 50, 51, 49, 1, 98, 50, 2, 97};
        int[] middles = {99, 0, 50, 50, 50, 49, 50, 50, 50, 50};
        NobodyThere x = bridge(2, 2);
        for (int i = 0; i < 10; i++) {
            Due.tell(x, 1, "shade " + tones[i] + ";");
            x.shoot();
            due.same("of " + (i + 1), x.middle((1 << i + 1) - 1, 0), middles[i]);
            due.same("of it alone", x.middle(1 << i, 9), tones[i]);
        }
        due.same("0 and 99", x.middle(3, 0), 0);
        due.same("99 and 98", x.middle(1 + 64, 0), 98);
        due.same("0 and 1", x.middle(2 + 32, 0), 0);
        due.same("99, 98 and 97", x.middle(1 + 64 + 512, 0), 98);
        due.same("50 and 50", x.middle(4 + 128, 0), 50);
        due.part("28: NONE if none has the SPOT in VIEW, or one can't be");
        due.same("no shot", x.middle(0, 0), -1);
        for (int c : new int[] {-1, 2, 7, 10, 16, 56, LEAST, MOST}) {
            due.same("middle(1, " + c + ")", x.middle(1, c), -1);
        }
        due.same("no such set", x.middle(1024, 0), -1);
        due.same("no such set", x.middle(-1, 0), -1);
        x = new NobodyThere();
        x.set(0, 1);
        x.shoot();
        x.step(1);
        Due.tell(x, 1, "shade 7;");
        x.shoot();
        due.same("in view of the first", x.middle(3, 0), 50);
        due.same("in view of the second", x.middle(3, 1), 7);
        due.same("in view of none", x.middle(3, 2), -1);
        due.same("not in view of this one", x.middle(2, 0), -1);
    }

    private static void p29() {
        due.part("29: one and the same TONE is in n at least of these SHOTS");
        for (int n = 0; n <= 10; n += 3) {
            NobodyThere x = tenShots(n);
            long all = Due.columns(0, 1, 2);
            int alike = Math.max(n, 10 - n);
            for (int least = 1; least <= 10; least++) {
                due.same(least + " alike of " + n, x.sure(1023, least), alike >= least ? all : all - 1);
            }
            due.same("one", x.sure(1, 1), all);
            due.same("two of one", x.sure(1, 2), 0);
            due.same("two of two", x.sure(3, 2), n == 1 ? all - 1 : all);
            due.same("none", x.sure(0, 1), 0);
            due.same("the last alone", x.sure(512, 1), all);
        }
        due.part("29: NONE if one can't be (n 1 .. 10)");
        NobodyThere x = tenShots(0);
        due.same("n 1", x.sure(1023, 1), Due.columns(0, 1, 2));
        due.same("n 10", x.sure(1023, 10), Due.columns(0, 1, 2));
        for (int n : new int[] {0, -1, 11, LEAST, MOST}) {
            due.same("n " + n, x.sure(1023, n), -1);
            due.same("n " + n, x.sure(0, n), -1);
        }
        due.same("no such set", x.sure(1024, 1), -1);
        due.same("no such set", x.sure(-1, 1), -1);
        x = new NobodyThere();
        due.same("without shots", x.sure(0, 1), 0);
        due.same("without shots", x.sure(1, 1), -1);
        x.set(0, 1);
        x.shoot();
        x.step(5);
        x.shoot();
        due.same("of their views", x.sure(3, 1), Due.columns(0, 0, 4) + Due.columns(5, 5, 4));
        due.same("none is in both", x.sure(3, 2), 0);
    }

    private static void p30() {
        due.part("30: LONG from a to b: in how many MINUTES it is COVERED, the mean of its TONES");
        NobodyThere x = told(0, "walker 10 comes 0 at 0;walker 20 comes 2 at 0 stand 1;walker 30 comes 500 at 0;");
        int[][] asked = {{0, 0, 1, 10}, {1, 1, 0, 50}, {0, 1, 1, 30}, {0, 2, 2, 26}, {0, 3, 3, 25}, {2, 3, 2, 20}, {1, 2, 1, 35},
            {3, 4, 1, 35}, {500, 500, 1, 30}, {499, 500, 1, 40}, {0, 500, 4, 49}, {4, 499, 0, 50}};
        for (int[] one : asked) {
            due.same("minutes of " + one[0] + " .. " + one[1], x.exposed(one[0], one[1], 0, 0), one[2]);
            due.same("mean of " + one[0] + " .. " + one[1], x.exposed(one[0], one[1], 0, 1), one[3]);
        }
        due.same("as dark as can be", told(1, "shade 0;").exposed(0, 500, 29, 1), 0);
        due.same("as light as can be", told(1, "shade 99;").exposed(0, 500, 29, 1), 99);
        due.part("30: NONE if one can't be, or another what");
        for (int what = 0; what < 2; what++) {
            for (int[] span : NO_SPANS) {
                due.same("exposed(" + span[0] + ", " + span[1] + ", 0, " + what + ")", x.exposed(span[0], span[1], 0, what), -1);
            }
            for (int c : new int[] {-1, 6, 32, 56, LEAST, MOST}) {
                due.same("exposed(0, 1, " + c + ", " + what + ")", x.exposed(0, 1, c, what), -1);
            }
        }
        for (int what : new int[] {-1, 2, LEAST, MOST}) {
            due.same("exposed(0, 1, 0, " + what + ")", x.exposed(0, 1, 0, what), -1);
        }
    }

    private static void p31() {
        due.part("31: COVERED in some, but not in more than half of these MINUTES");
        NobodyThere x = bridge(8, 7);
        Due.tell(x, 0, "walker 1 comes 0 at 0 stand 3;walker 1 comes 2 at 55 stand 1;walker 1 comes 1 at 31;");
        // of 0 .. b: 0 is covered in 0 .. 3, 31 in 1, 55 in 2, 3
        long first = Due.spots(0);
        long middle = Due.spots(31);
        long last = Due.spots(55);
        long[] ghosts = {0, middle, middle + last, middle + last, middle + last, middle + last, middle + last,
            first + middle + last, first + middle + last};
        for (int b = 0; b < ghosts.length; b++) {
            due.same("0 .. " + b, x.ghosts(0, b), ghosts[b]);
        }
        due.same("all of one", x.ghosts(3, 3), 0);
        due.same("half of two", x.ghosts(3, 4), first + last);
        due.same("in none", x.ghosts(4, 500), 0);
        due.same("in some of all", x.ghosts(0, 500), first + middle + last);
        Due.tell(x, 0, "walker 1 comes 500 at 7;");
        due.same("to 500", x.ghosts(499, 500), Due.spots(7));
        due.same("500 alone", x.ghosts(500, 500), 0);
        x.set(0, 1);
        due.same("of THE BRIDGE", x.ghosts(499, 500), Due.spots(7));
        due.part("31: NONE if one can't be");
        for (int[] span : NO_SPANS) {
            due.same("ghosts(" + span[0] + ", " + span[1] + ")", x.ghosts(span[0], span[1]), -1);
        }
    }

    private static void p32() {
        due.part("32: a million at first, each MINUTE times (1000 less COMERS) by 1000; NONE if n is not 0 .. 500");
        NobodyThere x = new NobodyThere();
        for (int comers : new int[] {0, 1, 500, 999, 1000}) {
            x.set(1, comers);
            long chance = 1000000;
            for (int n = 0; n <= 500; n++) {
                if (n < 12 || n > 497) {
                    due.same("nobody(" + n + ") of " + comers, x.nobody(n), chance);
                }
                chance = chance * (1000 - comers) / 1000;
            }
            for (int n : NO_MINUTES) {
                due.same("nobody(" + n + ")", x.nobody(n), -1);
            }
        }
    }

    private static void p33() {
        due.part("33: COPIES (1 .. 15, odd; e 0 .. 1000); NONE if one can't be");
        NobodyThere x = new NobodyThere();
        for (int n = -3; n <= 18; n++) {
            boolean can = n >= 1 && n <= 15 && n % 2 == 1;
            due.same("surely right: " + n, x.copies(n, 0), can ? 1000000 : -1);
            due.same("surely wrong: " + n, x.copies(n, 1000), can ? 0 : -1);
            due.same("e below 0", x.copies(n, -1), -1);
            due.same("e above 1000", x.copies(n, 1001), -1);
        }
        for (int n : new int[] {LEAST, LEAST + 1, MOST, MOST - 1}) {
            due.same("copies(" + n + ", 0)", x.copies(n, 0), -1);
        }
        due.same("e MIN", x.copies(3, LEAST), -1);
        due.same("e MAX", x.copies(3, MOST), -1);
        due.same("one at 1", x.copies(1, 1), 999000);
        due.same("one at 999", x.copies(1, 999), 1000);
        due.part("33: both downwards, added");
        // copy by copy at 1: 999000; 998001; then 998001 * 999 / 1000 and 1998 * 999 / 1000, 998001 / 1000
        due.same("three at 1", x.copies(3, 1), 997002 + 998 + 1996);
        // at 999, of 0 .. 3 right ones: 999000, 1000; 998001, 1998, 1; 997002, 2993, 2, 0
        due.same("three at 999", x.copies(3, 999), 1 + 0);
    }

    private static void p34() {
        due.part("34: ENOUGH: the fewest copies (odd, 15 at most) for which that is m at least; NONE if 15 are not");
        NobodyThere x = new NobodyThere();
        for (int n = 1; n <= 15; n += 2) {
            int chance = x.copies(n, 300);
            due.same("just enough", x.enough(300, chance), n);
            due.same("not quite", x.enough(300, chance + 1), n == 15 ? -1 : n + 2);
        }
        due.part("34: NONE if one can't be (e 0 .. 1000, m 0 .. 1000000)");
        due.same("e 0, m 1000000", x.enough(0, 1000000), 1);
        due.same("e 1, m 1000000", x.enough(1, 1000000), -1);
        due.same("e 1000, m 0", x.enough(1000, 0), 1);
        due.same("e 1000, m 1", x.enough(1000, 1), -1);
        for (int e : new int[] {-1, 1001, LEAST, MOST}) {
            due.same("e " + e, x.enough(e, 0), -1);
        }
        for (int m : new int[] {-1, 1000001, LEAST, MOST}) {
            due.same("m " + m, x.enough(0, m), -1);
        }
    }

    private static void p35() {
        due.part("35: MINUTES 0 .. 500 in which a SPOT has a SHADE v: how many, the first, the last (NONE)");
        NobodyThere x = told(1, "shade 0 when minute=0;shade 99 when minute=500;shade 2 when minute=7;shade 3 when minute<9;");
        int[][] asked = {{0, 1, 0, 0}, {99, 1, 500, 500}, {2, 1, 7, 7}, {3, 7, 1, 8}, {50, 491, 9, 499}, {1, 0, -1, -1},
            {98, 0, -1, -1}};
        for (int[] one : asked) {
            for (int what = 0; what < 3; what++) {
                due.same("hours(29, " + one[0] + ", " + what + ")", x.hours(29, one[0], what), one[1 + what]);
            }
        }
        due.part("35: NONE if one can't be (v 0 .. 99), or another what");
        for (int what = 0; what < 3; what++) {
            for (int v : new int[] {-1, 100, LEAST, MOST}) {
                due.same("hours(0, " + v + ", " + what + ")", x.hours(0, v, what), -1);
            }
            for (int c : new int[] {-1, 6, 30, 32, 56, LEAST, MOST}) {
                due.same("hours(" + c + ", 50, " + what + ")", x.hours(c, 50, what), -1);
            }
        }
        for (int what : new int[] {-1, 3, LEAST, MOST}) {
            due.same("hours(0, 50, " + what + ")", x.hours(0, 50, what), -1);
        }
    }

    private static void p36() {
        due.part("36: the first SPOT (by number) that is CLEAR in a SHOT, and the TONE of which is not its SHADE in m");
        NobodyThere x = bridge(8, 7);
        Due.tell(x, 0, "walker 50 comes 0 at 0;walker 51 comes 0 at 1;");
        Due.tell(x, 1, "shade 50 when minute=0;shade 60 when minute=1;shade 60 when minute=500 and x=7 and y=6;"
            + "shade 60 when minute=499 and y=0 and x<3;shade 60 when minute=498 and y=0 and x<2;");
        x.shoot();
        due.same("all are alike", x.judged(0, 0), -1);
        due.same("0 and 1 are covered", x.judged(0, 1), 2);
        due.same("the last spot, the last minute", x.judged(0, 500), 55);
        due.same("of three one is clear", x.judged(0, 499), 2);
        due.same("unlike ones are covered", x.judged(0, 498), -1);
        x.set(0, 7);
        x.step(1);
        due.same("whatever the view is now", x.judged(0, 1), 2);
        x.minutes(1);
        x.shoot();
        due.same("the first of its view", x.judged(1, 0), 1);
        due.same("alike", x.judged(1, 1), -1);
        due.part("36: NONE if none is, or one can't be (m 0 .. 500)");
        for (int m : NO_MINUTES) {
            due.same("judged(1, " + m + ")", x.judged(1, m), -1);
        }
        for (int i : new int[] {-1, 2, 10, LEAST, MOST}) {
            due.same("judged(" + i + ", 0)", x.judged(i, 0), -1);
        }
    }

    private static void p37() {
        due.part("37: MINUTES 0 .. 500 in which none is so: how many, the first, the last (NONE)");
        NobodyThere x = told(1, "shade 1 when minute=0;shade 2 when minute=500;shade 3 when minute=7;shade 4 when minute<10;"
            + "shade 5;");
        int[] minutes = {0, 1, 7, 10, 500};
        int[][] answers = {{1, 0, 0}, {8, 1, 9}, {1, 7, 7}, {490, 10, 499}, {1, 500, 500}};
        for (int i = 0; i < minutes.length; i++) {
            Due.waitUntil(x, minutes[i]);
            x.shoot();
            for (int what = 0; what < 3; what++) {
                due.same("whenShot(" + i + ", " + what + ")", x.whenShot(i, what), answers[i][what]);
            }
        }
        Due.tell(x, 1, "shade 6;");
        int[] none = {0, -1, -1};
        for (int what = 0; what < 3; what++) {
            due.same("none", x.whenShot(0, what), none[what]);
        }
        due.part("37: NONE - 1 if there is none such, or another what");
        for (int what : new int[] {-1, 3, LEAST, MOST}) {
            due.same("whenShot(0, " + what + ")", x.whenShot(0, what), -2);
        }
        for (int what = 0; what < 3; what++) {
            for (int i : new int[] {-1, 5, 10, LEAST, MOST}) {
                due.same("whenShot(" + i + ", " + what + ")", x.whenShot(i, what), -2);
            }
            due.same("without shots", new NobodyThere().whenShot(0, what), -2);
        }
        due.part("37: a SHOT without a CLEAR SPOT");
        x = bridge(2, 2);
        Due.tell(x, 0, "walker 1 comes 0 at 0;walker 1 comes 0 at 1;walker 1 comes 0 at 8;walker 1 comes 0 at 9;");
        x.shoot();
        int[] all = {501, 0, 500};
        for (int what = 0; what < 3; what++) {
            due.same("all minutes", x.whenShot(0, what), all[what]);
        }
    }

    private static void stander(String text, int who, int howLong, int from) {
        NobodyThere x = told(0, text);
        due.same("who of <" + text + ">", x.stander(0), who);
        due.same("how long of <" + text + ">", x.stander(1), howLong);
        due.same("from when of <" + text + ">", x.stander(2), from);
    }

    private static void p38() {
        due.part("38: longest on one SPOT without a break (MINUTES 0 .. 500); of several the least; the first such");
        stander("walker 1 comes 0 at 0;", 0, 1, 0);
        stander("walker 1 comes 0 at 0 stand 3;", 0, 4, 0);
        stander("walker 1 comes 500 at 0 stand 60;", 0, 1, 500);
        stander("walker 1 comes 480 at 0 stand 60;", 0, 21, 480);
        stander("walker 1 comes 0 at 0" + " stand 60".repeat(8) + ";", 0, 481, 0);
        stander("walker 1 comes 5 at 0 east 3;", 0, 1, 5);
        stander("walker 1 comes 5 at 0 stand 1 east 1 stand 1 west 1 stand 1;", 0, 2, 5);
        stander("walker 1 comes 5 at 0 stand 1 east 1 stand 2 west 1 stand 1;", 0, 3, 7);
        stander("walker 1 comes 5 at 0 east 1 stand 1 stand 1 east 1 stand 1;", 0, 3, 6);
        stander("walker 1 comes 9 at 0 stand 2;walker 1 comes 0 at 0 stand 2;", 0, 3, 9);
        stander("walker 1 comes 9 at 0 stand 2;walker 1 comes 0 at 0 stand 3;", 1, 4, 0);
        stander("walker 1 comes 9 at 0 stand 3;walker 1 comes 0 at 0 stand 2;", 0, 4, 9);
        // he comes back to where he was: that is a break
        stander("walker 1 comes 0 at 0 east 1 west 1 east 1 west 1;walker 1 comes 0 at 0 stand 1;", 1, 2, 0);
        // one after the other on one spot is not one of them
        stander("walker 1 comes 0 at 0 stand 1;walker 1 comes 2 at 0 stand 1;walker 1 comes 4 at 0 stand 2;", 2, 3, 4);
        stander("walker 1 comes 0 at 0;".repeat(11) + "walker 1 comes 0 at 0 stand 1;", 11, 2, 0);
        due.part("38: NONE without WALKERS, or for another what");
        NobodyThere x = new NobodyThere();
        for (int what = -1; what <= 3; what++) {
            due.same("stander(" + what + ")", x.stander(what), -1);
        }
        x = told(0, "walker 1 comes 0 at 0;");
        for (int what : new int[] {-1, 3, LEAST, MOST}) {
            due.same("stander(" + what + ")", x.stander(what), -1);
        }
    }

    private static void p39() {
        due.part("39: WALKERS who are in THE VIEW in each MINUTE from a to b; NONE if one can't be");
        NobodyThere x = told(0, "walker 1 comes 0 at 0 stand 3;walker 1 comes 1 at 1 east 4;walker 1 comes 500 at 5;");
        int[][] asked = {{0, 0, 1}, {0, 3, 1}, {0, 4, 0}, {1, 1, 3}, {1, 3, 3}, {1, 4, 2}, {1, 5, 2}, {1, 6, 0}, {4, 5, 2},
            {6, 6, 0}, {500, 500, 4}, {499, 500, 0}, {0, 500, 0}};
        for (int[] one : asked) {
            due.same("with(" + one[0] + ", " + one[1] + ")", x.with(one[0], one[1]), one[2]);
        }
        x.set(0, 2);
        x.step(1);
        // columns 1, 2: the second is there in 1 and 2
        int[][] inView = {{1, 1, 2}, {1, 2, 2}, {2, 2, 2}, {1, 3, 0}, {0, 1, 0}, {3, 3, 0}};
        for (int[] one : inView) {
            due.same("with(" + one[0] + ", " + one[1] + ") in view", x.with(one[0], one[1]), one[2]);
        }
        for (int[] span : NO_SPANS) {
            due.same("with(" + span[0] + ", " + span[1] + ")", x.with(span[0], span[1]), -1);
        }
        due.same("no walkers", new NobodyThere().with(0, 500), 0);
        due.same("twelve", told(0, "walker 1 comes 0 at 0;".repeat(12)).with(0, 0), 4095);
    }

    private static int twosOn(int w, int h, int... spots) {
        NobodyThere x = bridge(w, h);
        StringBuilder text = new StringBuilder();
        for (int c : spots) {
            text.append("walker 1 comes 0 at ").append(c).append(';');
        }
        Due.tell(x, 0, text.toString());
        return x.twos(0);
    }

    private static void p40() {
        due.part("40: pairs of WALKERS on one SPOT or on two beside one another");
        due.same("none", twosOn(8, 7), 0);
        due.same("one", twosOn(8, 7, 9), 0);
        int[] near = {9, 1, 8, 10, 17};
        for (int c : near) {
            due.same("9 and " + c, twosOn(8, 7, 9, c), 1);
            due.same(c + " and 9", twosOn(8, 7, c, 9), 1);
        }
        for (int c : new int[] {0, 2, 16, 18, 7, 11, 25, 55}) {
            due.same("9 and " + c, twosOn(8, 7, 9, c), 0);
        }
        due.same("the end of a row and the next row's begin", twosOn(8, 7, 7, 8), 0);
        due.same("the next row's begin and the end of a row", twosOn(8, 7, 16, 15), 0);
        due.same("the last two", twosOn(8, 7, 54, 55), 1);
        due.same("twelve on one spot", twosOn(8, 7, 0, 0, 0, 0, 0, 0, 0, 0, 0, 0, 0, 0), 66);
        due.same("three in a row", twosOn(8, 7, 0, 1, 2), 2);
        due.part("40: NONE if one can't be (0 .. 500)");
        NobodyThere x = told(0, "walker 1 comes 0 at 0;walker 1 comes 0 at 0;walker 1 comes 500 at 0;walker 1 comes 500 at 1;"
            + "walker 1 comes 7 at 0;");
        due.same("twos(0)", x.twos(0), 1);
        due.same("twos(1)", x.twos(1), 0);
        due.same("twos(7)", x.twos(7), 0);
        due.same("twos(500)", x.twos(500), 1);
        for (int m : NO_MINUTES) {
            due.same("twos(" + m + ")", x.twos(m), -1);
        }
    }

    private static void two(String text, int now, int m, int n) {
        NobodyThere x = told(0, text);
        Due.waitUntil(x, now);
        due.same("m of <" + text + "> in " + now, x.two(0), m);
        due.same("n of <" + text + "> in " + now, x.two(1), n);
    }

    private static void p41() {
        due.part("41: MINUTES m, n (m below n, from this one to 60 more, 500 at most): the first m, with it the first n");
        two("", 0, 0, 1);
        two("", 499, 499, 500);
        two("", 500, -1, -1);
        two("walker 1 comes 0 at 0 stand 58;", 0, 0, 59);
        two("walker 1 comes 0 at 0 stand 59;", 0, 0, 60);
        two("walker 1 comes 0 at 0 stand 60;", 0, -1, -1);
        two("walker 1 comes 0 at 0 stand 60;", 1, 1, 61);
        two("walker 1 comes 0 at 0 stand 60;walker 1 comes 61 at 0;", 1, -1, -1);
        two("walker 1 comes 440 at 0 stand 59;", 440, 440, 500);
        two("walker 1 comes 440 at 0 stand 60;", 440, -1, -1);
        two("walker 1 comes 480 at 0 stand 19;", 480, 480, 500);
        two("walker 1 comes 480 at 0 stand 20;", 480, -1, -1);
        // in 0 spots 0 and 8 are covered, from 1 on 0, in 3 and 4 spot 8
        two("walker 1 comes 0 at 0 stand 2;walker 1 comes 0 at 8;walker 1 comes 3 at 8 stand 1;", 0, 0, 5);
        two("walker 1 comes 0 at 0 stand 2;walker 1 comes 0 at 8;walker 1 comes 3 at 8 stand 1;", 1, 1, 3);
        two("walker 1 comes 0 at 0 stand 2;walker 1 comes 0 at 8;walker 1 comes 3 at 8 stand 60;", 0, 1, 3);
        due.part("41: all SPOTS of THE VIEW");
        NobodyThere x = told(0, "walker 1 comes 0 at 0 stand 60;");
        due.same("all columns", x.two(0), -1);
        x.set(0, 5);
        due.same("with it", x.two(0), -1);
        x.step(1);
        due.same("without it", x.two(0), 0);
        due.same("without it", x.two(1), 1);
        due.part("41: NONE for another what");
        for (int what : new int[] {-1, 2, LEAST, MOST}) {
            due.same("two(" + what + ")", x.two(what), -1);
        }
    }

    private static void p42() {
        due.part("42: a SPOT is from a SHOT (NONE: from none): true; false if one can't be");
        NobodyThere x = new NobodyThere();
        due.yes("from none, without shots", x.paste(0, -1));
        due.no("without shots", x.paste(0, 0));
        for (int n = 1; n <= 10; n++) {
            x.shoot();
            due.yes("the last of " + n, x.paste(29, n - 1));
            due.same("told", x.picture(39), n - 1);
            for (int shot : new int[] {n, 10, 11, -2, LEAST, MOST}) {
                due.no("paste(29, " + shot + ") of " + n, x.paste(29, shot));
            }
            due.same("as it was", x.picture(39), n - 1);
        }
        for (int c : new int[] {-1, 6, 30, 32, 56, 64, LEAST, MOST}) {
            due.no("paste(" + c + ", 0)", x.paste(c, 0));
            due.no("paste(" + c + ", -1)", x.paste(c, -1));
        }
        due.yes("paste(0, 0)", x.paste(0, 0));
        due.yes("told again", x.paste(0, 9));
        due.yes("from none", x.paste(0, -1));
        due.same("from none", x.picture(10), -1);
    }

    private static void p43() {
        due.part("43: NONE - 1 for another what");
        NobodyThere x = new NobodyThere();
        for (int what : new int[] {-1, 3, 4, 9, 16, 17, 24, 40, 42, 65, 66, 73, 74, LEAST, MOST, LEAST + 10, MOST - 10}) {
            due.same("picture(" + what + ")", x.picture(what), -2);
        }
        due.same("the first spot", x.picture(10), -1);
        due.same("the last spot", x.picture(39), -1);
        x = bridge(8, 7);
        due.same("the last spot there can be", x.picture(65), -1);
        due.same("behind it", x.picture(66), -2);
        due.part("43: FEET (a set)");
        StringBuilder text = new StringBuilder();
        for (int i = 0; i < 12; i++) {
            text.append("walker 1 comes 0 at ").append(i == 11 ? 55 : i).append(';');
        }
        Due.tell(x, 0, text.toString());
        x.shoot();
        due.same("nothing is told", x.picture(0), 0);
        int feet = 0;
        for (int i = 0; i < 12; i++) {
            x.paste(i == 11 ? 55 : i, 0);
            feet |= 1 << i;
            due.same("feet of " + (i + 1), x.picture(0), feet);
        }
        x.paste(55, -1);
        due.same("one less", x.picture(0), 2047);
        x.set(0, 1);
        x.step(7);
        x.shoot();
        x.paste(0, 1);
        due.same("from one that has it not in view", x.picture(0), 2046);
        x.paste(55, 1);
        due.same("from one that has it", x.picture(0), 2046 + 2048);
        feetByTheBook();
        due.part("43: HOLES of THE VIEW now: from none, or from one that has them not in VIEW");
        x = new NobodyThere();
        x.set(0, 2);
        x.shoot();
        due.same("from none", x.picture(1), 8);
        x.paste(0, 0);
        due.same("one less", x.picture(1), 7);
        x.paste(2, 0);
        x.set(0, 3);
        due.same("2 is not in its view", x.picture(1), 11);
        x.step(3);
        due.same("none of this view", x.picture(1), 12);
        due.part("43: SEAMS");
        seams();
    }

    private static void feetByTheBook() {
        due.part("43: FEET, WALKERS by THE BOOK, whatever the TONES");
        NobodyThere x = told(0, "walker 99 comes 1 at 0;walker 12 comes 1 at 1;walker 0 comes 1 at 2;walker 98 comes 1 at 0;");
        x.set(3, 0);
        x.set(2, 60);
        strangerComes(x, 3);
        x.shoot();
        int[] feet = {1, 2, 4, 0, 0};
        for (int c = 0; c < feet.length; c++) {
            x.paste(c, 0);
            due.same("feet on " + c, x.picture(0), feet[c]);
            x.paste(c, -1);
        }
        due.same("the stranger is there", x.book(0, 3, 0), 12);
    }

    /** On eight by seven with two shots of all and one of a column: 9 from shot 0, a spot beside it from another. */
    private static void seams() {
        NobodyThere x = bridge(8, 7);
        x.shoot();
        x.shoot();
        x.set(0, 1);
        x.shoot();
        x.paste(9, 0);
        due.same("one alone", x.picture(2), 0);
        for (int c : new int[] {1, 8, 10, 17}) {
            x.paste(c, 0);
            due.same(c + " alike", x.picture(2), 0);
            x.paste(c, 1);
            due.same(c + " unlike", x.picture(2), 1);
            x.paste(c, 2);
            due.same(c + " from one that has it in view or not", x.picture(2), c == 8 ? 1 : 0);
            x.paste(c, -1);
            due.same(c + " from none", x.picture(2), 0);
        }
        for (int c : new int[] {0, 2, 16, 18, 7, 11, 25}) {
            x.paste(c, 1);
            due.same(c + " is not beside 9", x.picture(2), 0);
            x.paste(c, -1);
        }
        x.paste(9, -1);
        x.paste(7, 0);
        x.paste(8, 1);
        due.same("the end of a row and the next row's begin", x.picture(2), 0);
        x.paste(8, -1);
        x.paste(55, 1);
        x.paste(54, 0);
        x.paste(47, 0);
        due.same("the last spot with both beside it", x.picture(2), 2);
        x = bridge(2, 2);
        x.shoot();
        x.shoot();
        int[] from = {0, 1, 1, 0};
        int[] spots = {0, 1, 8, 9};
        for (int i = 0; i < 4; i++) {
            x.paste(spots[i], from[i]);
        }
        due.same("a square", x.picture(2), 4);
    }

    private static void p44() {
        due.part("44: the latest goes back: 6 are kept; false if there is nothing");
        NobodyThere x = new NobodyThere();
        due.no("nothing yet", x.undo());
        int[][] then = new int[8][];
        for (int n = 1; n <= 7; n++) {
            then[n] = looks(x);
            x.minutes(1);
            due.same("kept", x.look(11), Math.min(n, 6));
        }
        for (int n = 7; n >= 2; n--) {
            due.yes("undo " + n, x.undo());
            then[n][11] = n - 2;
            sameLooks("behind undo " + n, x, then[n]);
        }
        due.no("the seventh", x.undo());
        due.same("MINUTE", x.look(2), 1);
        undoRoundAndRound();
        undoneShots();
        strangersBack();
        undoForgets();
    }

    /** What a minute, a step or a shot may change. */
    private static long[] moved(NobodyThere x) {
        return new long[] {x.look(2), x.look(4), x.look(6), x.look(7), x.look(8), x.stranger(0, 0), x.covered(x.look(2))};
    }

    private static void undoRoundAndRound() {
        due.part("44: each of the three, in turn, and round and round");
        NobodyThere x = new NobodyThere();
        x.set(1, 700);
        x.set(2, 3);
        x.set(0, 3);
        ArrayDeque<long[]> before = new ArrayDeque<>();
        for (int n = 0; n < 23; n++) {
            before.addLast(moved(x));
            if (n % 3 == 0) {
                due.yes("a minute", x.minutes(1) >= 0);
            } else if (n % 3 == 1) {
                due.yes("a step", x.step((x.look(4) + 1) % 4));
            } else {
                due.yes("a shot", x.shoot() >= 0);
            }
            if (before.size() > 6) {
                before.removeFirst();
            }
            int back = n == 22 ? 6 : n % 5 == 4 ? 2 : 0;
            for (int i = 0; i < back; i++) {
                due.yes("undo", x.undo());
                due.same("alike", Arrays.equals(moved(x), before.removeLast()) ? 1 : 0, 1);
            }
            due.same("kept", x.look(11), before.size());
        }
        due.no("nothing is left", x.undo());
    }

    private static void undoneShots() {
        due.part("44: what goes back is as if it had not been");
        NobodyThere x = told(0, "walker 9 comes 1 at 0;");
        x.shoot();
        x.minutes(1);
        x.shoot();
        due.same("its number", x.look(7), 2);
        x.undo();
        due.same("no such shot", x.shot(1, 0), -1);
        due.same("no such set", x.laid(2), -1);
        due.no("can't be told", x.paste(0, 1));
        due.same("the minute is", x.look(2), 1);
        x.undo();
        x.minutes(1);
        x.minutes(1);
        due.same("taken again", x.shoot(), 1);
        due.same("of this minute", x.shot(1, 0), 2);
        due.same("nobody is there", x.shot(1, 3), 0);
        due.same("the first is as it was", x.shot(0, 0), 0);
        due.part("44: (STATE, too)");
        x = new NobodyThere();
        x.state(99);
        x.set(1, 1000);
        x.minutes(1);
        x.undo();
        due.same("STATE", x.look(8), 99);
        due.same("the same again", x.minutes(1), 1);
        due.same("STATE", x.look(8), Due.drawnState(Due.drawnState(99)));
        x.shoot();
        x.undo();
        due.same("a shot leaves it", x.look(8), Due.drawnState(Due.drawnState(99)));
    }

    private static void strangersBack() {
        due.part("44: STRANGERS who went are there again, as they were");
        NobodyThere x = new NobodyThere();
        x.set(1, 1000);
        x.set(2, 2);
        x.minutes(1);
        x.set(2, 9);
        long[] one = {x.stranger(0, 0), x.stranger(0, 1), x.stranger(0, 2)};
        x.minutes(1);
        due.same("he is gone, another came", x.stranger(0, 2), 1);
        due.same("until", x.stranger(0, 1), 9);
        x.undo();
        due.same("he alone", x.look(6), 1);
        for (int what = 0; what < 3; what++) {
            due.same("stranger(0, " + what + ")", x.stranger(0, what), one[what]);
        }
        due.same("his last minute", x.covered(1), 1L << one[0]);
        due.same("behind it", x.covered(2), 0);
        due.part("45: STRANGERS of the image");
        x.image(true);
        x.minutes(20);
        x.image(false);
        for (int what = 0; what < 3; what++) {
            due.same("stranger(0, " + what + ")", x.stranger(0, what), one[what]);
        }
        due.same("he alone", x.stranger(1, 0), -1);
    }

    private interface Telling {
        void tell(NobodyThere x);
    }

    private static void forgets(String what, int left, Telling one) {
        NobodyThere x = new NobodyThere();
        x.set(0, 3);
        x.shoot();
        x.image(true);
        x.minutes(1);
        x.step(1);
        due.same("kept", x.look(11), 3);
        one.tell(x);
        due.same("kept behind " + what, x.look(11), left);
        due.same("undo() behind " + what, x.undo() ? 1 : 0, left > 0 ? 1 : 0);
    }

    private static void undoForgets() {
        due.part("44: whatever else is told but LAWS (the taking of THE IMAGE does not) forgets them");
        forgets("state", 0, x -> x.state(0));
        forgets("bridge", 0, x -> x.bridge(6, 4));
        forgets("WIDE", 0, x -> x.set(0, 3));
        forgets("COMERS", 0, x -> x.set(1, 0));
        forgets("STAY", 0, x -> x.set(2, 5));
        forgets("GREY", 0, x -> x.set(3, 20));
        forgets("no WALKERS", 0, x -> x.text(0));
        forgets("WALKERS", 0, x -> Due.tell(x, 0, "walker 1 comes 0 at 0;"));
        forgets("A PICTURE", 0, x -> x.paste(0, 0));
        forgets("A PICTURE, from none", 0, x -> x.paste(0, -1));
        forgets("going back to THE IMAGE", 0, x -> x.image(false));
        forgets("no SHADE", 3, x -> x.text(1));
        forgets("no WORTH", 3, x -> x.text(2));
        forgets("SHADE", 3, x -> Due.tell(x, 1, "shade 1;"));
        forgets("WORTH", 3, x -> Due.tell(x, 2, "worth 1;"));
        forgets("taking THE IMAGE", 3, x -> x.image(true));
        forgets("feeding", 3, x -> x.feed(0, 0, 0, 0, 0));
        forgets("cutting", 3, x -> x.end(0));
        forgets("asking", 3, x -> x.best(0));
        forgets("a MINUTE", 4, x -> x.minutes(1));
        forgets("MINUTES", 6, x -> x.minutes(100));
        forgets("a SHOT", 4, x -> x.shoot());
        forgets("a STEP", 4, x -> x.step(0));
        forgets("going back", 2, x -> x.undo());
    }

    private static void p45() {
        due.part("45: false if there is none");
        NobodyThere x = new NobodyThere();
        due.no("none", x.image(false));
        due.no("still none", x.image(false));
        due.yes("taken", x.image(true));
        due.yes("gone back to", x.image(false));
        due.yes("more than once", x.image(false));
        due.part("45: all that is and was told, as it was when it was taken");
        StringBuilder text = new StringBuilder();
        for (int i = 0; i < 12; i++) {
            text.append("walker ").append(i).append(" comes 499 at ").append(i / 6 * 8 + i % 6).append(" east 1;");
        }
        x = new NobodyThere();
        due.same("twelve", Due.tell(x, 0, text.toString().replace(" east 1", "")), 12);
        Due.waitUntil(x, 498);
        for (int i = 0; i < 10; i++) {
            x.shoot();
        }
        x.minutes(1);
        x.image(true);
        long cover = x.covered(499);
        due.same("all of them", cover, Due.columns(0, 5, 2));
        x.bridge(2, 2);
        Due.tell(x, 0, "walker 9 comes 500 at 0;");
        x.image(false);
        due.same("their ways", x.covered(499), cover);
        due.same("their ways", x.covered(500), 0);
        due.same("the last of them", x.where(11, 499), 13);
        due.same("the last of them", x.of(11, 0), 11);
        due.same("ten shots", x.look(7), 10);
        due.same("an eleventh", x.shoot(), -1);
        due.same("MINUTE", x.look(2), 499);
        due.same("the last minute", x.minutes(1), 0);
        due.same("no more", x.minutes(1), -1);
        imageLeavesOut();
        imageOfLaws();
        imageOfShots();
    }

    private static void imageLeavesOut() {
        due.part("45: but the TAPE, fault() and what can be undone (nothing then)");
        NobodyThere x = new NobodyThere();
        Due.tell(x, 1, "?");
        Due.feed(x, "shade 1;");
        x.minutes(2);
        x.image(true);
        due.same("can be undone yet", x.look(11), 2);
        due.yes("and is", x.undo());
        Due.tell(x, 1, " shade 1/0;");
        due.same("a fault", x.fault(0), 1);
        Due.tell(x, 1, " shade 1/0;");
        Due.feed(x, "shade 22;");
        x.image(false);
        due.same("fault(0) as it is", x.fault(0), 2);
        due.same("fault(1) as it is", x.fault(1), 9);
        due.same("MINUTE as it was", x.look(2), 2);
        due.same("nothing can be undone", x.look(11), 0);
        due.no("nothing can be undone", x.undo());
        due.no("the tape as it is", x.end(10));
        due.same("the tape as it is", x.text(1), 1);
        due.same("the tape as it is", x.at(0, 0, 1), 22);
        x.minutes(1);
        due.same("what is done then can be", x.look(11), 1);
        due.yes("it can", x.undo());
        due.same("to the image, not behind it", x.look(2), 2);
        due.no("not behind it", x.undo());
    }

    private static void imageOfLaws() {
        due.part("45: LAWS, STATE, numbers and A PICTURE of the image");
        NobodyThere x = told(1, "shade 1 when x=0;shade 2 when x=1;shade 3;");
        Due.tell(x, 2, "worth 1 when minute=0;worth 2;");
        x.state(-5);
        x.set(0, 5);
        x.set(1, 3);
        x.set(2, 4);
        x.set(3, 6);
        x.shoot();
        x.paste(29, 0);
        x.step(1);
        x.image(true);
        int[] then = looks(x);
        then[11] = 0;
        for (int time = 0; time < 3; time++) {
            Due.tell(x, 1, "shade 9+8*7 when 1=2;");
            Due.tell(x, 2, "worth 9+8*7 when 1=2;");
            x.state(time);
            x.minutes(50);
            x.set(0, 1);
            x.set(1, 1000);
            x.set(2, 60);
            x.set(3, 99);
            x.paste(29, -1);
            x.shoot();
            if (time == 1) {
                x.bridge(8, 7);
            }
            due.yes("gone back", x.image(false));
            sameLooks("time " + time, x, then);
            due.same("shade", x.at(0, 0, 1), 1);
            due.same("shade", x.at(9, 0, 1), 2);
            due.same("shade", x.at(10, 0, 1), 3);
            due.same("worth", x.worth(0), 1);
            due.same("worth", x.worth(1), 2);
            due.same("picture", x.picture(39), 0);
        }
        x.minutes(1);
        x.image(true);
        x.minutes(1);
        x.image(false);
        due.same("a later one takes its place", x.look(2), 1);
    }

    private static void imageOfShots() {
        due.part("45: SHOTS of the image");
        NobodyThere x = told(0, "walker 77 comes 7 at 3;walker 78 comes 7 at 4;walker 79 comes 7 at 5;");
        x.minutes(7);
        x.set(0, 3);
        x.step(2);
        x.shoot();
        x.image(true);
        for (int time = 0; time < 2; time++) {
            x.bridge(8, 7);
            x.minutes(9);
            x.set(0, 5);
            x.step(1);
            x.shoot();
            x.image(false);
            int[] answers = {7, 2, 3, 2};
            for (int what = 0; what < 4; what++) {
                due.same("shot(0, " + what + ")", x.shot(0, what), answers[what]);
            }
            int[] who = {-2, -2, -1, 0, 1, -2};
            int[] tones = {-2, -2, 50, 77, 78, -2};
            for (int c = 0; c < who.length; c++) {
                due.same("book(0, " + c + ", 0)", x.book(0, c, 0), who[c]);
                due.same("book(0, " + c + ", 1)", x.book(0, c, 1), tones[c]);
            }
        }
    }

    private static void p46() {
        due.part("46: NONE for another what");
        NobodyThere x = new NobodyThere();
        for (int what : new int[] {-1, 15, 16, LEAST, MOST}) {
            due.same("look(" + what + ")", x.look(what), -1);
        }
        due.same("the last", x.look(14), 20);
        due.part("46: (STATE as it is)");
        x.state(-1);
        due.same("look(8)", x.look(8), -1);
        x.state(LEAST);
        due.same("look(8)", x.look(8), LEAST);
        due.part("46: full to the bounds");
        x = bridge(8, 7);
        Due.tell(x, 0, "walker 1 comes 0 at 0;".repeat(12));
        Due.tell(x, 1, "shade 1;".repeat(16));
        Due.tell(x, 2, "worth 1;".repeat(15));
        x.set(1, 1000);
        x.set(2, 60);
        x.set(3, 99);
        x.set(0, 1);
        for (int i = 0; i < 10; i++) {
            x.shoot();
        }
        Due.waitUntil(x, 500);
        x.step(7);
        int[] full = {8, 7, 500, 1, 7, 12, 8, 10, x.look(8), 16, 15, 6, 1000, 60, 99};
        for (int i = 0; i < full.length; i++) {
            due.same("look(" + i + ")", x.look(i), full[i]);
        }
    }
}
