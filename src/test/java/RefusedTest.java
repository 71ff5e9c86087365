import java.util.ArrayList;
import java.util.List;

/**
 * What a call leaves as it was: two objects of the same calls, one of which is asked for something that it refuses (or
 * that is only a question); all that can be seen of both must be alike then.
 */
public final class RefusedTest {
    private static final int LEAST = Integer.MIN_VALUE;
    private static final int MOST = Integer.MAX_VALUE;
    private static final int NEW = 1;
    private static final int RICH = 2;
    private static final int FULL = 4;
    private static final int SMALL = 8;
    private static final int UNDONE = 16;
    private static final int ALL = 31;
    private static final int SITUATIONS = 5;
    private static final int PROBES = 3;
    /** An answer that is not looked at here. */
    private static final long ANY = Long.MIN_VALUE;

    private static final Due due = new Due("RefusedTest");

    private interface Call {
        long on(NobodyThere x);
    }

    private RefusedTest() {
    }

    public static void main(String[] args) {
        situations();
        refusedTellings();
        refusedTexts();
        refusedGoings();
        refusedOfMinutes();
        refusedOfShots();
        questions();
        due.close();
    }

    private static long told(boolean answer) {
        return answer ? 1 : 0;
    }

    // ---- situations

    private static NobodyThere make(int situation) {
        NobodyThere x = new NobodyThere();
        switch (situation) {
            case NEW:
                break;
            case RICH:
                rich(x);
                break;
            case FULL:
                full(x);
                break;
            case SMALL:
                x.bridge(2, 2);
                x.set(0, 1);
                Due.tell(x, 2, "worth ?");
                Due.feed(x, "shade 1" + "+1".repeat(186) + " ;");
                break;
            default:
                rich(x);
                x.undo();
                x.minutes(5);
                x.undo();
                x.undo();
        }
        return x;
    }

    private static void rich(NobodyThere x) {
        x.bridge(5, 4);
        Due.tell(x, 0, "walker 30 comes 2 at 8 stand 2 east 3 north 2;walker 70 comes 0 at 0 east 9;walker 5 comes 7 at 20"
            + " stand 60;");
        Due.tell(x, 1, "shade minute/5+x*9 when y=1;shade 33 when edge=1;");
        Due.tell(x, 2, "worth 50-people when covered>1;worth minute-edges;");
        x.set(1, 600);
        x.set(2, 9);
        x.set(3, 44);
        x.state(-77);
        x.shoot();
        x.minutes(6);
        x.set(0, 3);
        x.step(1);
        x.shoot();
        x.image(true);
        x.paste(9, 0);
        x.paste(10, 1);
        x.paste(11, 1);
        x.minutes(1);
        x.step(2);
        x.minutes(2);
        x.shoot();
        Due.tell(x, 1, "shade 1/0;");
        Due.feed(x, "shade 7;shade 8 when x=1;");
    }

    private static void full(NobodyThere x) {
        x.bridge(8, 7);
        Due.tell(x, 0, "walker 9 comes 498 at 55 west 2;".repeat(12));
        Due.tell(x, 1, "shade 3 when x=3;".repeat(16));
        Due.tell(x, 2, "worth 9 when step=1;".repeat(16));
        x.set(0, 4);
        x.set(1, 1000);
        x.set(2, 60);
        x.image(true);
        for (int i = 0; i < 5; i++) {
            x.minutes(100);
            x.shoot();
            x.step(1 + i % 2);
            x.shoot();
        }
        x.paste(55, 9);
        for (int step : new int[] {2, 3, 4, 3, 2, 1, 0}) {
            x.step(step);
        }
        Due.tell(x, 1, "shade 3;".repeat(17));
        Due.feed(x, "shade 1" + "+1".repeat(196) + ";");
    }

    /** That they are what they are called. */
    private static void situations() {
        due.part("situations");
        int[][] looks = {
            {6, 4, 0, 6, 0, 0, 0, 0, 0, 0, 0, 0, 0, 5, 20},
            {5, 4, 9, 3, 2, 3, make(RICH).look(6), 3, make(RICH).look(8), 2, 2, 5, 600, 9, 44},
            {8, 7, 500, 4, 0, 12, 8, 10, make(FULL).look(8), 16, 16, 6, 1000, 60, 20},
            {2, 2, 0, 1, 0, 0, 0, 0, 0, 0, 0, 0, 0, 5, 20},
            {5, 4, 12, 3, 2, 3, make(UNDONE).look(6), 2, make(UNDONE).look(8), 2, 2, 4, 600, 9, 44}};
        int[] faults = {0, 2, 3, 1, 2};
        int[] tapes = {0, 25, 400, 381, 25};
        for (int i = 0; i < SITUATIONS; i++) {
            NobodyThere x = make(1 << i);
            for (int what = 0; what < 15; what++) {
                due.same("look(" + what + ") in situation " + (1 << i), x.look(what), looks[i][what]);
            }
            due.same("fault(0)", x.fault(0), faults[i]);
            due.yes("the tape has so many", x.end(tapes[i]));
            x = make(1 << i);
            due.no("and no more", x.end(tapes[i] + 1));
        }
        due.yes("strangers", make(RICH).look(6) > 1);
    }

    // ---- what can be seen

    private static List<Long> probe(int which, NobodyThere x, boolean withFault) {
        List<Long> seen = new ArrayList<>();
        for (int i = 0; i < 15; i++) {
            seen.add((long) x.look(i));
        }
        if (withFault) {
            seen.add((long) x.fault(0));
            seen.add((long) x.fault(1));
        }
        if (which == 0) {
            probeMinutes(x, seen);
        } else if (which == 1) {
            probeShots(x, seen);
        } else {
            probeGoingOn(x, seen);
        }
        return seen;
    }

    private static void probeMinutes(NobodyThere x, List<Long> seen) {
        int[] minutes = {0, 2, 5, 8, 12, 498, 500};
        for (int i = 0; i < 12; i += i < 3 ? 1 : 4) {
            for (int what = 0; what < 5; what++) {
                seen.add((long) x.of(i, what));
            }
            for (int m : minutes) {
                seen.add((long) x.where(i, m));
            }
        }
        for (int i = 0; i < 8; i++) {
            for (int what = 0; what < 3; what++) {
                seen.add((long) x.stranger(i, what));
            }
        }
        for (int m : minutes) {
            seen.add(x.covered(m));
            seen.add((long) x.worth(m));
            for (int c = 0; c < 56; c += 9) {
                seen.add((long) x.at(c, m, 1));
                seen.add((long) x.at(c, m, 2));
            }
        }
    }

    private static void probeShots(NobodyThere x, List<Long> seen) {
        for (int i = 0; i < 10; i++) {
            for (int what = 0; what < 4; what++) {
                seen.add((long) x.shot(i, what));
            }
            for (int c = 1; c < 56; c += 9) {
                seen.add((long) x.book(i, c, 0));
                seen.add((long) x.book(i, c, 1));
            }
        }
        int all = (1 << x.look(7)) - 1;
        seen.add(x.laid(all));
        seen.add(x.most(all));
        seen.add(x.sure(all, 2));
        seen.add((long) x.fewest(1));
        for (int i = 0; i < 3; i++) {
            seen.add((long) x.picture(i));
        }
        for (int c = 0; c < 56; c++) {
            seen.add((long) x.picture(10 + c));
        }
        seen.add((long) x.waits());
        seen.add((long) x.best(0));
        seen.add((long) x.two(1));
    }

    private static void probeGoingOn(NobodyThere x, List<Long> seen) {
        int[] changing = {2, 4, 6, 7, 8, 11};
        seen.add((long) x.feed(0x3B3B3B3B, 0x3B3B3B3B, 0x3B3B3B3B, 0x3B3B3B3B, 0x3B3B3B3B));
        seen.add((long) x.text(1));
        seen.add((long) x.fault(0));
        seen.add((long) x.fault(1));
        seen.add((long) x.at(1, 0, 1));
        for (int i = 0; i < 7; i++) {
            seen.add(told(x.undo()));
            for (int what : changing) {
                seen.add((long) x.look(what));
            }
            seen.add((long) x.stranger(0, 0));
            seen.add((long) x.shot(x.look(7) - 1, 0));
        }
        seen.add((long) x.minutes(3));
        seen.add((long) x.shoot());
        for (int what : changing) {
            seen.add((long) x.look(what));
        }
        seen.add(told(x.image(false)));
        for (int i = 0; i < 15; i++) {
            seen.add((long) x.look(i));
        }
        for (int m = 0; m < 10; m++) {
            seen.add(x.covered(m));
            seen.add((long) x.worth(m));
            seen.add((long) x.at(9, m, 1));
            seen.add((long) x.shot(m, 3));
            seen.add((long) x.picture(18 + m));
        }
    }

    // ---- twins

    /** In each of the situations the call answers so, and leaves all as the other call does. */
    private static void twins(String name, int situations, long want, Call call, Call other, boolean withFault) {
        for (int i = 0; i < SITUATIONS; i++) {
            int situation = 1 << i;
            for (int which = 0; which < PROBES && (situations & situation) != 0; which++) {
                NobodyThere x = make(situation);
                NobodyThere y = make(situation);
                long answer = call.on(x);
                other.on(y);
                if (want != ANY) {
                    due.same(name + " in situation " + situation, answer, want);
                }
                List<Long> changed = probe(which, x, withFault);
                List<Long> as = probe(which, y, withFault);
                int unlike = -1;
                for (int k = changed.size() - 1; k >= 0; k--) {
                    unlike = changed.get(k).equals(as.get(k)) ? unlike : k;
                }
                due.same(name + " in situation " + situation + ", what it changed of probe " + which, unlike, -1);
            }
        }
    }

    private static void refused(String name, int situations, long want, Call call) {
        twins(name, situations, want, call, x -> 0, true);
    }

    private static void refused(String name, long want, Call call) {
        refused(name, ALL, want, call);
    }

    private static void question(String name, Call call) {
        refused(name, ALL, ANY, call);
    }

    private static void refusedTellings() {
        due.part("bridge: false, and nothing is done");
        int[][] sizes = {{1, 4}, {9, 4}, {4, 1}, {4, 8}, {1, 1}, {9, 8}, {8, 8}, {LEAST, 4}, {4, MOST}};
        for (int[] size : sizes) {
            refused("bridge(" + size[0] + ", " + size[1] + ")", 0, x -> told(x.bridge(size[0], size[1])));
        }
        due.part("set: false if it can't be, or another what");
        int[][] sets = {{0, 0}, {0, -1}, {0, 9}, {1, -1}, {1, 1001}, {2, 0}, {2, 61}, {3, -1}, {3, 100}, {4, 1}, {-1, 1},
            {LEAST, 1}, {MOST, 1}, {0, MOST}, {0, LEAST}};
        for (int[] one : sets) {
            refused("set(" + one[0] + ", " + one[1] + ")", 0, x -> told(x.set(one[0], one[1])));
        }
        refused("set(0, W + 1)", 0, x -> told(x.set(0, x.look(0) + 1)));
        due.part("step: false if it can't be (the same as it is)");
        for (int v : new int[] {-1, 8, LEAST, MOST}) {
            refused("step(" + v + ")", 0, x -> told(x.step(v)));
        }
        refused("step(W - WIDE + 1)", 0, x -> told(x.step(x.look(0) - x.look(3) + 1)));
        refused("step(as it is)", 0, x -> told(x.step(x.look(4))));
        due.part("paste: false if one can't be");
        for (int c : new int[] {-1, 5 + 2, 56, 64, LEAST, MOST}) {
            refused("paste(" + c + ", -1)", c == 7 ? ALL - FULL : ALL, 0, x -> told(x.paste(c, -1)));
            refused("paste(" + c + ", 0)", c == 7 ? ALL - FULL : ALL, 0, x -> told(x.paste(c, 0)));
        }
        for (int shot : new int[] {-2, 10, LEAST, MOST}) {
            refused("paste(9, " + shot + ")", 0, x -> told(x.paste(9, shot)));
        }
        refused("paste(9, as many as there are)", 0, x -> told(x.paste(9, x.look(7))));
        due.part("image: false if there is none");
        refused("image(false)", NEW + SMALL, 0, x -> told(x.image(false)));
    }

    private static void refusedTexts() {
        due.part("feed: NONE, and nothing comes");
        refused("feed", FULL + SMALL, -1, x -> x.feed(0x73686164, 0x65203939, 0x3B202020, -1, -1));
        due.part("end: false, changing nothing");
        for (int n : new int[] {-1, 401, LEAST, MOST}) {
            refused("end(" + n + ")", 0, x -> told(x.end(n)));
        }
        refused("end(1)", NEW, 0, x -> told(x.end(1)));
        refused("end(26)", NEW + RICH + UNDONE, 0, x -> told(x.end(26)));
        refused("end(382)", ALL - FULL, 0, x -> told(x.end(382)));
        due.part("text: NONE, no such one: the TAPE is empty, fault() tells 0, all else is as it was");
        for (int k : new int[] {-1, 3, LEAST, MOST}) {
            twins("text(" + k + ")", ALL, -1, x -> x.text(k), x -> told(x.end(0)), false);
        }
        due.part("text: NONE, a FAULT: the TAPE is empty, fault() tells it, all else is as it was");
        String[][] faulty = {
            {"?", "walker 1 comes 0 at 0;walker", "walker 1 comes 0 at 0;".repeat(13), "walker 1 comes 501 at 0;"},
            {"?", "shade 1;shade", "shade 1;".repeat(17), "shade 1;shade 1/0;"},
            {"?", "worth 1;worth", "worth 1;".repeat(17), "worth 1;worth 1/0;"}};
        for (int k = 0; k < 3; k++) {
            int told = k;
            for (String text : faulty[k]) {
                Call fails = x -> {
                    x.end(0);
                    return Due.tell(x, told, text);
                };
                twins("text(" + k + ") of <" + text + ">", ALL, -1, fails, x -> told(x.end(0)), false);
            }
        }
    }

    private static void refusedGoings() {
        due.part("minutes: NONE, and nothing is done");
        for (int n : new int[] {0, -1, 101, LEAST, MOST}) {
            refused("minutes(" + n + ")", -1, x -> x.minutes(n));
        }
        refused("minutes(1)", FULL, -1, x -> x.minutes(1));
        refused("minutes(100)", FULL, -1, x -> x.minutes(100));
        due.part("shoot: NONE if there are ten");
        refused("shoot()", FULL, -1, x -> x.shoot());
        due.part("undo: false if there is nothing");
        refused("undo()", NEW + SMALL, 0, x -> told(x.undo()));
        due.part("another what");
        for (int what : new int[] {-1, 15, LEAST, MOST}) {
            refused("look(" + what + ")", -1, x -> x.look(what));
            refused("fault(" + what + ")", -1, x -> x.fault(what));
            refused("row(" + what + ")", -1, x -> x.row(what));
            refused("best(" + what + ")", -1000, x -> x.best(what));
            refused("fewest(" + what + ")", -1, x -> x.fewest(what));
            refused("stander(" + what + ")", -1, x -> x.stander(what));
            refused("two(" + what + ")", -1, x -> x.two(what));
            refused("of(0, " + what + ")", -2, x -> x.of(0, what));
            refused("stranger(0, " + what + ")", -1, x -> x.stranger(0, what));
            refused("at(9, 0, " + what + ")", -1, x -> x.at(9, 0, what));
            refused("shot(0, " + what + ")", -1, x -> x.shot(0, what));
            refused("book(0, 9, " + what + ")", -2, x -> x.book(0, 9, what));
            refused("exposed(0, 9, 9, " + what + ")", -1, x -> x.exposed(0, 9, 9, what));
            refused("hours(9, 50, " + what + ")", -1, x -> x.hours(9, 50, what));
            refused("whenShot(0, " + what + ")", -2, x -> x.whenShot(0, what));
        }
        for (int what : new int[] {-1, 3, 9, 66, LEAST, MOST}) {
            refused("picture(" + what + ")", -2, x -> x.picture(what));
        }
    }

    private static void refusedOfMinutes() {
        due.part("a MINUTE that can't be");
        for (int m : new int[] {-1, 501, LEAST, MOST}) {
            refused("where(0, " + m + ")", -1, x -> x.where(0, m));
            refused("covered(" + m + ")", -1, x -> x.covered(m));
            refused("at(9, " + m + ", 2)", -1, x -> x.at(9, m, 2));
            refused("worth(" + m + ")", -1000, x -> x.worth(m));
            refused("twos(" + m + ")", -1, x -> x.twos(m));
            refused("judged(0, " + m + ")", -1, x -> x.judged(0, m));
            refused("nobody(" + m + ")", -1, x -> x.nobody(m));
            refused("copies(" + m + ", 5)", -1, x -> x.copies(m, 5));
            refused("enough(" + m + ", -1)", -1, x -> x.enough(m, -1));
        }
        due.part("MINUTES that can't be");
        int[][] spans = {{-1, 0}, {500, 501}, {1, 0}, {LEAST, MOST}, {MOST, LEAST}};
        for (int[] span : spans) {
            String of = "(" + span[0] + ", " + span[1] + ")";
            refused("steps" + of, -1, x -> x.steps(span[0], span[1]));
            refused("never" + of, -1, x -> x.never(span[0], span[1]));
            refused("exposed" + of, -1, x -> x.exposed(span[0], span[1], 9, 0));
            refused("ghosts" + of, -1, x -> x.ghosts(span[0], span[1]));
            refused("with" + of, -1, x -> x.with(span[0], span[1]));
        }
        due.part("a SPOT that there is not");
        for (int c : new int[] {-1, 56, LEAST, MOST}) {
            refused("at(" + c + ", 0, 2)", -1, x -> x.at(c, 0, 2));
            refused("exposed(0, 9, " + c + ", 1)", -1, x -> x.exposed(0, 9, c, 1));
            refused("hours(" + c + ", 50, 0)", -1, x -> x.hours(c, 50, 0));
            refused("book(0, " + c + ", 0)", -2, x -> x.book(0, c, 0));
            refused("middle(0, " + c + ")", -1, x -> x.middle(0, c));
        }
        due.part("a SHADE, a WALKER or a STRANGER that can't be");
        for (int v : new int[] {-1, 100, LEAST, MOST}) {
            refused("hours(9, " + v + ", 0)", -1, x -> x.hours(9, v, 0));
            refused("of(" + v + ", 0)", -2, x -> x.of(v, 0));
            refused("where(" + v + ", 0)", -1, x -> x.where(v, 0));
            refused("stranger(" + v + ", 0)", -1, x -> x.stranger(v, 0));
        }
    }

    private static void refusedOfShots() {
        due.part("a SHOT that there is not");
        for (int i : new int[] {-1, 10, LEAST, MOST}) {
            refused("shot(" + i + ", 0)", -1, x -> x.shot(i, 0));
            refused("book(" + i + ", 9, 0)", -2, x -> x.book(i, 9, 0));
            refused("judged(" + i + ", 0)", -1, x -> x.judged(i, 0));
            refused("whenShot(" + i + ", 0)", -2, x -> x.whenShot(i, 0));
        }
        refused("shot(as many as there are, 0)", -1, x -> x.shot(x.look(7), 0));
        due.part("a set that is not one of SHOTS");
        for (int shots : new int[] {-1, 1024, LEAST, MOST}) {
            refused("laid(" + shots + ")", -1, x -> x.laid(shots));
            refused("most(" + shots + ")", -1, x -> x.most(shots));
            refused("middle(" + shots + ", 9)", -1, x -> x.middle(shots, 9));
            refused("sure(" + shots + ", 1)", -1, x -> x.sure(shots, 1));
        }
        refused("laid(one more than there are)", -1, x -> x.laid(1 << x.look(7)));
        for (int n : new int[] {0, 11, LEAST, MOST}) {
            refused("sure(0, " + n + ")", -1, x -> x.sure(0, n));
        }
    }

    private static void questions() {
        due.part("IN THOUGHT (nothing of it stays; no DRAWS), and other questions");
        question("fault", x -> x.fault(0) + x.fault(1));
        question("of", x -> x.of(0, 3) + x.of(0, 4));
        question("where", x -> x.where(0, 3));
        question("stranger", x -> x.stranger(0, 0));
        question("covered", x -> x.covered(500));
        question("at", x -> x.at(9, 500, 0) + x.at(9, 500, 1) + x.at(9, 500, 2));
        question("worth", x -> x.worth(500));
        question("shot", x -> x.shot(0, 3));
        question("book", x -> x.book(0, 9, 0));
        question("waits", x -> x.waits());
        question("row", x -> x.row(0) + x.row(1));
        question("best", x -> x.best(0) + x.best(1));
        question("steps", x -> x.steps(0, 500));
        question("laid", x -> x.laid((1 << x.look(7)) - 1));
        question("fewest", x -> x.fewest(0) + x.fewest(1) + x.fewest(2));
        question("never", x -> x.never(0, 500));
        question("most", x -> x.most((1 << x.look(7)) - 1));
        question("middle", x -> x.middle((1 << x.look(7)) - 1, 9));
        question("sure", x -> x.sure((1 << x.look(7)) - 1, 1));
        question("exposed", x -> x.exposed(0, 500, 9, 0) + x.exposed(0, 500, 9, 1));
        question("ghosts", x -> x.ghosts(0, 500));
        question("nobody", x -> x.nobody(500));
        question("copies", x -> x.copies(15, 400));
        question("enough", x -> x.enough(400, 999999));
        question("hours", x -> x.hours(9, 50, 0) + x.hours(9, 50, 2));
        question("judged", x -> x.judged(0, 500));
        question("whenShot", x -> x.whenShot(0, 0) + x.whenShot(0, 2));
        question("stander", x -> x.stander(0) + x.stander(1));
        question("with", x -> x.with(0, 500));
        question("twos", x -> x.twos(0));
        question("two", x -> x.two(0) + x.two(1));
        question("picture", x -> x.picture(0) + x.picture(1) + x.picture(2) + x.picture(19));
        question("look", x -> x.look(0) + x.look(11));
    }
}
