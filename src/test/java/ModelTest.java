import java.util.ArrayList;
import java.util.List;
import java.util.Random;

/** Runs of drawn calls (always the same ones), each answered by NobodyThere and by the Model alike. */
public final class ModelTest {
    private static final int CALLS = 512;

    private final Random random;
    private final NobodyThere real = new NobodyThere();
    private final Model model = new Model();
    private final List<String> log = new ArrayList<>();
    private int calls;
    private boolean unlike;
    private int width = 6;
    private int height = 4;

    private ModelTest(long seed) {
        random = new Random(seed);
    }

    public static void main(String[] args) {
        int runs = args.length > 0 ? Integer.parseInt(args[0]) : 150;
        int first = args.length > 1 ? Integer.parseInt(args[1]) : 0;
        int wrong = 0;
        for (int seed = first; seed < first + runs && wrong < 5; seed++) {
            ModelTest run = new ModelTest(seed);
            run.play();
            if (run.unlike) {
                wrong++;
                System.out.println("run of seed " + seed + " goes apart at its call " + run.calls + ":");
                int from = Math.max(0, run.log.size() - 40);
                for (String line : run.log.subList(from, run.log.size())) {
                    System.out.println("  " + line);
                }
            }
        }
        System.out.println("ModelTest: " + (wrong == 0 ? "all runs are alike" : wrong + " runs are unlike"));
        if (wrong != 0) {
            System.exit(1);
        }
    }

    private void due(String call, long got, long want) {
        calls++;
        log.add(call + " = " + got + (got == want ? "" : ", the model: " + want));
        if (got != want) {
            unlike = true;
        }
    }

    private void due(String call, boolean got, boolean want) {
        due(call, got ? 1 : 0, want ? 1 : 0);
    }

    private boolean goesOn() {
        return calls < CALLS && !unlike;
    }

    private int below(int n) {
        return random.nextInt(n);
    }

    private boolean once(int n) {
        return below(n) == 0;
    }

    // ---- arguments: mostly right ones, now and then any

    private int any() {
        int[] edges = {-1, -2, 0, 1, 2, 3, 4, 5, 7, 8, 9, 10, 11, 12, 15, 16, 59, 60, 61, 99, 100, 101, 400, 499, 500, 501,
            999, 1000, 1001, 1000000, 1000001, Integer.MAX_VALUE, Integer.MIN_VALUE, Integer.MAX_VALUE - 1};
        return once(3) ? random.nextInt() : edges[below(edges.length)];
    }

    private int minute() {
        if (once(12)) {
            return any();
        }
        return once(3) ? below(501) : below(40);
    }

    private int later(int a) {
        return once(12) || a < 0 || a > 500 ? any() : Math.min(500, a + (once(3) ? below(400) : below(12)));
    }

    private int spot() {
        return once(12) ? any() : 8 * below(height) + below(width);
    }

    private int what(int n) {
        return once(12) ? any() : below(n);
    }

    private int shotNumber() {
        return once(12) ? any() : below(Math.max(1, model.look(7)));
    }

    private int shotSet() {
        return once(12) ? any() : below(1 << model.look(7));
    }

    // ---- texts

    private String walkersText() {
        StringBuilder t = new StringBuilder();
        int n = once(10) ? 13 : below(7);
        for (int i = 0; i < n && t.length() < 380; i++) {
            t.append("walker ").append(below(once(20) ? 110 : 100)).append(" comes ");
            t.append(once(8) ? 470 + below(33) : below(25)).append(" at ");
            t.append(once(25) ? below(70) : 8 * below(height) + below(width));
            int parts = n > 8 ? 0 : once(12) ? 9 : below(5);
            for (int p = 0; p < parts; p++) {
                t.append(' ').append(new String[] {"stand", "north", "east", "south", "west"}[below(5)]);
                t.append(' ').append(once(30) ? below(80) : once(5) ? 1 + below(60) : 1 + below(5));
            }
            t.append(" ;");
        }
        return t.toString();
    }

    private String lawText(boolean shade) {
        StringBuilder t = new StringBuilder();
        int n = once(12) ? 17 : below(5);
        for (int i = 0; i < n && t.length() < 360; i++) {
            t.append(shade ? "shade " : "worth ");
            t.append(n > 8 ? "1" : sum(shade));
            if (n <= 8 && once(2)) {
                t.append(" when ").append(either(shade, 0));
            }
            t.append(';');
        }
        return t.toString();
    }

    private String unit(boolean shade) {
        if (once(2)) {
            return String.valueOf(once(3) ? below(10000) : below(12));
        }
        String[] names = shade ? new String[] {"x", "y", "minute", "edge"}
            : new String[] {"minute", "covered", "edges", "step", "people"};
        return names[below(names.length)];
    }

    private String sum(boolean shade) {
        StringBuilder t = new StringBuilder(unit(shade));
        for (int n = once(20) ? 8 : below(4); n > 0; n--) {
            int sign = below(4);
            t.append("+-*/".charAt(sign)).append(sign == 3 ? String.valueOf(once(30) ? 0 : 1 + below(9)) : unit(shade));
        }
        return t.toString();
    }

    private String either(boolean shade, int depth) {
        StringBuilder t = new StringBuilder(test(shade, depth));
        for (int n = below(3); n > 0; n--) {
            t.append(once(2) ? " or " : " and ").append(test(shade, depth));
        }
        return t.toString();
    }

    private String test(boolean shade, int depth) {
        if (depth < 4 && once(4)) {
            return "(" + either(shade, depth + 1) + ")";
        }
        if (once(60)) {
            return "((((((((" + "(".repeat(below(2)) + "1=1" + "))))))))" + ")".repeat(below(2));
        }
        if (once(5)) {
            return "not " + test(shade, depth + 1);
        }
        return sum(shade) + "<=>".charAt(below(3)) + sum(shade);
    }

    private String spoilt(String t) {
        if (t.isEmpty() || !once(4)) {
            return t;
        }
        int i = below(t.length());
        switch (below(4)) {
            case 0:
                return t.substring(0, i);
            case 1:
                return t.substring(0, i) + t.substring(i + 1);
            case 2:
                return t.substring(0, i) + (char) below(256) + t.substring(i + 1);
            default:
                String[] more = {" ", "\n", "not ", "(", ")", ";", "12345", "0", "when", "and", "minute", "X", "x", "/0"};
                return t.substring(0, i) + more[below(more.length)] + t.substring(i);
        }
    }

    private void tell(int k, String text) {
        String t = text.length() > 400 ? text.substring(0, 400) : text;
        if (calls + 25 > CALLS) {
            return;
        }
        StringBuilder padded = new StringBuilder(t);
        while (padded.length() % 20 != 0) {
            padded.append(' ');
        }
        for (int i = 0; i < padded.length() && goesOn(); i += 20) {
            int[] n = new int[5];
            for (int j = 0; j < 20; j++) {
                n[j / 4] = n[j / 4] << 8 | padded.charAt(i + j);
            }
            feed(n);
        }
        int length = once(15) ? any() : t.length();
        due("end(" + length + ")", real.end(length), model.end(length));
        due("text(" + k + ") of <" + t + ">", real.text(k), model.text(k));
        due("fault(0)", real.fault(0), model.fault(0));
        due("fault(1)", real.fault(1), model.fault(1));
    }

    private void feed(int[] n) {
        due("feed(" + n[0] + ", " + n[1] + ", " + n[2] + ", " + n[3] + ", " + n[4] + ")",
            real.feed(n[0], n[1], n[2], n[3], n[4]), model.feed(n));
    }

    private void play() {
        if (once(2)) {
            tellBridge();
        }
        if (!once(5)) {
            tell(0, spoilt(walkersText()));
        }
        if (!once(3)) {
            int comers = once(3) ? 1000 : below(1001);
            due("set(1, " + comers + ")", real.set(1, comers), model.set(1, comers));
        }
        while (goesOn()) {
            turn();
        }
    }

    private void turn() {
        int kind = below(100);
        if (kind < 3) {
            tell(once(20) ? any() : 0, spoilt(walkersText()));
        } else if (kind < 5) {
            tell(1, spoilt(lawText(true)));
        } else if (kind < 7) {
            tell(2, spoilt(lawText(false)));
        } else if (kind < 14) {
            int n = once(10) ? any() : once(8) ? below(101) : 1 + below(4);
            due("minutes(" + n + ")", real.minutes(n), model.minutes(n));
        } else if (kind < 20) {
            due("shoot()", real.shoot(), model.shoot());
        } else if (kind < 24) {
            int v = once(6) ? any() : below(8);
            due("step(" + v + ")", real.step(v), model.step(v));
        } else if (kind < 35) {
            tellOther();
        } else if (kind < 55) {
            askPlain();
        } else if (kind < 75) {
            askMinutes();
        } else {
            askShots();
        }
    }

    private void tellBridge() {
        int w = once(15) ? any() : 2 + below(7);
        int h = once(15) ? any() : 2 + below(6);
        due("bridge(" + w + ", " + h + ")", real.bridge(w, h), model.bridge(w, h));
        width = model.look(0);
        height = model.look(1);
    }

    private void tellOther() {
        switch (below(22)) {
            case 0:
                if (once(3)) {
                    tellBridge();
                }
                break;
            case 1:
            case 2:
                int state = random.nextInt();
                due("state(" + state + ")", real.state(state), model.state(state));
                break;
            case 3:
            case 4:
            case 5:
                int wide = once(8) ? any() : 1 + below(width);
                due("set(0, " + wide + ")", real.set(0, wide), model.set(0, wide));
                break;
            case 6:
                int what = what(4);
                int v = any();
                due("set(" + what + ", " + v + ")", real.set(what, v), model.set(what, v));
                break;
            case 7:
                int stay = 1 + below(once(2) ? 60 : 9);
                due("set(2, " + stay + ")", real.set(2, stay), model.set(2, stay));
                break;
            case 8:
                int grey = below(100);
                due("set(3, " + grey + ")", real.set(3, grey), model.set(3, grey));
                break;
            case 9:
                boolean taken = once(2);
                due("image(" + taken + ")", real.image(taken), model.image(taken));
                width = model.look(0);
                height = model.look(1);
                break;
            case 10:
                int n = any();
                due("end(" + n + ")", real.end(n), model.end(n));
                break;
            case 11:
                int comers = below(1001);
                due("set(1, " + comers + ")", real.set(1, comers), model.set(1, comers));
                break;
            case 12:
            case 13:
            case 14:
            case 15:
            case 16:
                due("undo()", real.undo(), model.undo());
                break;
            default:
                int c = spot();
                int shot = once(6) ? -1 : shotNumber();
                due("paste(" + c + ", " + shot + ")", real.paste(c, shot), model.paste(c, shot));
        }
    }

    private void askPlain() {
        int a = what(15);
        int c = spot();
        int m = minute();
        switch (below(13)) {
            case 0:
            case 1:
                due("look(" + a + ")", real.look(a), model.look(a));
                break;
            case 2:
                int w = what(7);
                due("of(" + w + ", " + a % 6 + ")", real.of(w, a % 6), model.of(w, a % 6));
                break;
            case 3:
                int walker = what(7);
                due("where(" + walker + ", " + m + ")", real.where(walker, m), model.where(walker, m));
                break;
            case 4:
                int i = what(8);
                int which = what(3);
                due("stranger(" + i + ", " + which + ")", real.stranger(i, which), model.stranger(i, which));
                break;
            case 5:
                due("covered(" + m + ")", real.covered(m), model.covered(m));
                break;
            case 6:
            case 7:
                int at = what(3);
                due("at(" + c + ", " + m + ", " + at + ")", real.at(c, m, at), model.at(c, m, at));
                break;
            case 8:
                due("worth(" + m + ")", real.worth(m), model.worth(m));
                break;
            case 9:
                int n = what(502);
                due("nobody(" + n + ")", real.nobody(n), model.nobody(n));
                break;
            case 10:
                int many = what(17);
                int e = once(9) ? any() : below(1001);
                due("copies(" + many + ", " + e + ")", real.copies(many, e), model.copies(many, e));
                break;
            case 11:
                int wrong = once(9) ? any() : below(1001);
                int of = once(9) ? any() : below(1000001);
                due("enough(" + wrong + ", " + of + ")", real.enough(wrong, of), model.enough(wrong, of));
                break;
            default:
                int f = what(2);
                due("fault(" + f + ")", real.fault(f), model.fault(f));
        }
    }

    private void askMinutes() {
        int a = minute();
        int b = later(a);
        int c = spot();
        int what = what(2);
        int three = what(3);
        switch (below(13)) {
            case 0:
                due("waits()", real.waits(), model.waits());
                break;
            case 1:
                due("row(" + what + ")", real.row(what), model.row(what));
                break;
            case 2:
                due("best(" + what + ")", real.best(what), model.best(what));
                break;
            case 3:
                due("steps(" + a + ", " + b + ")", real.steps(a, b), model.steps(a, b));
                break;
            case 4:
                due("never(" + a + ", " + b + ")", real.never(a, b), model.never(a, b));
                break;
            case 5:
                due("exposed(" + a + ", " + b + ", " + c + ", " + what + ")", real.exposed(a, b, c, what),
                    model.exposed(a, b, c, what));
                break;
            case 6:
                due("ghosts(" + a + ", " + b + ")", real.ghosts(a, b), model.ghosts(a, b));
                break;
            case 7:
                int v = once(9) ? any() : once(2) ? 50 : below(100);
                due("hours(" + c + ", " + v + ", " + three + ")", real.hours(c, v, three), model.hours(c, v, three));
                break;
            case 8:
                due("stander(" + three + ")", real.stander(three), model.stander(three));
                break;
            case 9:
                due("with(" + a + ", " + b + ")", real.with(a, b), model.with(a, b));
                break;
            case 10:
            case 11:
                due("twos(" + a + ")", real.twos(a), model.twos(a));
                break;
            default:
                due("two(" + what + ")", real.two(what), model.two(what));
        }
    }

    private void askShots() {
        int shot = shotNumber();
        int shots = shotSet();
        int c = spot();
        int m = minute();
        int three = what(3);
        int four = what(4);
        switch (below(12)) {
            case 0:
                due("shot(" + shot + ", " + four + ")", real.shot(shot, four), model.shot(shot, four));
                break;
            case 1:
            case 2:
                int what = what(2);
                due("book(" + shot + ", " + c + ", " + what + ")", real.book(shot, c, what), model.book(shot, c, what));
                break;
            case 3:
                due("laid(" + shots + ")", real.laid(shots), model.laid(shots));
                break;
            case 4:
                if (once(4)) {
                    due("fewest(" + three + ")", real.fewest(three), model.fewest(three));
                }
                break;
            case 5:
                due("most(" + shots + ")", real.most(shots), model.most(shots));
                break;
            case 6:
                due("middle(" + shots + ", " + c + ")", real.middle(shots, c), model.middle(shots, c));
                break;
            case 7:
                int n = once(9) ? any() : 1 + below(5);
                due("sure(" + shots + ", " + n + ")", real.sure(shots, n), model.sure(shots, n));
                break;
            case 8:
                due("judged(" + shot + ", " + m + ")", real.judged(shot, m), model.judged(shot, m));
                break;
            case 9:
                due("whenShot(" + shot + ", " + three + ")", real.whenShot(shot, three), model.whenShot(shot, three));
                break;
            default:
                int p = once(12) ? any() : once(2) ? below(3) : 10 + c;
                due("picture(" + p + ")", real.picture(p), model.picture(p));
        }
    }
}
