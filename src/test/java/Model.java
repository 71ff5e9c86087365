import java.util.ArrayDeque;
import java.util.ArrayList;
import java.util.Arrays;
import java.util.Collections;
import java.util.HashMap;
import java.util.LinkedHashMap;
import java.util.List;
import java.util.Map;
import java.util.Set;
import java.util.TreeSet;
import java.util.function.IntPredicate;
import java.util.function.Predicate;
import java.util.function.ToIntFunction;

/**
 * The document written a second time, as slowly and as literally as can be, with the Java library: what
 * NobodyThere answers is held against it on runs of drawn calls.
 */
final class Model {
    static final int NONE = -1;

    static final class Fault extends RuntimeException {
        private static final long serialVersionUID = 1L;
        final int kind;
        final int place;

        Fault(int kind, int place) {
            super(null, null, false, false);
            this.kind = kind;
            this.place = place;
        }
    }

    static final class Walker {
        int tone;
        int comes;
        int spot;
        final List<String> parts = new ArrayList<>();
        final Map<Integer, Integer> path = new HashMap<>();
    }

    static final class Stranger {
        int spot;
        int came;
        int until;
    }

    static final class Shot {
        int minute;
        int step;
        int wide;
        final Map<Integer, Integer> tone = new LinkedHashMap<>();
        final Map<Integer, Integer> who = new LinkedHashMap<>();

        boolean clear(int c) {
            return tone.containsKey(c) && who.get(c) == NONE;
        }
    }

    static final class Line {
        ToIntFunction<Map<String, Integer>> value;
        Predicate<Map<String, Integer>> when;
    }

    static final class All {
        int w = 6;
        int h = 4;
        int state;
        int minute;
        int wide = 6;
        int step;
        int comers;
        int stay = 5;
        int grey = 20;
        List<Walker> walkers = new ArrayList<>();
        List<Stranger> strangers = new ArrayList<>();
        List<Shot> shots = new ArrayList<>();
        List<Line> shade = new ArrayList<>();
        List<Line> worth = new ArrayList<>();
        Map<Integer, Integer> picture = new HashMap<>();

        All copy() {
            All c = new All();
            c.w = w;
            c.h = h;
            c.state = state;
            c.minute = minute;
            c.wide = wide;
            c.step = step;
            c.comers = comers;
            c.stay = stay;
            c.grey = grey;
            c.walkers = new ArrayList<>(walkers);
            c.strangers = new ArrayList<>(strangers);
            c.shots = new ArrayList<>(shots);
            c.shade = new ArrayList<>(shade);
            c.worth = new ArrayList<>(worth);
            c.picture = new HashMap<>(picture);
            return c;
        }
    }

    private All s = new All();
    private All image;
    private final ArrayDeque<All> before = new ArrayDeque<>();
    private final StringBuilder tape = new StringBuilder();
    private int faultKind;
    private int faultPlace = NONE;

    // ---- what is told

    int state(int v) {
        int was = s.state;
        s.state = v;
        before.clear();
        return was;
    }

    boolean bridge(int w, int h) {
        if (w < 2 || w > 8 || h < 2 || h > 7) return false;
        All fresh = new All();
        fresh.state = s.state;
        fresh.w = w;
        fresh.h = h;
        fresh.wide = w;
        s = fresh;
        before.clear();
        return true;
    }

    boolean set(int what, int v) {
        if (what == 0 && v >= 1 && v <= s.w) {
            s.wide = v;
            s.step = 0;
        } else if (what == 1 && v >= 0 && v <= 1000) {
            s.comers = v;
        } else if (what == 2 && v >= 1 && v <= 60) {
            s.stay = v;
        } else if (what == 3 && v >= 0 && v <= 99) {
            s.grey = v;
        } else {
            return false;
        }
        before.clear();
        return true;
    }

    private void remember() {
        before.addLast(s.copy());
        if (before.size() > 6) before.removeFirst();
    }

    boolean step(int v) {
        if (v == s.step || v < 0 || v + s.wide > s.w && v >= 0 && v <= 8 || v > 8) return false;
        remember();
        s.step = v;
        return true;
    }

    int feed(int... five) {
        if (tape.length() + 20 > 400) return NONE;
        for (int n : five) for (int k = 3; k >= 0; k--) tape.append((char) (n >> 8 * k & 255));
        return tape.length();
    }

    boolean end(int n) {
        if (n < 0 || n > tape.length()) return false;
        tape.setLength(n);
        return true;
    }

    // ---- texts

    private static final class Token {
        final String kind;
        final int place;

        Token(String kind, int place) {
            this.kind = kind;
            this.place = place;
        }
    }

    private List<Token> tokens;
    private int next;
    private int open;

    private static List<Token> tokenize(String t) {
        List<Token> out = new ArrayList<>();
        java.util.regex.Matcher m = java.util.regex.Pattern.compile("[ \n]+|[A-Za-z]+|[0-9]+|.",
            java.util.regex.Pattern.DOTALL).matcher(t);
        while (m.find()) {
            String g = m.group();
            char c = g.charAt(0);
            if (c == ' ' || c == '\n') continue;
            out.add(new Token(c >= '0' && c <= '9' && g.length() > 4 ? "?" : g, m.start()));
        }
        out.add(new Token("", t.length()));
        return out;
    }

    private String peek() {
        return tokens.get(next).kind;
    }

    private int place() {
        return tokens.get(next).place;
    }

    private void take(String kind) {
        if (!peek().equals(kind)) throw new Fault(1, place());
        next++;
    }

    private boolean isNumber() {
        return !peek().isEmpty() && Character.isDigit(peek().charAt(0)) && peek().charAt(0) < 128;
    }

    private int number(IntPredicate right) {
        if (!isNumber()) throw new Fault(1, place());
        int v = Integer.parseInt(peek());
        if (!right.test(v)) throw new Fault(2, place());
        next++;
        return v;
    }

    int text(int k) {
        String t = tape.toString();
        tape.setLength(0);
        faultKind = 0;
        faultPlace = NONE;
        if (k < 0 || k > 2) return NONE;
        tokens = tokenize(t);
        next = 0;
        open = 0;
        try {
            if (k == 0) {
                List<Walker> told = readWalkers();
                s.walkers = told;
                before.clear();
                return told.size();
            }
            List<Line> told = k == 1 ? readLaw("shade", "x", "y", "minute", "edge")
                : readLaw("worth", "minute", "covered", "edges", "step", "people");
            // laws are not undone: all that is remembered has the new one too
            if (k == 1) s.shade = told;
            else s.worth = told;
            for (All b : before) {
                if (k == 1) b.shade = told;
                else b.worth = told;
            }
            return told.size();
        } catch (Fault f) {
            faultKind = f.kind;
            faultPlace = f.place;
            return NONE;
        }
    }

    private List<Walker> readWalkers() {
        List<Walker> all = new ArrayList<>();
        while (!peek().isEmpty()) {
            int at = place();
            take("walker");
            if (all.size() == 12) throw new Fault(3, at);
            Walker one = new Walker();
            one.tone = number(v -> v <= 99);
            take("comes");
            one.comes = number(v -> v <= 500);
            take("at");
            one.spot = number(this::isSpot);
            while (Arrays.asList("stand", "north", "east", "south", "west").contains(peek())) {
                if (one.parts.size() == 8) throw new Fault(3, place());
                String way = peek();
                next++;
                int n = number(v -> v >= 1 && v <= 60);
                one.parts.add(way + " " + n);
            }
            take(";");
            walk(one);
            all.add(one);
        }
        return all;
    }

    private void walk(Walker one) {
        int m = one.comes;
        int x = one.spot % 8;
        int y = one.spot / 8;
        one.path.put(m, one.spot);
        for (String part : one.parts) {
            String way = part.split(" ")[0];
            for (int n = Integer.parseInt(part.split(" ")[1]); n > 0; n--) {
                m++;
                if (way.equals("north")) y--;
                if (way.equals("south")) y++;
                if (way.equals("east")) x++;
                if (way.equals("west")) x--;
                if (x < 0 || y < 0 || x >= s.w || y >= s.h) return;
                if (m <= 500) one.path.put(m, 8 * y + x);
            }
        }
    }

    private Set<String> names;

    private List<Line> readLaw(String opening, String... asks) {
        names = new TreeSet<>(Arrays.asList(asks));
        List<Line> all = new ArrayList<>();
        while (!peek().isEmpty()) {
            int at = place();
            take(opening);
            if (all.size() == 16) throw new Fault(3, at);
            Line line = new Line();
            line.value = readE();
            line.when = v -> true;
            if (peek().equals("when")) {
                next++;
                line.when = readB();
            }
            take(";");
            all.add(line);
        }
        return all;
    }

    private Predicate<Map<String, Integer>> readB() {
        Predicate<Map<String, Integer>> p = readA();
        while (peek().equals("or")) {
            next++;
            p = p.or(readA());
        }
        return p;
    }

    private Predicate<Map<String, Integer>> readA() {
        Predicate<Map<String, Integer>> p = readC();
        while (peek().equals("and")) {
            next++;
            p = p.and(readC());
        }
        return p;
    }

    private Predicate<Map<String, Integer>> readC() {
        if (peek().equals("not") || peek().equals("(")) {
            if (open == 8) throw new Fault(3, place());
            open++;
            boolean not = peek().equals("not");
            next++;
            Predicate<Map<String, Integer>> p = not ? readC().negate() : readB();
            if (!not) take(")");
            open--;
            return p;
        }
        ToIntFunction<Map<String, Integer>> a = readE();
        String sign = peek();
        if (!sign.equals("<") && !sign.equals("=") && !sign.equals(">")) throw new Fault(1, place());
        next++;
        ToIntFunction<Map<String, Integer>> b = readE();
        return v -> {
            int c = Integer.compare(a.applyAsInt(v), b.applyAsInt(v));
            return sign.equals("<") ? c < 0 : sign.equals("=") ? c == 0 : c > 0;
        };
    }

    private ToIntFunction<Map<String, Integer>> readE() {
        ToIntFunction<Map<String, Integer>> e = readT();
        while (peek().equals("+") || peek().equals("-")) {
            boolean plus = peek().equals("+");
            next++;
            ToIntFunction<Map<String, Integer>> a = e;
            ToIntFunction<Map<String, Integer>> b = readT();
            e = v -> plus ? a.applyAsInt(v) + b.applyAsInt(v) : a.applyAsInt(v) - b.applyAsInt(v);
        }
        return e;
    }

    private ToIntFunction<Map<String, Integer>> readT() {
        ToIntFunction<Map<String, Integer>> t = readU();
        while (peek().equals("*") || peek().equals("/")) {
            boolean times = peek().equals("*");
            next++;
            ToIntFunction<Map<String, Integer>> a = t;
            if (times) {
                ToIntFunction<Map<String, Integer>> b = readU();
                t = v -> a.applyAsInt(v) * b.applyAsInt(v);
            } else {
                int by = number(v -> v != 0);
                t = v -> a.applyAsInt(v) / by;
            }
        }
        return t;
    }

    private ToIntFunction<Map<String, Integer>> readU() {
        if (isNumber()) {
            int n = number(v -> true);
            return v -> n;
        }
        if (!names.contains(peek())) throw new Fault(1, place());
        String name = peek();
        next++;
        return v -> v.get(name);
    }

    int fault(int what) {
        return what == 0 ? faultKind : what == 1 ? faultPlace : NONE;
    }

    // ---- minutes and shots

    private int draw(int m) {
        s.state = 1664525 * s.state + 1013904223;
        return (int) ((s.state & 0xFFFFFFFFL) / 256 % m);
    }

    int minutes(int n) {
        if (n < 1 || n > 100 || s.minute + n > 500) return NONE;
        int came = 0;
        for (int i = 0; i < n; i++) {
            remember();
            if (s.comers > 0 && s.strangers.size() < 8 && draw(1000) < s.comers) {
                Stranger one = new Stranger();
                int d = draw(s.w * s.h);
                one.spot = spots().get(d);
                one.came = s.minute;
                one.until = s.minute + s.stay - 1;
                s.strangers.add(one);
                came++;
            }
            s.minute++;
            s.strangers.removeIf(p -> p.until < s.minute);
        }
        return came;
    }

    int shoot() {
        if (s.shots.size() == 10) return NONE;
        remember();
        Shot shot = new Shot();
        shot.minute = s.minute;
        shot.step = s.step;
        shot.wide = s.wide;
        for (int c : view(s.step)) {
            shot.tone.put(c, tone(c, s.minute));
            shot.who.put(c, who(c, s.minute));
        }
        s.shots.add(shot);
        return s.shots.size() - 1;
    }

    // ---- spots, cover, shade, tone, worth

    private List<Integer> spots() {
        List<Integer> all = new ArrayList<>();
        for (int y = 0; y < s.h; y++) for (int x = 0; x < s.w; x++) all.add(8 * y + x);
        return all;
    }

    private boolean isSpot(int c) {
        return c >= 0 && spots().contains(c);
    }

    private static boolean isMinute(int m) {
        return 0 <= m && m <= 500;
    }

    private static boolean isSpan(int a, int b) {
        return isMinute(a) && isMinute(b) && a <= b;
    }

    private boolean inView(int c, int step) {
        return c % 8 >= step && c % 8 < step + s.wide;
    }

    private List<Integer> view(int step) {
        List<Integer> all = spots();
        all.removeIf(c -> !inView(c, step));
        return all;
    }

    private static long asSet(Iterable<Integer> spots) {
        long n = 0;
        for (int c : spots) n += 1L << c;
        return n;
    }

    private int who(int c, int m) {
        for (int i = 0; i < s.walkers.size(); i++) if (where(i, m) == c) return i;
        for (int i = 0; i < s.strangers.size(); i++) if (strangerAt(s.strangers.get(i), m) == c) return 12 + i;
        return NONE;
    }

    private static int strangerAt(Stranger one, int m) {
        return one.came <= m && m <= one.until ? one.spot : NONE;
    }

    private boolean isCovered(int c, int m) {
        return who(c, m) != NONE;
    }

    private int evaluate(List<Line> law, Map<String, Integer> asked, int none, int low, int high) {
        int v = none;
        for (Line line : law) {
            if (line.when.test(asked)) {
                v = line.value.applyAsInt(asked);
                break;
            }
        }
        return v < low ? low : v > high ? high : v;
    }

    private int shade(int c, int m) {
        int x = c % 8;
        int y = c / 8;
        boolean edge = x == 0 || y == 0 || x + 1 == s.w || y + 1 == s.h;
        return evaluate(s.shade, Map.of("x", x, "y", y, "minute", m, "edge", edge ? 1 : 0), 50, 0, 99);
    }

    private int tone(int c, int m) {
        int who = who(c, m);
        return who == NONE ? shade(c, m) : who >= 12 ? s.grey : s.walkers.get(who).tone;
    }

    private int worthOf(int m) {
        int covered = 0;
        int edges = 0;
        int people = 0;
        for (int c : view(s.step)) {
            if (isCovered(c, m)) {
                covered++;
                if (c % 8 == s.step || c % 8 == s.step + s.wide - 1) edges++;
            }
            for (int i = 0; i < s.walkers.size(); i++) if (where(i, m) == c) people++;
            for (Stranger one : s.strangers) if (strangerAt(one, m) == c) people++;
        }
        return evaluate(s.worth, Map.of("minute", m, "covered", covered, "edges", edges, "step", s.step,
            "people", people), 100 - covered, -999, 999);
    }

    private boolean free(int m, int step) {
        for (int c : view(step)) if (isCovered(c, m)) return false;
        return true;
    }

    // ---- what is asked

    int of(int walker, int what) {
        if (walker < 0 || walker >= s.walkers.size()) return -2;
        Walker one = s.walkers.get(walker);
        switch (what) {
            case 0: return one.tone;
            case 1: return one.comes;
            case 2: return one.spot;
            case 3: return one.path.size();
            case 4: return where(walker, s.minute);
            default: return -2;
        }
    }

    int where(int walker, int minute) {
        if (walker < 0 || walker >= s.walkers.size()) return NONE;
        return s.walkers.get(walker).path.getOrDefault(minute, NONE);
    }

    int stranger(int i, int what) {
        if (i < 0 || i >= s.strangers.size()) return NONE;
        Stranger one = s.strangers.get(i);
        return what == 0 ? one.spot : what == 1 ? one.until : what == 2 ? one.came : NONE;
    }

    long covered(int minute) {
        if (!isMinute(minute)) return NONE;
        List<Integer> all = spots();
        all.removeIf(c -> !isCovered(c, minute));
        return asSet(all);
    }

    int at(int spot, int minute, int what) {
        if (!isSpot(spot) || !isMinute(minute)) return NONE;
        return what == 0 ? isCovered(spot, minute) ? 1 : 0 : what == 1 ? shade(spot, minute)
            : what == 2 ? tone(spot, minute) : NONE;
    }

    int worth(int minute) {
        return isMinute(minute) ? worthOf(minute) : -1000;
    }

    int shot(int i, int what) {
        if (i < 0 || i >= s.shots.size()) return NONE;
        Shot shot = s.shots.get(i);
        int covered = 0;
        for (int who : shot.who.values()) if (who != NONE) covered++;
        return what == 0 ? shot.minute : what == 1 ? shot.step : what == 2 ? shot.wide : what == 3 ? covered : NONE;
    }

    int book(int shot, int spot, int what) {
        if (shot < 0 || shot >= s.shots.size() || !s.shots.get(shot).who.containsKey(spot)) return -2;
        return what == 0 ? s.shots.get(shot).who.get(spot) : what == 1 ? s.shots.get(shot).tone.get(spot) : -2;
    }

    int waits() {
        for (int m = s.minute; m <= 500; m++) if (free(m, s.step)) return m;
        return NONE;
    }

    int row(int what) {
        int longest = 0;
        int first = NONE;
        for (int a = s.minute; a <= 500; a++) {
            int b = a;
            while (b <= 500 && free(b, s.step)) b++;
            if (b - a > longest) {
                longest = b - a;
                first = a;
            }
            a = b;
        }
        return what == 0 ? longest : what == 1 ? first : NONE;
    }

    int best(int what) {
        int best = NONE;
        int most = -1000;
        for (int m = s.minute; m <= 500; m++) {
            if (worthOf(m) > most) {
                most = worthOf(m);
                best = m;
            }
        }
        return what == 0 ? best : what == 1 ? most : -1000;
    }

    int steps(int a, int b) {
        if (!isSpan(a, b)) return NONE;
        List<Integer> free = new ArrayList<>();
        for (int st = 0; st + s.wide <= s.w; st++) {
            int n = 0;
            for (int m = a; m <= b; m++) if (free(m, st)) n++;
            free.add(n);
        }
        return free.indexOf(Collections.max(free));
    }

    private List<Shot> ofSet(int shots) {
        if (shots < 0 || shots >= 1 << s.shots.size()) return null;
        List<Shot> all = new ArrayList<>();
        for (int i = 0; i < s.shots.size(); i++) if ((shots & 1 << i) != 0) all.add(s.shots.get(i));
        return all;
    }

    long laid(int shots) {
        List<Shot> of = ofSet(shots);
        if (of == null) return NONE;
        Set<Integer> laid = new TreeSet<>();
        for (int c : view(s.step)) for (Shot shot : of) if (shot.clear(c)) laid.add(c);
        return asSet(laid);
    }

    int fewest(int what) {
        int all = (1 << s.shots.size()) - 1;
        int best = NONE;
        for (int n = 0; n <= 10 && best == NONE; n++) {
            for (int set = 0; set <= all && best == NONE; set++) {
                if (Integer.bitCount(set) == n && Long.bitCount(laid(set)) == Long.bitCount(laid(all))) best = set;
            }
        }
        if (what == 0) return Integer.bitCount(best);
        if (what == 1) return best;
        if (what != 2) return NONE;
        int taken = 0;
        while (true) {
            int next = NONE;
            int more = 0;
            for (int i = 0; i < s.shots.size(); i++) {
                int gain = Long.bitCount(laid(taken | 1 << i)) - Long.bitCount(laid(taken));
                if (gain > more) {
                    more = gain;
                    next = i;
                }
            }
            if (next == NONE) return Integer.bitCount(taken);
            taken |= 1 << next;
        }
    }

    long never(int a, int b) {
        if (!isSpan(a, b)) return NONE;
        List<Integer> all = view(s.step);
        for (int m = a; m <= b; m++) {
            int minute = m;
            all.removeIf(c -> !isCovered(c, minute));
        }
        return asSet(all);
    }

    private List<Integer> tones(List<Shot> of, int c) {
        List<Integer> all = new ArrayList<>();
        for (Shot shot : of) if (shot.tone.containsKey(c)) all.add(shot.tone.get(c));
        Collections.sort(all);
        return all;
    }

    long most(int shots) {
        List<Shot> of = ofSet(shots);
        if (of == null) return NONE;
        List<Integer> all = spots();
        all.removeIf(c -> {
            long clear = of.stream().filter(shot -> shot.clear(c)).count();
            return !(clear > tones(of, c).size() / 2.0);
        });
        return asSet(all);
    }

    int middle(int shots, int spot) {
        List<Shot> of = ofSet(shots);
        if (of == null) return NONE;
        List<Integer> tones = tones(of, spot);
        return tones.isEmpty() ? NONE : tones.get((tones.size() - 1) / 2);
    }

    long sure(int shots, int n) {
        List<Shot> of = ofSet(shots);
        if (of == null || n < 1 || n > 10) return NONE;
        List<Integer> all = spots();
        all.removeIf(c -> {
            List<Integer> tones = tones(of, c);
            for (int t : tones) if (Collections.frequency(tones, t) >= n) return false;
            return true;
        });
        return asSet(all);
    }

    int exposed(int a, int b, int spot, int what) {
        if (!isSpan(a, b) || !isSpot(spot) || what < 0 || what > 1) return NONE;
        int n = 0;
        int sum = 0;
        for (int m = a; m <= b; m++) {
            n += isCovered(spot, m) ? 1 : 0;
            sum += tone(spot, m);
        }
        return what == 0 ? n : sum / (b - a + 1);
    }

    long ghosts(int a, int b) {
        if (!isSpan(a, b)) return NONE;
        List<Integer> all = spots();
        all.removeIf(c -> {
            int n = exposed(a, b, c, 0);
            return n == 0 || n > (b - a + 1) / 2.0;
        });
        return asSet(all);
    }

    int nobody(int n) {
        if (n < 0 || n > 500) return NONE;
        long v = 1000000;
        while (n-- > 0) v = v * (1000 - s.comers) / 1000;
        return (int) v;
    }

    int copies(int n, int e) {
        if (n < 1 || n > 15 || n % 2 != 1 || e < 0 || e > 1000) return NONE;
        long[] chance = new long[n + 1];
        chance[0] = 1000000;
        for (int k = 0; k < n; k++) {
            long[] after = new long[n + 1];
            for (int j = 0; j <= n; j++) {
                after[j] = chance[j] * e / 1000 + (j == 0 ? 0 : chance[j - 1] * (1000 - e) / 1000);
            }
            chance = after;
        }
        long sum = 0;
        for (int j = 0; j <= n; j++) if (2 * j > n) sum += chance[j];
        return (int) sum;
    }

    int enough(int e, int m) {
        if (e < 0 || e > 1000 || m < 0 || m > 1000000) return NONE;
        for (int n = 1; n <= 15; n += 2) if (copies(n, e) >= m) return n;
        return NONE;
    }

    private static int told(List<Integer> minutes, int what, int other) {
        if (what == 0) return minutes.size();
        if (what != 1 && what != 2) return other;
        return minutes.isEmpty() ? NONE : minutes.get(what == 1 ? 0 : minutes.size() - 1);
    }

    int hours(int spot, int v, int what) {
        if (!isSpot(spot) || v < 0 || v > 99) return NONE;
        List<Integer> all = new ArrayList<>();
        for (int m = 0; m <= 500; m++) if (shade(spot, m) == v) all.add(m);
        return told(all, what, NONE);
    }

    int judged(int shot, int m) {
        if (shot < 0 || shot >= s.shots.size() || !isMinute(m)) return NONE;
        for (int c : spots()) {
            Shot by = s.shots.get(shot);
            if (by.clear(c) && by.tone.get(c) != shade(c, m)) return c;
        }
        return NONE;
    }

    int whenShot(int shot, int what) {
        if (shot < 0 || shot >= s.shots.size()) return -2;
        List<Integer> all = new ArrayList<>();
        for (int m = 0; m <= 500; m++) if (judged(shot, m) == NONE) all.add(m);
        return told(all, what, -2);
    }

    int stander(int what) {
        int who = NONE;
        int longest = 0;
        int from = NONE;
        for (int i = 0; i < s.walkers.size(); i++) {
            for (int m = 0; m <= 500; m++) {
                int c = where(i, m);
                int n = m;
                while (c != NONE && n <= 500 && where(i, n) == c) n++;
                if (n - m > longest) {
                    who = i;
                    longest = n - m;
                    from = m;
                }
            }
        }
        return what == 0 ? who : who == NONE ? NONE : what == 1 ? longest : what == 2 ? from : NONE;
    }

    int with(int a, int b) {
        if (!isSpan(a, b)) return NONE;
        int set = 0;
        for (int i = 0; i < s.walkers.size(); i++) {
            boolean always = true;
            for (int m = a; m <= b; m++) always &= where(i, m) != NONE && inView(where(i, m), s.step);
            if (always) set += 1 << i;
        }
        return set;
    }

    private static boolean beside(int c, int d) {
        return c % 8 == d % 8 && Math.abs(c - d) == 8 || c / 8 == d / 8 && Math.abs(c - d) == 1;
    }

    int twos(int minute) {
        if (!isMinute(minute)) return NONE;
        int n = 0;
        for (int i = 0; i < s.walkers.size(); i++) {
            for (int j = i + 1; j < s.walkers.size(); j++) {
                int c = where(i, minute);
                int d = where(j, minute);
                if (c != NONE && d != NONE && (c == d || beside(c, d))) n++;
            }
        }
        return n;
    }

    int two(int what) {
        if (what != 0 && what != 1) return NONE;
        long view = asSet(view(s.step));
        for (int m = s.minute; m <= Math.min(500, s.minute + 60); m++) {
            for (int n = m + 1; n <= Math.min(500, s.minute + 60); n++) {
                if ((view & covered(m) & covered(n)) == 0) return what == 0 ? m : n;
            }
        }
        return NONE;
    }

    boolean paste(int spot, int shot) {
        if (!isSpot(spot) || shot != NONE && (shot < 0 || shot >= s.shots.size())) return false;
        s.picture.put(spot, shot);
        before.clear();
        return true;
    }

    private int source(int c) {
        int shot = s.picture.getOrDefault(c, NONE);
        return shot == NONE || !s.shots.get(shot).tone.containsKey(c) ? NONE : shot;
    }

    int picture(int what) {
        if (what == 0) {
            Set<Integer> feet = new TreeSet<>();
            for (int c : spots()) {
                int who = source(c) == NONE ? NONE : s.shots.get(source(c)).who.get(c);
                if (who >= 0 && who < 12) feet.add(who);
            }
            return (int) asSet(feet);
        }
        if (what == 1) {
            List<Integer> all = view(s.step);
            all.removeIf(c -> source(c) != NONE);
            return all.size();
        }
        if (what == 2) {
            int n = 0;
            for (int c : spots()) {
                for (int d : spots()) {
                    if (c < d && beside(c, d) && source(c) != NONE && source(d) != NONE && source(c) != source(d)) n++;
                }
            }
            return n;
        }
        return what >= 10 && isSpot(what - 10) ? s.picture.getOrDefault(what - 10, NONE) : -2;
    }

    boolean undo() {
        if (before.isEmpty()) return false;
        s = before.removeLast();
        return true;
    }

    boolean image(boolean taken) {
        if (taken) {
            image = s.copy();
            return true;
        }
        if (image == null) return false;
        s = image.copy();
        before.clear();
        return true;
    }

    int look(int what) {
        int[] all = {s.w, s.h, s.minute, s.wide, s.step, s.walkers.size(), s.strangers.size(), s.shots.size(), s.state,
            s.shade.size(), s.worth.size(), before.size(), s.comers, s.stay, s.grey};
        return what >= 0 && what < all.length ? all[what] : NONE;
    }
}
