import java.util.Arrays;

/** Nobody in the picture: a bridge by spots, those who walk and stand on it, and shots that are laid together. */
public final class NobodyThere {
    public static final int NONE = -1;

    private static final int NO_SUCH = NONE - 1;
    private static final int NO_WORTH = NONE - 999;
    private static final int LAST_MINUTE = 500;
    private static final int MINUTES = LAST_MINUTE + 1;
    private static final int MILLION = 1000000;
    private static final int THOUSAND = 1000;
    private static final int MOST_COPIES = 15;
    private static final int BYTES_A_FEED = 20;

    /** Spots are told by 8 y + x, whatever the width. */
    private static final int ROW_OF_SPOTS = 8;
    private static final int SPOT_ROOM = 56;
    private static final int WALKER_ROOM = 12;
    private static final int PART_ROOM = 8;
    private static final int STRANGER_ROOM = 8;
    private static final int SHOT_ROOM = 10;
    private static final int TAPE_ROOM = 400;
    private static final int LINE_ROOM = 16;
    private static final int OPEN_ROOM = 8;
    private static final int KEPT_ROOM = 6;
    private static final int MOST_WAITED = 60;

    private static final int FAULT_PLACE = 1;
    private static final int FAULT_BOUNDS = 2;
    private static final int FAULT_TOO_MANY = 3;

    /** Kinds of tokens; signs are told by their own character, words by FIRST_WORD and their place in wordText. */
    private static final int END = 0;
    private static final int BAD = 1;
    private static final int NUMBER = 2;
    private static final int FIRST_WORD = 100;
    private static final int WORDS = 22;
    private static final int WALKER = FIRST_WORD;
    private static final int COMES = FIRST_WORD + 1;
    private static final int AT = FIRST_WORD + 2;
    private static final int STAND = FIRST_WORD + 3;
    private static final int NORTH = FIRST_WORD + 4;
    private static final int EAST = FIRST_WORD + 5;
    private static final int SOUTH = FIRST_WORD + 6;
    private static final int WEST = FIRST_WORD + 7;
    private static final int SHADE = FIRST_WORD + 8;
    private static final int WORTH = FIRST_WORD + 9;
    private static final int WHEN = FIRST_WORD + 10;
    private static final int OR = FIRST_WORD + 11;
    private static final int AND = FIRST_WORD + 12;
    private static final int NOT = FIRST_WORD + 13;
    /** What laws ask stands in one row, so that each law's part of it is a stretch: x .. minute, minute .. people. */
    private static final int ASK_X = FIRST_WORD + 14;
    private static final int ASK_MINUTE = FIRST_WORD + 17;
    private static final int ASK_PEOPLE = FIRST_WORD + 21;
    private static final int ASKED_ROOM = 8;
    private static final int X = 0;
    private static final int Y = 1;
    private static final int EDGE = 2;
    private static final int MINUTE = 3;
    private static final int COVERED = 4;
    private static final int EDGES = 5;
    private static final int STEP = 6;
    private static final int PEOPLE = 7;

    private final Bridge now;
    private final Kept kept;
    private final Tape tape;
    private final Parser parser;
    private final Thought thought;
    private final Album album;
    /** Made when an image is first taken, as most objects never take one. */
    private Bridge saved;

    public NobodyThere() {
        now = new Bridge();
        kept = new Kept();
        tape = new Tape();
        parser = new Parser(tape);
        thought = new Thought(now);
        album = new Album(now);
    }

    public int state(int v) {
        int was = now.draws;
        now.draws = v;
        kept.forget();
        return was;
    }

    public boolean bridge(int w, int h) {
        if (w < 2 || w > 8 || h < 2 || h > 7) {
            return false;
        }
        now.startAnew(w, h);
        kept.forget();
        return true;
    }

    public boolean set(int what, int v) {
        boolean told = now.tell(what, v);
        if (told) {
            kept.forget();
        }
        return told;
    }

    public boolean step(int v) {
        if (v < 0 || v > now.width - now.wide || v == now.aside) {
            return false;
        }
        kept.keep(now);
        now.aside = v;
        return true;
    }

    public int feed(int a, int b, int c, int d, int e) {
        if (tape.length > TAPE_ROOM - BYTES_A_FEED) {
            return NONE;
        }
        tape.append(a);
        tape.append(b);
        tape.append(c);
        tape.append(d);
        tape.append(e);
        return tape.length;
    }

    public boolean end(int n) {
        if (n < 0 || n > tape.length) {
            return false;
        }
        tape.length = n;
        return true;
    }

    public int text(int k) {
        int told = NONE;
        parser.start();
        if (k == 0) {
            told = tellWalkers();
        } else if (k == 1) {
            told = tellLaw(now.shadeLaw, parser.readLaw(SHADE, ASK_X, ASK_MINUTE));
        } else if (k == 2) {
            told = tellLaw(now.worthLaw, parser.readLaw(WORTH, ASK_MINUTE, ASK_PEOPLE));
        }
        tape.length = 0;
        return told;
    }

    private int tellWalkers() {
        if (!parser.readWalkers(now.width, now.height)) {
            return NONE;
        }
        now.walkers.copyFrom(parser.walkers);
        now.paths.walk(now.walkers, now.width, now.height);
        kept.forget();
        return now.walkers.count;
    }

    /** Laws do not forget what can be undone: undoing never touches them. */
    private int tellLaw(Law law, boolean right) {
        if (!right) {
            return NONE;
        }
        law.copyFrom(parser.law);
        return law.lines;
    }

    public int fault(int what) {
        if (what == 0) {
            return parser.faultKind;
        }
        return what == 1 ? parser.faultPlace : NONE;
    }

    public int minutes(int n) {
        if (n < 1 || n > 100 || now.minute > LAST_MINUTE - n) {
            return NONE;
        }
        int came = 0;
        for (int i = 0; i < n; i++) {
            kept.keep(now);
            if (now.passMinute()) {
                came++;
            }
        }
        return came;
    }

    public int shoot() {
        Shot next = now.nextShot();
        if (next == null) {
            return NONE;
        }
        kept.keep(now);
        return now.take(next);
    }

    public int of(int walker, int what) {
        if (!now.isWalker(walker)) {
            return NO_SUCH;
        }
        switch (what) {
            case 0:
                return now.walkers.tone[walker];
            case 1:
                return now.walkers.comes[walker];
            case 2:
                return now.walkers.spot[walker];
            case 3:
                return now.paths.minutesThere(walker);
            case 4:
                return now.paths.spotIn(walker, now.minute);
            default:
                return NO_SUCH;
        }
    }

    public int where(int walker, int minute) {
        if (!now.isWalker(walker) || !isMinute(minute)) {
            return NONE;
        }
        return now.paths.spotIn(walker, minute);
    }

    public int stranger(int i, int what) {
        if (i < 0 || i >= now.strangers.count) {
            return NONE;
        }
        switch (what) {
            case 0:
                return now.strangers.spot[i];
            case 1:
                return now.strangers.until[i];
            case 2:
                return now.strangers.came[i];
            default:
                return NONE;
        }
    }

    public long covered(int minute) {
        return isMinute(minute) ? now.coverIn(minute) : NONE;
    }

    public int at(int spot, int minute, int what) {
        if (!now.isSpot(spot) || !isMinute(minute)) {
            return NONE;
        }
        switch (what) {
            case 0:
                return holds(now.coverIn(minute), spot) ? 1 : 0;
            case 1:
                return now.shadeOf(spot, minute);
            case 2:
                return now.toneOf(spot, minute);
            default:
                return NONE;
        }
    }

    public int worth(int minute) {
        return isMinute(minute) ? now.worthOf(minute) : NO_WORTH;
    }

    public int shot(int i, int what) {
        Shot one = now.shotOf(i);
        if (one == null) {
            return NONE;
        }
        switch (what) {
            case 0:
                return one.minute;
            case 1:
                return one.aside;
            case 2:
                return one.wide;
            case 3:
                return Long.bitCount(one.cover);
            default:
                return NONE;
        }
    }

    public int book(int shot, int spot, int what) {
        Shot from = now.shotOf(shot);
        if (from == null || !now.isSpot(spot) || !holds(from.view, spot)) {
            return NO_SUCH;
        }
        if (what == 0) {
            return from.who[spot];
        }
        return what == 1 ? from.tone[spot] : NO_SUCH;
    }

    public int waits() {
        return thought.firstFree();
    }

    public int row(int what) {
        return thought.longestFree(what);
    }

    public int best(int what) {
        if (what != 0 && what != 1) {
            return NO_WORTH;
        }
        int minute = thought.bestMinute();
        return what == 0 ? minute : now.worthOf(minute);
    }

    public int steps(int a, int b) {
        return isSpan(a, b) ? thought.bestStep(a, b) : NONE;
    }

    public long laid(int shots) {
        return album.isSetOfShots(shots) ? album.laidBy(shots) : NONE;
    }

    public int fewest(int what) {
        if (what == 0) {
            return Integer.bitCount(album.fewestSet());
        }
        if (what == 1) {
            return album.fewestSet();
        }
        return what == 2 ? album.greedy() : NONE;
    }

    public long never(int a, int b) {
        return isSpan(a, b) ? thought.neverClear(a, b) : NONE;
    }

    public long most(int shots) {
        return album.isSetOfShots(shots) ? album.mostlyClear(shots) : NONE;
    }

    public int middle(int shots, int spot) {
        if (!album.isSetOfShots(shots) || !now.isSpot(spot)) {
            return NONE;
        }
        return album.middleTone(shots, spot);
    }

    public long sure(int shots, int n) {
        if (!album.isSetOfShots(shots) || n < 1 || n > SHOT_ROOM) {
            return NONE;
        }
        return album.surelyKnown(shots, n);
    }

    public int exposed(int a, int b, int spot, int what) {
        if (!isSpan(a, b) || !now.isSpot(spot)) {
            return NONE;
        }
        if (what == 0) {
            return thought.minutesCovered(a, b, spot);
        }
        return what == 1 ? thought.meanTone(a, b, spot) : NONE;
    }

    public long ghosts(int a, int b) {
        return isSpan(a, b) ? thought.ghostSpots(a, b) : NONE;
    }

    public int nobody(int n) {
        if (n < 0 || n > LAST_MINUTE) {
            return NONE;
        }
        int chance = MILLION;
        for (int i = 0; i < n; i++) {
            chance = part(chance, THOUSAND - now.comers);
        }
        return chance;
    }

    public int copies(int n, int e) {
        if (n < 1 || n > MOST_COPIES || n % 2 == 0 || e < 0 || e > THOUSAND) {
            return NONE;
        }
        return thought.mostRight(n, e);
    }

    public int enough(int e, int m) {
        if (e < 0 || e > THOUSAND || m < 0 || m > MILLION) {
            return NONE;
        }
        for (int n = 1; n <= MOST_COPIES; n += 2) {
            if (thought.mostRight(n, e) >= m) {
                return n;
            }
        }
        return NONE;
    }

    public int hours(int spot, int v, int what) {
        if (!now.isSpot(spot) || v < 0 || v > 99) {
            return NONE;
        }
        thought.findHours(spot, v);
        return thought.found(what, NONE);
    }

    public int judged(int shot, int m) {
        Shot by = now.shotOf(shot);
        return by == null || !isMinute(m) ? NONE : thought.firstUnlike(by, m);
    }

    public int whenShot(int shot, int what) {
        Shot by = now.shotOf(shot);
        if (by == null) {
            return NO_SUCH;
        }
        thought.findAlike(by);
        return thought.found(what, NO_SUCH);
    }

    public int stander(int what) {
        return thought.longestStander(what);
    }

    public int with(int a, int b) {
        return isSpan(a, b) ? thought.alwaysInView(a, b) : NONE;
    }

    public int twos(int minute) {
        return isMinute(minute) ? thought.pairsIn(minute) : NONE;
    }

    public int two(int what) {
        return what == 0 || what == 1 ? thought.clearTogether(what) : NONE;
    }

    public boolean paste(int spot, int shot) {
        if (!now.isSpot(spot) || shot < NONE || shot >= now.shotCount) {
            return false;
        }
        now.pasted[spot] = shot;
        kept.forget();
        return true;
    }

    public int picture(int what) {
        if (what == 0) {
            return album.feet();
        }
        if (what == 1) {
            return album.holes();
        }
        if (what == 2) {
            return album.seams();
        }
        return what >= 10 && now.isSpot(what - 10) ? now.pasted[what - 10] : NO_SUCH;
    }

    public boolean undo() {
        return kept.goBack(now);
    }

    public boolean image(boolean taken) {
        if (taken) {
            if (saved == null) {
                saved = new Bridge();
            }
            saved.copyFrom(now);
            return true;
        }
        if (saved == null) {
            return false;
        }
        now.copyFrom(saved);
        kept.forget();
        return true;
    }

    public int look(int what) {
        switch (what) {
            case 5:
                return now.walkers.count;
            case 6:
                return now.strangers.count;
            case 7:
                return now.shotCount;
            case 9:
                return now.shadeLaw.lines;
            case 10:
                return now.worthLaw.lines;
            case 11:
                return kept.count;
            default:
                return now.numberOf(what);
        }
    }

    private static boolean isMinute(int m) {
        return m >= 0 && m <= LAST_MINUTE;
    }

    private static boolean isSpan(int a, int b) {
        return a >= 0 && a <= b && b <= LAST_MINUTE;
    }

    private static boolean holds(long spots, int c) {
        return (spots >>> c & 1L) != 0;
    }

    private static int held(int v, int least, int greatest) {
        return Math.max(least, Math.min(greatest, v));
    }

    /** A chance of a million times v of a thousand: at most a thousand million, which an int still holds. */
    private static int part(int chance, int v) {
        return chance * v / THOUSAND;
    }

    private static int oneOf(int what, int zero, int one, int two, int none) {
        switch (what) {
            case 0:
                return zero;
            case 1:
                return one;
            case 2:
                return two;
            default:
                return none;
        }
    }

    /** The bytes that were fed, and the tokens that they are: the last token is always the end. */
    private static final class Tape {
        final char[] bytes = new char[TAPE_ROOM];
        int length;
        final int[] kinds = new int[TAPE_ROOM + 1];
        final int[] numbers = new int[TAPE_ROOM + 1];
        final int[] places = new int[TAPE_ROOM + 1];
        int tokens;
        int head;

        void append(int four) {
            for (int shift = 24; shift >= 0; shift -= 8) {
                if (length < TAPE_ROOM) {
                    bytes[length] = (char) (four >>> shift & 255);
                    length++;
                }
            }
        }

        /** All of them at once, as reading a law goes deep enough without reading letters below it. */
        void tokenize() {
            head = 0;
            tokens = 0;
            for (int i = 0; i < TAPE_ROOM && skipBlanks(); i++) {
                int place = head;
                int kind = kindAtHead();
                addToken(kind, kind == NUMBER ? numberFrom(place) : 0, place);
            }
            addToken(END, 0, length);
        }

        private void addToken(int kind, int number, int place) {
            if (tokens <= TAPE_ROOM) {
                kinds[tokens] = kind;
                numbers[tokens] = number;
                places[tokens] = place;
                tokens++;
            }
        }

        /** Whether something stands behind them. */
        private boolean skipBlanks() {
            while (head < length && (bytes[head] == ' ' || bytes[head] == '\n')) {
                head++;
            }
            return head < length;
        }

        /** The kind of the token that stands there; the head goes behind it. */
        private int kindAtHead() {
            int place = head;
            while (head < length && isDigit(bytes[head])) {
                head++;
            }
            if (head > place) {
                return head - place <= 4 ? NUMBER : BAD;
            }
            while (head < length && isLetter(bytes[head])) {
                head++;
            }
            if (head > place) {
                return wordFrom(place);
            }
            head++;
            return place < length && isSign(bytes[place]) ? bytes[place] : BAD;
        }

        private int numberFrom(int place) {
            int number = 0;
            for (int i = place; i < head && i < length; i++) {
                number = number * 10 + (bytes[i] - '0');
            }
            return number;
        }

        private int wordFrom(int place) {
            for (int w = 0; w < WORDS; w++) {
                if (spells(wordText(w), place)) {
                    return FIRST_WORD + w;
                }
            }
            return BAD;
        }

        private boolean spells(String word, int place) {
            if (word.length() != head - place || head > length) {
                return false;
            }
            for (int i = 0; i < word.length(); i++) {
                if (word.charAt(i) != bytes[place + i]) {
                    return false;
                }
            }
            return true;
        }

        private static boolean isDigit(char c) {
            return c >= '0' && c <= '9';
        }

        private static boolean isLetter(char c) {
            return c >= 'a' && c <= 'z' || c >= 'A' && c <= 'Z';
        }

        private static boolean isSign(char c) {
            return c == ';' || c == '+' || c == '-' || c == '*' || c == '/' || c == '(' || c == ')'
                || c == '<' || c == '=' || c == '>';
        }

        private static String wordText(int w) {
            switch (w) {
                case 0: return "walker";
                case 1: return "comes";
                case 2: return "at";
                case 3: return "stand";
                case 4: return "north";
                case 5: return "east";
                case 6: return "south";
                case 7: return "west";
                case 8: return "shade";
                case 9: return "worth";
                case 10: return "when";
                case 11: return "or";
                case 12: return "and";
                case 13: return "not";
                case 14: return "x";
                case 15: return "y";
                case 16: return "edge";
                case 17: return "minute";
                case 18: return "covered";
                case 19: return "edges";
                case 20: return "step";
                case 21: return "people";
                default: return "";
            }
        }
    }

    /**
     * Reads a text from the tape into rows of its own, so that a text with a fault changes nothing. It goes from left
     * to right and stops at the first fault: no fault is ever placed before the token at which it is seen.
     */
    private static final class Parser {
        final Tape tape;
        final WalkerList walkers = new WalkerList();
        final Law law = new Law();
        int faultKind;
        int faultPlace = NONE;
        int firstAsked;
        int lastAsked;
        int token;
        int kind;
        int number;

        Parser(Tape tape) {
            this.tape = tape;
        }

        void start() {
            faultKind = 0;
            faultPlace = NONE;
            tape.tokenize();
            token = NONE;
            advance();
        }

        private void advance() {
            if (token < tape.tokens - 1 && token < TAPE_ROOM) {
                token++;
                kind = tape.kinds[token];
                number = tape.numbers[token];
            }
        }

        boolean readWalkers(int width, int height) {
            walkers.count = 0;
            for (int i = 0; i <= TAPE_ROOM && kind != END; i++) {
                if (!readWalker(width, height)) {
                    return false;
                }
            }
            return true;
        }

        private boolean readWalker(int width, int height) {
            if (kind != WALKER) {
                return fail(FAULT_PLACE);
            }
            int i = walkers.count;
            if (i >= WALKER_ROOM) {
                return fail(FAULT_TOO_MANY);
            }
            advance();
            walkers.parts[i] = 0;
            walkers.tone[i] = readNumber(0, 99);
            if (walkers.tone[i] == NONE || !pass(COMES)) {
                return false;
            }
            walkers.comes[i] = readNumber(0, LAST_MINUTE);
            if (walkers.comes[i] == NONE || !pass(AT)) {
                return false;
            }
            walkers.spot[i] = readSpot(width, height);
            if (walkers.spot[i] == NONE || !readWay(i)) {
                return false;
            }
            walkers.count = i + 1;
            return pass(';');
        }

        private boolean readWay(int i) {
            for (int p = 0; p <= PART_ROOM && kind >= STAND && kind <= WEST; p++) {
                if (p == PART_ROOM) {
                    return fail(FAULT_TOO_MANY);
                }
                int way = kind;
                advance();
                int lasts = readNumber(1, 60);
                if (lasts == NONE) {
                    return false;
                }
                walkers.addPart(i, way, lasts);
            }
            return true;
        }

        boolean readLaw(int opening, int firstAsked, int lastAsked) {
            this.firstAsked = firstAsked;
            this.lastAsked = lastAsked;
            law.clear();
            for (int i = 0; i <= TAPE_ROOM && kind != END; i++) {
                if (!readLine(opening)) {
                    return false;
                }
            }
            return true;
        }

        private boolean readLine(int opening) {
            if (kind != opening) {
                return fail(FAULT_PLACE);
            }
            if (law.lines >= LINE_ROOM) {
                return fail(FAULT_TOO_MANY);
            }
            advance();
            int valueFrom = law.length;
            if (!readSum()) {
                return false;
            }
            int testFrom = law.length;
            if (kind == WHEN) {
                advance();
                if (!readEither(0)) {
                    return false;
                }
            }
            law.addLine(valueFrom, testFrom);
            return pass(';');
        }

        /** B with its A; open: how many ( and not stand open around it. An or waits until its A has ended. */
        private boolean readEither(int open) {
            boolean orWaits = false;
            int before = OR;
            for (int i = 0; i <= TAPE_ROOM; i++) {
                if (!readTest(open)) {
                    return false;
                }
                if (before == AND) {
                    law.add(AND, 0);
                }
                if (orWaits && kind != AND) {
                    law.add(OR, 0);
                }
                if (kind != AND && kind != OR) {
                    return true;
                }
                orWaits = orWaits || kind == OR;
                before = kind;
                advance();
            }
            return false;
        }

        private boolean readTest(int open) {
            if (kind == NOT || kind == '(') {
                return open < OPEN_ROOM ? readOpened(open + 1) : fail(FAULT_TOO_MANY);
            }
            if (!readSum()) {
                return false;
            }
            int sign = kind;
            if (sign != '<' && sign != '=' && sign != '>') {
                return fail(FAULT_PLACE);
            }
            advance();
            boolean right = readSum();
            law.add(sign, 0);
            return right;
        }

        private boolean readOpened(int open) {
            boolean negates = kind == NOT;
            advance();
            if (!negates) {
                return readEither(open) && pass(')');
            }
            boolean right = readTest(open);
            law.add(NOT, 0);
            return right;
        }

        /** E with its T; a + or - waits until its T has ended. */
        private boolean readSum() {
            int waits = END;
            boolean right = readUnit();
            for (int i = 0; i <= TAPE_ROOM && right && isReckoning(kind); i++) {
                int sign = kind;
                advance();
                if (sign == '/') {
                    int by = readNumber(1, 9999);
                    law.add('/', by);
                    right = by != NONE;
                } else if (sign == '*') {
                    right = readUnit();
                    law.add('*', 0);
                } else {
                    addWaiting(waits);
                    waits = sign;
                    right = readUnit();
                }
            }
            addWaiting(waits);
            return right;
        }

        private static boolean isReckoning(int kind) {
            return kind == '+' || kind == '-' || kind == '*' || kind == '/';
        }

        private void addWaiting(int sign) {
            if (sign != END) {
                law.add(sign, 0);
            }
        }

        private boolean readUnit() {
            if (kind == NUMBER) {
                law.add(NUMBER, number);
            } else if (kind >= firstAsked && kind <= lastAsked) {
                law.add(ASK_X, kind - ASK_X);
            } else {
                return fail(FAULT_PLACE);
            }
            advance();
            return true;
        }

        private int readSpot(int width, int height) {
            boolean there = number % ROW_OF_SPOTS < width && number / ROW_OF_SPOTS < height;
            return readNumber(0, there ? 9999 : NONE);
        }

        /** The number that stands there; NONE behind a fault. */
        private int readNumber(int least, int greatest) {
            int v = number;
            if (kind != NUMBER) {
                fail(FAULT_PLACE);
                return NONE;
            }
            if (v < least || v > greatest) {
                fail(FAULT_BOUNDS);
                return NONE;
            }
            advance();
            return v;
        }

        private boolean pass(int due) {
            if (kind != due) {
                return fail(FAULT_PLACE);
            }
            advance();
            return true;
        }

        private boolean fail(int which) {
            faultKind = which;
            faultPlace = token >= 0 && token <= TAPE_ROOM ? tape.places[token] : NONE;
            return false;
        }
    }

    /** Lines of a law as a row of orders for a small stack; of each line its value first, then its test, if any. */
    private static final class Law {
        /** Eight levels that are open hold two values each, and the innermost comparison six: far below this. */
        private static final int STACK_ROOM = 40;
        private static final int ORDER_SHIFT = 16;
        private static final int ORDER_MASK = 0xFFFF;

        int lines;
        int length;
        final int[] orders = new int[TAPE_ROOM];
        final int[] valueFrom = new int[LINE_ROOM];
        final int[] testFrom = new int[LINE_ROOM];
        final int[] lineEnd = new int[LINE_ROOM];
        final int[] asked = new int[ASKED_ROOM];
        final int[] stack = new int[STACK_ROOM];

        void clear() {
            lines = 0;
            length = 0;
        }

        /** Each order comes from a token of its own, so there are never more of them than bytes on the tape. */
        void add(int order, int v) {
            if (length < TAPE_ROOM) {
                orders[length] = order << ORDER_SHIFT | v & ORDER_MASK;
                length++;
            }
        }

        void addLine(int valueStart, int testStart) {
            if (lines < LINE_ROOM) {
                valueFrom[lines] = valueStart;
                testFrom[lines] = testStart;
                lineEnd[lines] = length;
                lines++;
            }
        }

        void copyFrom(Law other) {
            lines = other.lines;
            length = other.length;
            System.arraycopy(other.orders, 0, orders, 0, TAPE_ROOM);
            System.arraycopy(other.valueFrom, 0, valueFrom, 0, LINE_ROOM);
            System.arraycopy(other.testFrom, 0, testFrom, 0, LINE_ROOM);
            System.arraycopy(other.lineEnd, 0, lineEnd, 0, LINE_ROOM);
        }

        /** The value of the first line that is so, for what is asked now. */
        int valueOr(int none) {
            for (int i = 0; i < lines && i < LINE_ROOM; i++) {
                if (testFrom[i] == lineEnd[i] || run(testFrom[i], lineEnd[i]) != 0) {
                    return run(valueFrom[i], testFrom[i]);
                }
            }
            return none;
        }

        private int run(int from, int to) {
            int top = 0;
            for (int i = Math.max(from, 0); i < to && i < TAPE_ROOM; i++) {
                int order = orders[i] >>> ORDER_SHIFT;
                int v = orders[i] & ORDER_MASK;
                if (order == NUMBER || order == ASK_X) {
                    if (top < STACK_ROOM) {
                        stack[top] = order == NUMBER ? v : asked[v % ASKED_ROOM];
                        top++;
                    }
                } else if (order == '/' || order == NOT) {
                    if (top > 0) {
                        stack[top - 1] = changed(order, stack[top - 1], v);
                    }
                } else if (top > 1) {
                    top--;
                    stack[top - 1] = joined(order, stack[top - 1], stack[top]);
                }
            }
            return top > 0 ? stack[0] : 0;
        }

        private static int changed(int order, int a, int v) {
            if (order == '/') {
                return v > 0 ? a / v : a;
            }
            return a == 0 ? 1 : 0;
        }

        private static int joined(int order, int a, int b) {
            switch (order) {
                case '+':
                    return a + b;
                case '-':
                    return a - b;
                case '*':
                    return a * b;
                case '<':
                    return a < b ? 1 : 0;
                case '=':
                    return a == b ? 1 : 0;
                case '>':
                    return a > b ? 1 : 0;
                case AND:
                    return a & b;
                default:
                    return a | b;
            }
        }
    }

    /** Walkers as they were told. */
    private static final class WalkerList {
        int count;
        final int[] tone = new int[WALKER_ROOM];
        final int[] comes = new int[WALKER_ROOM];
        final int[] spot = new int[WALKER_ROOM];
        final int[] parts = new int[WALKER_ROOM];
        final int[] partKind = new int[WALKER_ROOM * PART_ROOM];
        final int[] partLasts = new int[WALKER_ROOM * PART_ROOM];

        void addPart(int i, int kind, int lasts) {
            if (i >= 0 && i < WALKER_ROOM && parts[i] < PART_ROOM) {
                int p = i * PART_ROOM + parts[i];
                partKind[p] = kind;
                partLasts[p] = lasts;
                parts[i]++;
            }
        }

        void copyFrom(WalkerList other) {
            count = other.count;
            System.arraycopy(other.tone, 0, tone, 0, WALKER_ROOM);
            System.arraycopy(other.comes, 0, comes, 0, WALKER_ROOM);
            System.arraycopy(other.spot, 0, spot, 0, WALKER_ROOM);
            System.arraycopy(other.parts, 0, parts, 0, WALKER_ROOM);
            System.arraycopy(other.partKind, 0, partKind, 0, WALKER_ROOM * PART_ROOM);
            System.arraycopy(other.partLasts, 0, partLasts, 0, WALKER_ROOM * PART_ROOM);
        }
    }

    /** Where each walker is in each minute: walked once when told, as nearly every call asks for it. */
    private static final class Paths {
        final byte[] spots = new byte[WALKER_ROOM * MINUTES];
        final long[] cover = new long[MINUTES];

        void clear() {
            Arrays.fill(spots, (byte) NONE);
            Arrays.fill(cover, 0L);
        }

        void walk(WalkerList told, int width, int height) {
            clear();
            for (int i = 0; i < told.count && i < WALKER_ROOM; i++) {
                follow(told, i, width, height);
            }
        }

        private void follow(WalkerList told, int i, int width, int height) {
            int minute = told.comes[i];
            int x = told.spot[i] % ROW_OF_SPOTS;
            int y = told.spot[i] / ROW_OF_SPOTS;
            mark(i, minute, y * ROW_OF_SPOTS + x);
            for (int p = 0; p < told.parts[i] && p < PART_ROOM; p++) {
                int kind = told.partKind[i * PART_ROOM + p];
                int lasts = told.partLasts[i * PART_ROOM + p];
                for (int n = 0; n < lasts; n++) {
                    x += kind == EAST ? 1 : kind == WEST ? -1 : 0;
                    y += kind == SOUTH ? 1 : kind == NORTH ? -1 : 0;
                    minute++;
                    if (minute > LAST_MINUTE || x < 0 || x >= width || y < 0 || y >= height) {
                        return;
                    }
                    mark(i, minute, y * ROW_OF_SPOTS + x);
                }
            }
        }

        private void mark(int i, int minute, int c) {
            if (isMinute(minute) && i >= 0 && i < WALKER_ROOM) {
                spots[i * MINUTES + minute] = (byte) c;
                cover[minute] |= 1L << c;
            }
        }

        int spotIn(int walker, int minute) {
            if (walker < 0 || walker >= WALKER_ROOM || !isMinute(minute)) {
                return NONE;
            }
            return spots[walker * MINUTES + minute];
        }

        int minutesThere(int walker) {
            int count = 0;
            for (int m = 0; m <= LAST_MINUTE; m++) {
                if (spotIn(walker, m) != NONE) {
                    count++;
                }
            }
            return count;
        }

        void copyFrom(Paths other) {
            System.arraycopy(other.spots, 0, spots, 0, WALKER_ROOM * MINUTES);
            System.arraycopy(other.cover, 0, cover, 0, MINUTES);
        }
    }

    /** Those who came by draws and have not gone, in the order in which they came. */
    private static final class Strangers {
        int count;
        final int[] spot = new int[STRANGER_ROOM];
        final int[] until = new int[STRANGER_ROOM];
        final int[] came = new int[STRANGER_ROOM];

        void add(int c, int from, int last) {
            if (count < STRANGER_ROOM) {
                spot[count] = c;
                came[count] = from;
                until[count] = last;
                count++;
            }
        }

        void leaveBefore(int minute) {
            int left = 0;
            for (int i = 0; i < count && i < STRANGER_ROOM; i++) {
                if (until[i] >= minute) {
                    spot[left] = spot[i];
                    came[left] = came[i];
                    until[left] = until[i];
                    left++;
                }
            }
            count = left;
        }

        boolean isThere(int i, int minute) {
            return came[i] <= minute && minute <= until[i];
        }

        long coverIn(int minute) {
            long spots = 0;
            for (int i = 0; i < count && i < STRANGER_ROOM; i++) {
                if (isThere(i, minute)) {
                    spots |= 1L << spot[i];
                }
            }
            return spots;
        }

        int firstOn(int c, int minute) {
            for (int i = 0; i < count && i < STRANGER_ROOM; i++) {
                if (spot[i] == c && isThere(i, minute)) {
                    return i;
                }
            }
            return NONE;
        }

        int countOn(long spots, int minute) {
            int people = 0;
            for (int i = 0; i < count && i < STRANGER_ROOM; i++) {
                if (isThere(i, minute) && holds(spots, spot[i])) {
                    people++;
                }
            }
            return people;
        }

        void copyFrom(Strangers other) {
            count = other.count;
            System.arraycopy(other.spot, 0, spot, 0, STRANGER_ROOM);
            System.arraycopy(other.until, 0, until, 0, STRANGER_ROOM);
            System.arraycopy(other.came, 0, came, 0, STRANGER_ROOM);
        }
    }

    /** A shot with its page of the book; rows hold something only where its view has the spot. */
    private static final class Shot {
        int minute;
        int aside;
        int wide;
        long view;
        long cover;
        final byte[] tone = new byte[SPOT_ROOM];
        final byte[] who = new byte[SPOT_ROOM];

        long clearSpots() {
            return view & ~cover;
        }

        void copyFrom(Shot other) {
            minute = other.minute;
            aside = other.aside;
            wide = other.wide;
            view = other.view;
            cover = other.cover;
            System.arraycopy(other.tone, 0, tone, 0, SPOT_ROOM);
            System.arraycopy(other.who, 0, who, 0, SPOT_ROOM);
        }
    }

    /** All that is and was told but the tape, its fault and what can be undone: just what an image holds. */
    private static final class Bridge {
        int width;
        int height;
        int draws;
        int minute;
        int wide;
        int aside;
        int comers;
        int stay;
        int grey;
        int shotCount;
        final Strangers strangers = new Strangers();
        final WalkerList walkers = new WalkerList();
        final Paths paths = new Paths();
        final Law shadeLaw = new Law();
        final Law worthLaw = new Law();
        final Shot[] shots = new Shot[SHOT_ROOM];
        final int[] pasted = new int[SPOT_ROOM];

        Bridge() {
            for (int i = 0; i < SHOT_ROOM; i++) {
                shots[i] = new Shot();
            }
            startAnew(6, 4);
        }

        /** The state of draws stays. */
        void startAnew(int w, int h) {
            width = w;
            height = h;
            minute = 0;
            wide = w;
            aside = 0;
            comers = 0;
            stay = 5;
            grey = 20;
            shotCount = 0;
            strangers.count = 0;
            walkers.count = 0;
            paths.clear();
            shadeLaw.clear();
            worthLaw.clear();
            Arrays.fill(pasted, NONE);
        }

        void copyFrom(Bridge other) {
            width = other.width;
            height = other.height;
            draws = other.draws;
            minute = other.minute;
            wide = other.wide;
            aside = other.aside;
            comers = other.comers;
            stay = other.stay;
            grey = other.grey;
            shotCount = other.shotCount;
            strangers.copyFrom(other.strangers);
            walkers.copyFrom(other.walkers);
            paths.copyFrom(other.paths);
            shadeLaw.copyFrom(other.shadeLaw);
            worthLaw.copyFrom(other.worthLaw);
            for (int i = 0; i < shotCount && i < SHOT_ROOM; i++) {
                shots[i].copyFrom(other.shots[i]);
            }
            System.arraycopy(other.pasted, 0, pasted, 0, SPOT_ROOM);
        }

        boolean tell(int what, int v) {
            switch (what) {
                case 0:
                    return tellWide(v);
                case 1:
                    if (v < 0 || v > THOUSAND) {
                        return false;
                    }
                    comers = v;
                    return true;
                case 2:
                    if (v < 1 || v > 60) {
                        return false;
                    }
                    stay = v;
                    return true;
                case 3:
                    if (v < 0 || v > 99) {
                        return false;
                    }
                    grey = v;
                    return true;
                default:
                    return false;
            }
        }

        private boolean tellWide(int v) {
            if (v < 1 || v > width) {
                return false;
            }
            wide = v;
            aside = 0;
            return true;
        }

        int numberOf(int what) {
            switch (what) {
                case 0:
                    return width;
                case 1:
                    return height;
                case 2:
                    return minute;
                case 3:
                    return wide;
                case 4:
                    return aside;
                case 8:
                    return draws;
                case 12:
                    return comers;
                case 13:
                    return stay;
                case 14:
                    return grey;
                default:
                    return NONE;
            }
        }

        boolean isSpot(int c) {
            return c >= 0 && c < SPOT_ROOM && c % ROW_OF_SPOTS < width && c / ROW_OF_SPOTS < height;
        }

        boolean isWalker(int i) {
            return i >= 0 && i < walkers.count && i < WALKER_ROOM;
        }

        Shot shotOf(int i) {
            return i >= 0 && i < shotCount && i < SHOT_ROOM ? shots[i] : null;
        }

        private int draw(int m) {
            draws = draws * 1664525 + 1013904223;
            return m > 0 ? (draws >>> 8) % m : 0;
        }

        /** Whether a stranger came in it. */
        boolean passMinute() {
            boolean comes = comers > 0 && strangers.count < STRANGER_ROOM && draw(THOUSAND) < comers;
            if (comes && width > 0) {
                int drawn = draw(width * height);
                int c = drawn / width * ROW_OF_SPOTS + drawn % width;
                strangers.add(c, minute, minute + stay - 1);
            }
            minute++;
            strangers.leaveBefore(minute);
            return comes;
        }

        Shot nextShot() {
            return shotCount < SHOT_ROOM ? shots[shotCount] : null;
        }

        int take(Shot next) {
            next.minute = minute;
            next.aside = aside;
            next.wide = wide;
            next.view = viewNow();
            next.cover = coverIn(minute) & next.view;
            for (int c = 0; c < SPOT_ROOM; c++) {
                if (holds(next.view, c)) {
                    next.tone[c] = (byte) toneOf(c, minute);
                    next.who[c] = (byte) whoCovers(c, minute);
                }
            }
            shotCount++;
            return shotCount - 1;
        }

        long viewNow() {
            return columns(aside, wide);
        }

        long columns(int first, int many) {
            long oneRow = ((1L << many) - 1) << first;
            long all = 0;
            for (int y = 0; y < height; y++) {
                all |= oneRow << y * ROW_OF_SPOTS;
            }
            return all;
        }

        long coverIn(int m) {
            return isMinute(m) ? paths.cover[m] | strangers.coverIn(m) : 0;
        }

        boolean isFree(long view, int m) {
            return (coverIn(m) & view) == 0;
        }

        /** The least walker, or behind all walkers the place of a stranger, or NONE. */
        int whoCovers(int c, int m) {
            for (int i = 0; i < walkers.count; i++) {
                if (paths.spotIn(i, m) == c) {
                    return i;
                }
            }
            int i = strangers.firstOn(c, m);
            return i == NONE ? NONE : WALKER_ROOM + i;
        }

        int toneOf(int c, int m) {
            int who = whoCovers(c, m);
            if (who == NONE) {
                return shadeOf(c, m);
            }
            return isWalker(who) ? walkers.tone[who] : grey;
        }

        int shadeOf(int c, int m) {
            int x = c % ROW_OF_SPOTS;
            int y = c / ROW_OF_SPOTS;
            shadeLaw.asked[X] = x;
            shadeLaw.asked[Y] = y;
            shadeLaw.asked[MINUTE] = m;
            shadeLaw.asked[EDGE] = x == 0 || x == width - 1 || y == 0 || y == height - 1 ? 1 : 0;
            return held(shadeLaw.valueOr(50), 0, 99);
        }

        int worthOf(int m) {
            long view = viewNow();
            long hidden = coverIn(m) & view;
            long rims = columns(aside, 1) | columns(aside + wide - 1, 1);
            int many = Long.bitCount(hidden);
            worthLaw.asked[MINUTE] = m;
            worthLaw.asked[COVERED] = many;
            worthLaw.asked[EDGES] = Long.bitCount(hidden & rims);
            worthLaw.asked[STEP] = aside;
            worthLaw.asked[PEOPLE] = peopleOn(view, m);
            return held(worthLaw.valueOr(100 - many), -999, 999);
        }

        private int peopleOn(long view, int m) {
            int people = strangers.countOn(view, m);
            for (int i = 0; i < walkers.count; i++) {
                if (walksOn(view, i, m)) {
                    people++;
                }
            }
            return people;
        }

        boolean walksOn(long view, int i, int m) {
            int c = paths.spotIn(i, m);
            return c != NONE && holds(view, c);
        }
    }

    /** What the latest six minutes, shots and steps have changed, as it was before each of them. */
    private static final class Kept {
        int first;
        int count;
        final int[] draws = new int[KEPT_ROOM];
        final int[] minute = new int[KEPT_ROOM];
        final int[] aside = new int[KEPT_ROOM];
        final int[] shotCount = new int[KEPT_ROOM];
        final Strangers[] strangers = new Strangers[KEPT_ROOM];

        Kept() {
            for (int i = 0; i < KEPT_ROOM; i++) {
                strangers[i] = new Strangers();
            }
        }

        void forget() {
            count = 0;
        }

        void keep(Bridge from) {
            int place = (first + count) % KEPT_ROOM;
            if (count < KEPT_ROOM) {
                count++;
            } else {
                first = (first + 1) % KEPT_ROOM;
            }
            draws[place] = from.draws;
            minute[place] = from.minute;
            aside[place] = from.aside;
            shotCount[place] = from.shotCount;
            strangers[place].copyFrom(from.strangers);
        }

        boolean goBack(Bridge to) {
            if (count == 0) {
                return false;
            }
            count--;
            int place = (first + count) % KEPT_ROOM;
            to.draws = draws[place];
            to.minute = minute[place];
            to.aside = aside[place];
            to.shotCount = shotCount[place];
            to.strangers.copyFrom(strangers[place]);
            return true;
        }
    }

    /** What is worked out over minutes; its rows are only used within a call. */
    private static final class Thought {
        final Bridge now;
        final int[] counts = new int[SPOT_ROOM];
        final long[] hidden = new long[MOST_WAITED + 1];
        final int[] chances = new int[MOST_COPIES + 1];
        int foundCount;
        int foundFirst;
        int foundLast;

        Thought(Bridge now) {
            this.now = now;
        }

        /** Minutes in which a spot has a shade. */
        void findHours(int c, int shade) {
            foundCount = 0;
            for (int m = 0; m <= LAST_MINUTE; m++) {
                if (now.shadeOf(c, m) == shade) {
                    find(m);
                }
            }
        }

        /** Minutes by whose shades a shot may have been taken. */
        void findAlike(Shot by) {
            foundCount = 0;
            for (int m = 0; m <= LAST_MINUTE; m++) {
                if (firstUnlike(by, m) == NONE) {
                    find(m);
                }
            }
        }

        private void find(int m) {
            foundFirst = foundCount == 0 ? m : foundFirst;
            foundLast = m;
            foundCount++;
        }

        int found(int what, int none) {
            boolean any = foundCount > 0;
            return oneOf(what, foundCount, any ? foundFirst : NONE, any ? foundLast : NONE, none);
        }

        int firstFree() {
            long view = now.viewNow();
            for (int m = now.minute; m <= LAST_MINUTE; m++) {
                if (now.isFree(view, m)) {
                    return m;
                }
            }
            return NONE;
        }

        int longestFree(int what) {
            long view = now.viewNow();
            int length = 0;
            int longest = 0;
            int first = NONE;
            for (int m = now.minute; m <= LAST_MINUTE; m++) {
                length = now.isFree(view, m) ? length + 1 : 0;
                if (length > longest) {
                    longest = length;
                    first = m - length + 1;
                }
            }
            if (what == 0) {
                return longest;
            }
            return what == 1 ? first : NONE;
        }

        int bestMinute() {
            int best = now.minute;
            int greatest = now.worthOf(best);
            for (int m = now.minute + 1; m <= LAST_MINUTE; m++) {
                int worth = now.worthOf(m);
                if (worth > greatest) {
                    greatest = worth;
                    best = m;
                }
            }
            return best;
        }

        int bestStep(int a, int b) {
            int best = 0;
            int most = NONE;
            for (int s = 0; s <= now.width - now.wide; s++) {
                int free = minutesFree(now.columns(s, now.wide), a, b);
                if (free > most) {
                    most = free;
                    best = s;
                }
            }
            return best;
        }

        private int minutesFree(long view, int a, int b) {
            int free = 0;
            for (int m = a; m <= b; m++) {
                if (now.isFree(view, m)) {
                    free++;
                }
            }
            return free;
        }

        long neverClear(int a, int b) {
            long spots = now.viewNow();
            for (int m = a; m <= b; m++) {
                spots &= now.coverIn(m);
            }
            return spots;
        }

        int minutesCovered(int a, int b, int c) {
            int count = 0;
            for (int m = a; m <= b; m++) {
                if (holds(now.coverIn(m), c)) {
                    count++;
                }
            }
            return count;
        }

        int meanTone(int a, int b, int c) {
            int sum = 0;
            for (int m = a; m <= b; m++) {
                sum += now.toneOf(c, m);
            }
            int span = b - a + 1;
            return span > 0 ? sum / span : NONE;
        }

        long ghostSpots(int a, int b) {
            Arrays.fill(counts, 0);
            for (int m = a; m <= b; m++) {
                countEach(now.coverIn(m));
            }
            long ghosts = 0;
            for (int c = 0; c < SPOT_ROOM; c++) {
                if (counts[c] > 0 && 2 * counts[c] <= b - a + 1) {
                    ghosts |= 1L << c;
                }
            }
            return ghosts;
        }

        private void countEach(long spots) {
            for (int c = 0; c < SPOT_ROOM && spots >>> c != 0; c++) {
                if (holds(spots, c)) {
                    counts[c]++;
                }
            }
        }

        /** Of a million, that more than half of n copies are right, each wrong at e of a thousand. */
        int mostRight(int n, int e) {
            Arrays.fill(chances, 0);
            chances[0] = MILLION;
            for (int copy = 1; copy <= n && copy <= MOST_COPIES; copy++) {
                // From the highest one down, as each needs the one below it as it was.
                for (int j = copy; j > 0; j--) {
                    chances[j] = part(chances[j], e) + part(chances[j - 1], THOUSAND - e);
                }
                chances[0] = part(chances[0], e);
            }
            int sum = 0;
            for (int j = n / 2 + 1; j <= n && j <= MOST_COPIES; j++) {
                sum += chances[j];
            }
            return sum;
        }

        int firstUnlike(Shot by, int m) {
            long clear = by.clearSpots();
            for (int c = 0; c < SPOT_ROOM; c++) {
                if (holds(clear, c) && by.tone[c] != now.shadeOf(c, m)) {
                    return c;
                }
            }
            return NONE;
        }

        int longestStander(int what) {
            int who = NONE;
            int longest = 0;
            int from = NONE;
            for (int i = 0; i < now.walkers.count; i++) {
                int length = 0;
                int before = NONE;
                for (int m = 0; m <= LAST_MINUTE; m++) {
                    int c = now.paths.spotIn(i, m);
                    length = c == NONE ? 0 : c == before ? length + 1 : 1;
                    before = c;
                    if (length > longest) {
                        longest = length;
                        who = i;
                        from = m - length + 1;
                    }
                }
            }
            return who == NONE ? NONE : oneOf(what, who, longest, from, NONE);
        }

        int alwaysInView(int a, int b) {
            long view = now.viewNow();
            int walkers = (1 << now.walkers.count) - 1;
            for (int i = 0; i < now.walkers.count; i++) {
                for (int m = a; m <= b; m++) {
                    if (!now.walksOn(view, i, m)) {
                        walkers &= ~(1 << i);
                    }
                }
            }
            return walkers;
        }

        int pairsIn(int m) {
            int pairs = 0;
            for (int i = 0; i < now.walkers.count; i++) {
                for (int j = 0; j < i; j++) {
                    if (areNear(now.paths.spotIn(i, m), now.paths.spotIn(j, m))) {
                        pairs++;
                    }
                }
            }
            return pairs;
        }

        private static boolean areNear(int c, int d) {
            if (c == NONE || d == NONE) {
                return false;
            }
            int across = Math.abs(c % ROW_OF_SPOTS - d % ROW_OF_SPOTS);
            int along = Math.abs(c / ROW_OF_SPOTS - d / ROW_OF_SPOTS);
            return across + along <= 1;
        }

        /** The first two minutes, of the next sixty, by whose shots each spot of the view were clear in one. */
        int clearTogether(int what) {
            long view = now.viewNow();
            int many = Math.min(MOST_WAITED, LAST_MINUTE - now.minute) + 1;
            for (int i = 0; i < many && i <= MOST_WAITED; i++) {
                hidden[i] = now.coverIn(now.minute + i) & view;
            }
            for (int i = 0; i < many && i <= MOST_WAITED; i++) {
                for (int j = i + 1; j < many && j <= MOST_WAITED; j++) {
                    if ((hidden[i] & hidden[j]) == 0) {
                        return now.minute + (what == 0 ? i : j);
                    }
                }
            }
            return NONE;
        }
    }

    /** What is worked out over shots, and the picture that is put together from them. */
    private static final class Album {
        final Bridge now;

        Album(Bridge now) {
            this.now = now;
        }

        boolean isSetOfShots(int shots) {
            return shots >= 0 && shots < 1 << now.shotCount;
        }

        private boolean isIn(int shots, int i) {
            return (shots >>> i & 1) != 0;
        }

        long laidBy(int shots) {
            long spots = 0;
            for (int i = 0; i < now.shotCount && i < SHOT_ROOM; i++) {
                if (isIn(shots, i)) {
                    spots |= now.shots[i].clearSpots();
                }
            }
            return spots & now.viewNow();
        }

        int fewestSet() {
            int all = (1 << now.shotCount) - 1;
            long wanted = laidBy(all);
            int fewest = all;
            for (int shots = 0; shots < all; shots++) {
                if (Integer.bitCount(shots) < Integer.bitCount(fewest) && laidBy(shots) == wanted) {
                    fewest = shots;
                }
            }
            return fewest;
        }

        int greedy() {
            long view = now.viewNow();
            long spots = 0;
            int taken = 0;
            for (int round = 0; round < now.shotCount; round++) {
                long best = 0;
                for (int i = 0; i < now.shotCount && i < SHOT_ROOM; i++) {
                    long more = now.shots[i].clearSpots() & view & ~spots;
                    if (Long.bitCount(more) > Long.bitCount(best)) {
                        best = more;
                    }
                }
                if (best == 0) {
                    return taken;
                }
                spots |= best;
                taken++;
            }
            return taken;
        }

        long mostlyClear(int shots) {
            long spots = 0;
            for (int c = 0; c < SPOT_ROOM; c++) {
                int clear = 0;
                int seen = 0;
                for (int i = 0; i < now.shotCount && i < SHOT_ROOM; i++) {
                    if (shows(shots, i, c)) {
                        seen++;
                        clear += holds(now.shots[i].cover, c) ? 0 : 1;
                    }
                }
                if (2 * clear > seen) {
                    spots |= 1L << c;
                }
            }
            return spots;
        }

        private boolean shows(int shots, int i, int c) {
            return isIn(shots, i) && i < SHOT_ROOM && holds(now.shots[i].view, c);
        }

        /** How many shots of a set have a spot with a tone from least to greatest. */
        private int countTones(int shots, int c, int least, int greatest) {
            int count = 0;
            for (int i = 0; i < now.shotCount && i < SHOT_ROOM; i++) {
                if (shows(shots, i, c) && now.shots[i].tone[c] >= least && now.shots[i].tone[c] <= greatest) {
                    count++;
                }
            }
            return count;
        }

        /** The tone in the middle is the one below which not half, and up to which at least half of them are. */
        int middleTone(int shots, int c) {
            int place = (countTones(shots, c, 0, 99) + 1) / 2;
            for (int i = 0; i < now.shotCount && i < SHOT_ROOM && place > 0; i++) {
                if (shows(shots, i, c)) {
                    int tone = now.shots[i].tone[c];
                    if (countTones(shots, c, 0, tone - 1) < place && countTones(shots, c, 0, tone) >= place) {
                        return tone;
                    }
                }
            }
            return NONE;
        }

        long surelyKnown(int shots, int n) {
            long spots = 0;
            for (int c = 0; c < SPOT_ROOM; c++) {
                for (int i = 0; i < now.shotCount && i < SHOT_ROOM; i++) {
                    if (shows(shots, i, c) && countTones(shots, c, now.shots[i].tone[c], now.shots[i].tone[c]) >= n) {
                        spots |= 1L << c;
                    }
                }
            }
            return spots;
        }

        /** The shot a spot of the picture is from, if that has it in view; else null. */
        private Shot sourceOf(int c) {
            if (!now.isSpot(c)) {
                return null;
            }
            Shot from = now.shotOf(now.pasted[c]);
            return from != null && holds(from.view, c) ? from : null;
        }

        int feet() {
            int walkers = 0;
            for (int c = 0; c < SPOT_ROOM; c++) {
                Shot from = sourceOf(c);
                if (from != null && from.who[c] >= 0 && from.who[c] < WALKER_ROOM) {
                    walkers |= 1 << from.who[c];
                }
            }
            return walkers;
        }

        int holes() {
            long view = now.viewNow();
            int count = 0;
            for (int c = 0; c < SPOT_ROOM; c++) {
                if (holds(view, c) && sourceOf(c) == null) {
                    count++;
                }
            }
            return count;
        }

        int seams() {
            int count = 0;
            for (int c = 0; c < SPOT_ROOM; c++) {
                count += isSeam(c, c + 1) ? 1 : 0;
                count += isSeam(c, c + ROW_OF_SPOTS) ? 1 : 0;
            }
            return count;
        }

        /** With a bridge eight wide c + 1 may stand in the next row, which is not beside c. */
        private boolean isSeam(int c, int d) {
            if (d == c + 1 && d % ROW_OF_SPOTS == 0 || sourceOf(c) == null || sourceOf(d) == null) {
                return false;
            }
            return now.pasted[c] != now.pasted[d];
        }
    }
}
