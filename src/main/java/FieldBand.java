/**
 * A band across a field: who plays when, when it is heard, and how forms are marched.
 * The words in capitals in the comments are those of the document (../shared/DOC.md).
 */
public final class FieldBand {
    public static final int NONE = -1, BAD = -2, STATE = -3, FULL = -4;

    /** HEARD and PLAYS may be a little below 0, so that NONE would not be told from them. */
    private static final int NONE_HEARD = -1001;
    private static final int NOBODY = -5, TOO_FEW_DOTS = -5, OTHER_KIND = -6, TOO_MANY = -9, FAULTS = -10;

    private static final int SIDE = 8, DOTS = SIDE * SIDE, SEATS = SIDE, FIRST_DRUM = 60;
    private static final int MOST_PLAYERS = 10, MOST_DOTS = 10, MOST_SHOWS = 5, MOST_ON_WAY = 6;
    private static final int MOST_BYTES = 120, MOST_CLAUSES = 10, MOST_OPEN = 5, MOST_TRACED = 20;
    private static final int HUNDREDTHS = 1000, TOGETHERS = 50, BACKS = 100, VALUES = 10;

    private static final int LISTENING = 0, EYED = 1, BACKWARD = 2, FORWARD = 3;
    private static final int AHEAD = 4, ECHOED = 5, COUNTED = 6, KINDS = 7;
    /** By KIND, the KIND above it. */
    private static final int[] ABOVE = {NONE, LISTENING, LISTENING, LISTENING, EYED, BACKWARD, FORWARD};

    /** Who listens to THE DRUM listens to no PLAYER's number. */
    private static final int DRUMMER = -2;

    private static final int GOES = 0, PLAYS = 1, FITS = 2, ACTS = 3;

    private static final int LOUD = 0, LATE = 1, SPEED = 2, BEAT = 3, STEP = 4, WORDS = 5;
    private static final int NOT = -1, AND = -2, OR = -3;
    private static final String LETTERS = "prckv", SIGNS = "<=>", DIGITS = "0123456789";
    private static final int NUMBERS = 100, COMPARISONS = 3;
    private static final int SPEED_WITHOUT = 3, BEAT_WITHOUT = 50, STEP_WITHOUT = 2;

    private final Field now = new Field();
    private final Field kept = new Field();
    private boolean isKept = false;
    /** SHOW s is in place s + 1; place 0 is without CLAUSES, for when there is no SHOW. */
    private final Show[] shows = new Show[MOST_SHOWS + 1];
    private final Reader reader;
    private final Sound sound;
    private final Ways ways = new Ways(now);
    private final Deed deed = new Deed();

    public FieldBand() {
        for (int i = 0; i < shows.length; i++) {
            shows[i] = new Show();
        }
        reader = new Reader(now, shows[0]);
        sound = new Sound(now, shows[0]);
    }

    // ---- shows, players

    public int feed(long w, int n) {
        if (n < 1 || n > 8) {
            return BAD;
        }
        if (now.bytes + n > MOST_BYTES) {
            return FULL;
        }
        for (int i = n - 1; i >= 0; i--) {
            now.tape[now.bytes] = (byte) (w >>> (8 * i));
            now.bytes++;
        }
        return now.bytes;
    }

    public int show() {
        if (now.shows >= MOST_SHOWS) {
            return FULL;
        }
        int fault = reader.readInto(shows[now.shows + 1]);
        now.bytes = 0;
        if (fault != NONE) {
            return FAULTS - fault;
        }
        now.shows++;
        return now.shows - 1;
    }

    public int told(int what) {
        switch (what) {
            case 0: return held().speed;
            case 1: return held().beat;
            case 2: return held().step;
            default: return NONE;
        }
    }

    public int player(int kind, int v, int dot) {
        if (!isBelow(kind, KINDS) || !isBelow(dot, DOTS)) {
            return NONE;
        }
        if (!isBelow(v, VALUES)) {
            return BAD;
        }
        if (now.playerOn(dot) != NONE) {
            return STATE;
        }
        if (now.players >= MOST_PLAYERS) {
            return FULL;
        }
        now.kind[now.players] = kind;
        now.v[now.players] = v;
        now.dot[now.players] = dot;
        now.players++;
        return now.players - 1;
    }

    public int of(int player, int what) {
        if (!isPlayer(player)) {
            return NONE_HEARD;
        }
        switch (what) {
            case 0: return now.kind[player];
            case 1: return now.v[player];
            case 2: return now.dot[player];
            case 3: return listen().loudness(player);
            case 4: return listen().slip[player];
            case 5: return listen().plays[player];
            default: return NONE_HEARD;
        }
    }

    public int drum(int dot) {
        if (!isBelow(dot, DOTS)) {
            return NONE;
        }
        int was = now.drum;
        now.drum = dot;
        return was;
    }

    public int put(int player, int dot) {
        if (!isPlayer(player) || !isBelow(dot, DOTS)) {
            return NONE;
        }
        int there = now.playerOn(dot);
        if (there != NONE && there != player) {
            return STATE;
        }
        int was = now.dot[player];
        now.dot[player] = dot;
        return was;
    }

    // ---- hearing

    public int heard(int seat, int player) {
        if (!isBelow(seat, SEATS) || !isPlayer(player)) {
            return NONE_HEARD;
        }
        return listen().arrival(seat, player);
    }

    public int spread(int seat, int what) {
        if (!isBelow(seat, SEATS) || !isBelow(what, TOGETHERS + 1)) {
            return NONE;
        }
        return what == 0 ? listen().spreadAt(seat) : listen().loudTogether(seat, what - 1);
    }

    public int back(int seat, int n) {
        if (!isBelow(seat, SEATS)) {
            return NONE;
        }
        if (!isBelow(n, BACKS)) {
            return BAD;
        }
        return listen().likeDrum(seat, n);
    }

    public int best(int what) {
        if (!isBelow(what, 2)) {
            return NONE;
        }
        listen();
        int best = NONE;
        int least = 0;
        for (int dot = 0; dot < DOTS; dot++) {
            if (now.playerOn(dot) == NONE) {
                int sum = sound.sumWithDrumOn(dot);
                if (best == NONE || sum < least) {
                    best = dot;
                    least = sum;
                }
            }
        }
        return what == 0 ? best : least;
    }

    public int early(int player, int seat) {
        if (!isPlayer(player) || !isBelow(seat, SEATS)) {
            return NONE;
        }
        listen();
        return sound.arrival(seat, player) - sound.earliest(seat);
    }

    public int beats(int seat) {
        if (!isBelow(seat, SEATS)) {
            return NONE;
        }
        return listen().spreadAt(seat) / Math.max(1, held().beat);
    }

    // ---- forms

    public int form(int dot) {
        if (dot == -1) {
            now.formed = 0;
            return 0;
        }
        if (!isBelow(dot, DOTS)) {
            return NONE;
        }
        if (now.isInForm(dot)) {
            return STATE;
        }
        if (now.formed >= MOST_DOTS) {
            return FULL;
        }
        now.form[now.formed] = dot;
        now.formed++;
        return now.formed;
    }

    public int way(int k) {
        if (k < -2 || k >= now.players) {
            return NONE;
        }
        int refusal = findWay();
        if (refusal != 0) {
            return refusal;
        }
        if (k == -1) {
            return ways.greatest;
        }
        return k == -2 ? ways.sum : ways.best[k];
    }

    public int counts() {
        int refusal = findWay();
        if (refusal != 0) {
            return refusal;
        }
        int step = Math.max(1, held().step);
        return (ways.greatest + step - 1) / step;
    }

    public int meet() {
        if (now.hasTooFewDots()) {
            return TOO_FEW_DOTS;
        }
        int pairs = 0;
        for (int a = 0; a < now.players; a++) {
            for (int b = a + 1; b < now.players; b++) {
                if (now.meetHalfWay(a, b)) {
                    pairs++;
                }
            }
        }
        return pairs;
    }

    public int hard(int what) {
        if (!isBelow(what, 2)) {
            return NONE;
        }
        if (now.hasTooFewDots()) {
            return TOO_FEW_DOTS;
        }
        int greatest = 0;
        int bits = 0;
        for (int p = 0; p < now.players; p++) {
            int far = far(now.dot[p], now.form[p]);
            if (far > greatest) {
                greatest = far;
                bits = 0;
            }
            if (far == greatest) {
                bits |= 1 << p;
            }
        }
        return what == 0 ? bits : greatest;
    }

    public int march() {
        if (now.hasTooFewDots()) {
            return STATE;
        }
        int moved = 0;
        for (int p = 0; p < now.players; p++) {
            if (now.dot[p] != now.form[p]) {
                moved++;
            }
            now.dot[p] = now.form[p];
        }
        return moved;
    }

    // ---- films

    public int seen(int dot) {
        if (dot == -1) {
            now.filmed = 0;
            return 0;
        }
        if (!isBelow(dot, DOTS)) {
            return NONE;
        }
        if (now.filmed >= MOST_DOTS) {
            return FULL;
        }
        now.film[now.filmed] = dot;
        now.filmed++;
        return now.filmed;
    }

    public int off(int what) {
        if (!isBelow(what, 2)) {
            return NONE;
        }
        int astray = 0;
        int worst = NOBODY;
        int farthest = 0;
        for (int p = 0; p < now.players && p < now.filmed; p++) {
            int far = far(now.dot[p], now.film[p]);
            if (far > 0) {
                astray++;
            }
            if (far > farthest) {
                farthest = far;
                worst = p;
            }
        }
        return what == 0 ? astray : worst;
    }

    public int whom(int player, int seat, int hundredth) {
        if (!isPlayer(player) || !isBelow(seat, SEATS)) {
            return NONE;
        }
        if (!isBelow(hundredth, HUNDREDTHS)) {
            return BAD;
        }
        listen();
        int bits = 0;
        for (int kind = 0; kind < KINDS; kind++) {
            if (sound.arrivalAsKind(seat, player, kind) == hundredth) {
                bits |= 1 << kind;
            }
        }
        return bits;
    }

    public int out() {
        if (now.players < 2) {
            return NOBODY;
        }
        listen();
        int best = NONE;
        int least = 0;
        for (int p = 0; p < now.players; p++) {
            int sum = sound.sumWithout(p);
            if (best == NONE || sum < least) {
                best = p;
                least = sum;
            }
        }
        return best;
    }

    // ---- acts, the image

    public int act(int player, int act, int x) {
        deed.ran = 0;
        if (!isPlayer(player) || !isBelow(act, ACTS)) {
            return 0;
        }
        deed.kind = now.kind[player];
        deed.number = player;
        deed.v = now.v[player];
        return deed.runFrom(deed.kind, act, x, 0);
    }

    public int trace(int i) {
        if (i < 0 || i >= deed.ran || i >= MOST_TRACED) {
            return NONE;
        }
        return deed.bodies[i];
    }

    public int as(int player, int k) {
        if (!isPlayer(player) || !isBelow(k, KINDS)) {
            return NONE;
        }
        return isUnder(now.kind[player], k) ? now.v[player] : OTHER_KIND;
    }

    public int image() {
        kept.takeOver(now);
        isKept = true;
        return now.players;
    }

    public int undo() {
        if (!isKept) {
            return STATE;
        }
        now.takeOver(kept);
        return now.players;
    }

    public int count(int what) {
        switch (what) {
            case 0: return now.players;
            case 1: return now.shows;
            case 2: return now.formed;
            case 3: return now.filmed;
            case 4: return now.bytes;
            case 5: return deed.ran;
            case 6: return now.drum;
            default: return NONE;
        }
    }

    private boolean isPlayer(int player) {
        return isBelow(player, now.players);
    }

    private Show held() {
        return shows[now.shows];
    }

    private Sound listen() {
        sound.hearAll(held());
        return sound;
    }

    /** Finds the WAY and answers 0, or answers why there is none. */
    private int findWay() {
        if (now.hasTooFewDots()) {
            return TOO_FEW_DOTS;
        }
        if (now.players > MOST_ON_WAY) {
            return TOO_MANY;
        }
        ways.find();
        return 0;
    }

    private static boolean isBelow(int number, int bound) {
        return number >= 0 && number < bound;
    }

    private static int rowOf(int place) {
        return place >> 3;
    }

    private static int columnOf(int place) {
        return place & 7;
    }

    /** A SEAT as a place of row -1, so that FAR is one rule for DOTS and SEATS. */
    private static int placeOfSeat(int seat) {
        return seat - SIDE;
    }

    private static int far(int a, int b) {
        return Math.max(Math.abs(rowOf(a) - rowOf(b)), Math.abs(columnOf(a) - columnOf(b)));
    }

    /** Whether a KIND is another one or under it. */
    private static boolean isUnder(int kind, int other) {
        int at = kind;
        for (int i = 0; i < KINDS && at != NONE; i++) {
            if (at == other) {
                return true;
            }
            at = ABOVE[at];
        }
        return false;
    }

    /** All that THE IMAGE keeps; of the SHOWS their number, as those behind it only are written anew. */
    private static final class Field {
        int players = 0;
        final int[] kind = new int[MOST_PLAYERS];
        final int[] v = new int[MOST_PLAYERS];
        final int[] dot = new int[MOST_PLAYERS];
        int drum = FIRST_DRUM;
        int formed = 0;
        final int[] form = new int[MOST_DOTS];
        int filmed = 0;
        final int[] film = new int[MOST_DOTS];
        int bytes = 0;
        final byte[] tape = new byte[MOST_BYTES];
        int shows = 0;

        void takeOver(Field other) {
            players = other.players;
            System.arraycopy(other.kind, 0, kind, 0, MOST_PLAYERS);
            System.arraycopy(other.v, 0, v, 0, MOST_PLAYERS);
            System.arraycopy(other.dot, 0, dot, 0, MOST_PLAYERS);
            drum = other.drum;
            formed = other.formed;
            System.arraycopy(other.form, 0, form, 0, MOST_DOTS);
            filmed = other.filmed;
            System.arraycopy(other.film, 0, film, 0, MOST_DOTS);
            bytes = other.bytes;
            System.arraycopy(other.tape, 0, tape, 0, MOST_BYTES);
            shows = other.shows;
        }

        int playerOn(int place) {
            for (int p = 0; p < players; p++) {
                if (dot[p] == place) {
                    return p;
                }
            }
            return NONE;
        }

        boolean isInForm(int place) {
            for (int i = 0; i < formed; i++) {
                if (form[i] == place) {
                    return true;
                }
            }
            return false;
        }

        boolean hasTooFewDots() {
            return formed < players;
        }

        /** Sums of rows and of columns stand for the half of them, so that nothing is cut. */
        boolean meetHalfWay(int a, int b) {
            return rowOf(dot[a]) + rowOf(form[a]) == rowOf(dot[b]) + rowOf(form[b])
                && columnOf(dot[a]) + columnOf(form[a]) == columnOf(dot[b]) + columnOf(form[b]);
        }
    }

    /** A SHOW that was read; the E of its CLAUSES stand in one row of codes, parts ahead of what joins them. */
    private static final class Show {
        int speed = SPEED_WITHOUT;
        int beat = BEAT_WITHOUT;
        int step = STEP_WITHOUT;
        int clauses = 0;
        final int[] word = new int[MOST_CLAUSES];
        final int[] amount = new int[MOST_CLAUSES];
        final int[] start = new int[MOST_CLAUSES];
        final int[] end = new int[MOST_CLAUSES];
        int used = 0;
        /** Each code is of a byte of its own of THE TAPE, so there are never more. */
        final int[] code = new int[MOST_BYTES];

        void clear() {
            speed = SPEED_WITHOUT;
            beat = BEAT_WITHOUT;
            step = STEP_WITHOUT;
            clauses = 0;
            used = 0;
        }

        void write(int next) {
            if (used < MOST_BYTES) {
                code[used] = next;
                used++;
            }
        }

        void addClause(int newWord, int n, int from) {
            switch (newWord) {
                case SPEED:
                    speed = n;
                    break;
                case BEAT:
                    beat = Math.max(1, n);
                    break;
                case STEP:
                    step = Math.max(1, n);
                    break;
                default:
                    break;
            }
            if (clauses < MOST_CLAUSES) {
                word[clauses] = newWord;
                amount[clauses] = n;
                start[clauses] = from;
                end[clauses] = used;
                clauses++;
            }
        }

        /** The n of all CLAUSES of a word whose E holds; about: by LETTERS, what they are of a PLAYER. */
        int sumOf(int wanted, int[] about) {
            int sum = 0;
            for (int i = 0; i < clauses; i++) {
                if (word[i] == wanted && holds(start[i], end[i], about)) {
                    sum += amount[i];
                }
            }
            return sum;
        }

        /** What is not joined yet stands as bits, the newest lowest: 5 open signs leave 13 at most. */
        boolean holds(int from, int to, int[] about) {
            int bits = 0;
            for (int i = from; i < to; i++) {
                int top = bits & 1;
                switch (code[i]) {
                    case NOT:
                        bits ^= 1;
                        break;
                    case AND:
                        bits = (bits >>> 1) & (top | ~1);
                        break;
                    case OR:
                        bits = (bits >>> 1) | top;
                        break;
                    default:
                        bits = (bits << 1) | (passes(code[i], about) ? 1 : 0);
                        break;
                }
            }
            return (bits & 1) == 1;
        }

        static int codeOfTest(int letter, int sign, int number) {
            return (letter * COMPARISONS + sign) * NUMBERS + number;
        }

        static boolean passes(int test, int[] about) {
            int number = test % NUMBERS;
            int sign = test / NUMBERS % COMPARISONS;
            int letter = test / NUMBERS / COMPARISONS;
            int value = letter >= 0 && letter < about.length ? about[letter] : 0;
            switch (sign) {
                case 0: return value < number;
                case 1: return value == number;
                default: return value > number;
            }
        }
    }

    /** Reads THE TAPE as a SHOW; whatever fails leaves its place at the first byte that can't go on. */
    private static final class Reader {
        final Field field;
        Show show;
        int at = 0;

        Reader(Field field, Show show) {
            this.field = field;
            this.show = show;
        }

        /** The FAULT, or NONE. */
        int readInto(Show target) {
            show = target;
            show.clear();
            at = 0;
            for (int i = 1; i <= MOST_CLAUSES; i++) {
                if (!readClause()) {
                    return at;
                }
                if (at == field.bytes) {
                    return NONE;
                }
                if (i == MOST_CLAUSES || !take(";")) {
                    return at;
                }
            }
            return at;
        }

        boolean readClause() {
            int word = readWord();
            if (word == NONE || !take(" ")) {
                return false;
            }
            int n = readNumber();
            if (n == NONE) {
                return false;
            }
            int from = show.used;
            if ((word == LOUD || word == LATE) && !(take(" ") && readEither(0))) {
                return false;
            }
            show.addClause(word, n, from);
            return true;
        }

        int readWord() {
            int longest = 0;
            for (int word = 0; word < WORDS; word++) {
                String text = textOf(word);
                int same = sameSigns(text);
                if (same == text.length()) {
                    at += same;
                    return word;
                }
                longest = Math.max(longest, same);
            }
            at += longest;
            return NONE;
        }

        static String textOf(int word) {
            switch (word) {
                case LOUD: return "loud";
                case LATE: return "late";
                case SPEED: return "speed";
                case BEAT: return "beat";
                default: return "step";
            }
        }

        /** How many signs of a text stand here, from its first on. */
        int sameSigns(String text) {
            int same = 0;
            while (same < text.length() && at + same < field.bytes
                && field.tape[at + same] == text.charAt(same)) {
                same++;
            }
            return same;
        }

        private boolean readEither(int open) {
            if (!readBoth(open)) {
                return false;
            }
            for (int i = 0; i < MOST_BYTES && take("|"); i++) {
                if (!readBoth(open)) {
                    return false;
                }
                show.write(OR);
            }
            return true;
        }

        private boolean readBoth(int open) {
            if (!readFactor(open)) {
                return false;
            }
            for (int i = 0; i < MOST_BYTES && take("&"); i++) {
                if (!readFactor(open)) {
                    return false;
                }
                show.write(AND);
            }
            return true;
        }

        private boolean readFactor(int open) {
            if (open < MOST_OPEN && take("!")) {
                if (!readFactor(open + 1)) {
                    return false;
                }
                show.write(NOT);
                return true;
            }
            if (open < MOST_OPEN && take("(")) {
                return readEither(open + 1) && take(")");
            }
            return readTest();
        }

        boolean readTest() {
            int letter = takeOneOf(LETTERS);
            if (letter == NONE) {
                return false;
            }
            int sign = takeOneOf(SIGNS);
            if (sign == NONE) {
                return false;
            }
            int number = readNumber();
            if (number == NONE) {
                return false;
            }
            show.write(Show.codeOfTest(letter, sign, number));
            return true;
        }

        int readNumber() {
            int first = takeOneOf(DIGITS);
            if (first == NONE || first == 0) {
                return first;
            }
            int second = takeOneOf(DIGITS);
            return second == NONE ? first : 10 * first + second;
        }

        boolean take(String sign) {
            return takeOneOf(sign) != NONE;
        }

        /** Which of the signs stands here, going behind it; NONE if none of them does. */
        int takeOneOf(String signs) {
            if (at >= field.bytes) {
                return NONE;
            }
            int which = signs.indexOf((char) (field.tape[at] & 255));
            if (which < 0) {
                return NONE;
            }
            at++;
            return which;
        }
    }

    /** When each PLAYER PLAYS and is HEARD: as it is, or if a DRUM, a KIND, a PLAYER were otherwise. */
    private static final class Sound {
        final Field field;
        Show show;
        int drum = FIRST_DRUM;
        /** The PLAYER that is left out, or NONE. */
        int absent = NONE;
        final int[] kind = new int[MOST_PLAYERS];
        final int[] slip = new int[MOST_PLAYERS];
        /** By PLAYER whom it listens to: a PLAYER, DRUMMER, or NONE. */
        final int[] source = new int[MOST_PLAYERS];
        final int[] plays = new int[MOST_PLAYERS];
        final int[] about = new int[LETTERS.length()];

        Sound(Field field, Show show) {
            this.field = field;
            this.show = show;
        }

        void hearAll(Show held) {
            show = held;
            drum = field.drum;
            absent = NONE;
            System.arraycopy(field.kind, 0, kind, 0, MOST_PLAYERS);
            slipAll();
            arrange();
            playAll();
        }

        void slipAll() {
            for (int p = 0; p < field.players; p++) {
                slip[p] = sumFor(LATE, p);
            }
        }

        /** Who is there, and of which KIND, decides who listens to whom. */
        void arrange() {
            for (int p = 0; p < field.players; p++) {
                source[p] = sourceOf(p);
            }
        }

        void playAll() {
            for (int p = 0; p < field.players; p++) {
                plays[p] = playedBy(p);
            }
        }

        int loudness(int p) {
            return 1 + sumFor(LOUD, p);
        }

        int sumFor(int word, int p) {
            about[0] = p;
            about[1] = rowOf(field.dot[p]);
            about[2] = columnOf(field.dot[p]);
            about[3] = kind[p];
            about[4] = field.v[p];
            return show.sumOf(word, about);
        }

        int sourceOf(int p) {
            switch (kind[p]) {
                case LISTENING:
                    return DRUMMER;
                case BACKWARD:
                case ECHOED:
                    int behind = nearestInColumn(p, 1);
                    return behind == NONE ? DRUMMER : behind;
                case FORWARD:
                    int before = nearestInColumn(p, -1);
                    return before != NONE && isUnder(kind[before], BACKWARD) ? DRUMMER : before;
                default:
                    return NONE;
            }
        }

        /** The next PLAYER of p's column towards greater (1) or lesser (-1) rows, or NONE. */
        int nearestInColumn(int p, int towards) {
            int nearest = NONE;
            int least = SIDE;
            for (int q = 0; q < field.players; q++) {
                int apart = towards * (rowOf(field.dot[q]) - rowOf(field.dot[p]));
                boolean isCandidate = q != absent && columnOf(field.dot[q]) == columnOf(field.dot[p]);
                if (isCandidate && apart > 0 && apart < least) {
                    nearest = q;
                    least = apart;
                }
            }
            return nearest;
        }

        /**
         * PLAYS, along those that are listened to. They never lead back: a FORWARD one listens to none
         * that is BACKWARD, so that one way along a column is kept till its end.
         */
        int playedBy(int p) {
            int hundredth = 0;
            int at = p;
            for (int i = 0; i < MOST_PLAYERS; i++) {
                hundredth += slip[at] + ownMore(at);
                int next = source[at];
                if (next == NONE) {
                    return hundredth;
                }
                if (next == DRUMMER) {
                    return hundredth + show.speed * far(field.dot[at], drum);
                }
                hundredth += show.speed * far(field.dot[at], field.dot[next]);
                at = next;
            }
            return hundredth;
        }

        /** What a KIND adds to PLAYS beside what is listened to. */
        int ownMore(int p) {
            switch (kind[p]) {
                case AHEAD: return -field.v[p];
                case ECHOED: return show.speed * rowOf(field.dot[p]);
                case COUNTED: return field.v[p] * p;
                default: return 0;
            }
        }

        int arrival(int seat, int p) {
            return plays[p] + show.speed * far(placeOfSeat(seat), field.dot[p]);
        }

        int earliest(int seat) {
            int earliest = Integer.MAX_VALUE;
            for (int p = 0; p < field.players; p++) {
                if (p != absent) {
                    earliest = Math.min(earliest, arrival(seat, p));
                }
            }
            return earliest;
        }

        int spreadAt(int seat) {
            int earliest = Integer.MAX_VALUE;
            int latest = Integer.MIN_VALUE;
            for (int p = 0; p < field.players; p++) {
                if (p != absent) {
                    int hundredth = arrival(seat, p);
                    earliest = Math.min(earliest, hundredth);
                    latest = Math.max(latest, hundredth);
                }
            }
            return earliest > latest ? 0 : latest - earliest;
        }

        int sumOfSpreads() {
            int sum = 0;
            for (int seat = 0; seat < SEATS; seat++) {
                sum += spreadAt(seat);
            }
            return sum;
        }

        int sumWithDrumOn(int dot) {
            drum = dot;
            playAll();
            return sumOfSpreads();
        }

        /** For two PLAYERS at least, so that one is left. */
        int sumWithout(int p) {
            absent = p;
            arrange();
            playAll();
            return sumOfSpreads();
        }

        int arrivalAsKind(int seat, int p, int wanted) {
            kind[p] = wanted;
            slip[p] = sumFor(LATE, p);
            arrange();
            playAll();
            return arrival(seat, p);
        }

        int loudTogether(int seat, int n) {
            int loudest = NONE;
            int most = 0;
            for (int p = 0; p < field.players; p++) {
                int loudness = loudness(p);
                if (loudest == NONE || loudness > most) {
                    loudest = p;
                    most = loudness;
                }
            }
            int sum = 0;
            for (int p = 0; p < field.players; p++) {
                if (Math.abs(arrival(seat, p) - arrival(seat, loudest)) <= n) {
                    sum += loudness(p);
                }
            }
            return sum;
        }

        /** BACK: all PLAYERS taken for LISTENING ones. */
        int likeDrum(int seat, int n) {
            for (int p = 0; p < field.players; p++) {
                kind[p] = LISTENING;
            }
            slipAll();
            arrange();
            playAll();
            int ofDrum = show.speed * far(placeOfSeat(seat), drum);
            int bits = 0;
            for (int p = 0; p < field.players; p++) {
                if (Math.abs(arrival(seat, p) - ofDrum) <= n) {
                    bits |= 1 << p;
                }
            }
            return bits;
        }
    }

    /** Seeks the WAY through all rows of places, the first ones first. */
    private static final class Ways {
        final Field field;
        final int[] row = new int[MOST_ON_WAY];
        final int[] best = new int[MOST_ON_WAY];
        int greatest = 0;
        int sum = 0;

        Ways(Field field) {
            this.field = field;
        }

        /** For MOST_ON_WAY PLAYERS at most, and no fewer DOTS. */
        void find() {
            greatest = Integer.MAX_VALUE;
            sum = Integer.MAX_VALUE;
            tryPlaces(0, 0, 0, 0);
        }

        /** The PLAYERS ahead of p have their places, as bits in taken. */
        private void tryPlaces(int p, int taken, int greatestSoFar, int sumSoFar) {
            if (!isBetter(greatestSoFar, sumSoFar)) {
                return;
            }
            if (p >= field.players || p >= MOST_ON_WAY) {
                greatest = greatestSoFar;
                sum = sumSoFar;
                System.arraycopy(row, 0, best, 0, MOST_ON_WAY);
                return;
            }
            for (int place = 0; place < field.players; place++) {
                if ((taken >> place & 1) == 0) {
                    int far = far(field.dot[p], field.form[place]);
                    row[p] = place;
                    tryPlaces(p + 1, taken | 1 << place, Math.max(greatestSoFar, far), sumSoFar + far);
                }
            }
        }

        /** Neither number falls as a row grows, so what is not better can't become so. */
        boolean isBetter(int otherGreatest, int otherSum) {
            return otherGreatest < greatest || otherGreatest == greatest && otherSum < sum;
        }
    }

    /** An ACT of a PLAYER, and its TRACE. */
    private static final class Deed {
        /** By KIND the number of the body it has itself, or NONE. */
        private static final int[] GOES_BODIES = {1, 11, NONE, NONE, NONE, 51, NONE};
        private static final int[] PLAYS_BODIES = {2, NONE, 21, NONE, NONE, NONE, 61};
        private static final int[] FITS_BODIES = {3, NONE, NONE, 31, 41, NONE, NONE};
        /** No KIND's bodies call one another deeper than 5. */
        private static final int DEEPEST = 20;

        int kind = LISTENING;
        int number = 0;
        int v = 0;
        int ran = 0;
        final int[] bodies = new int[MOST_TRACED];

        /** Runs the body that a KIND has, or the next KIND above that has one. */
        private int runFrom(int from, int act, int x, int depth) {
            int at = from;
            for (int i = 0; i < KINDS && at != NONE && bodyOf(at, act) == NONE; i++) {
                at = ABOVE[at];
            }
            if (at == NONE || depth >= DEEPEST) {
                return 0;
            }
            int body = bodyOf(at, act);
            begin(body);
            return runBody(body, ABOVE[at], x, depth + 1);
        }

        static int bodyOf(int kind, int act) {
            switch (act) {
                case GOES: return GOES_BODIES[kind];
                case PLAYS: return PLAYS_BODIES[kind];
                default: return FITS_BODIES[kind];
            }
        }

        void begin(int body) {
            if (ran < MOST_TRACED) {
                bodies[ran] = body;
            }
            ran++;
        }

        /** above: the KIND above the body's, from which super goes on. */
        private int runBody(int body, int above, int x, int depth) {
            switch (body) {
                case 1: return x + number;
                case 2: return runFrom(kind, GOES, x, depth) - v;
                case 3: return runFrom(kind, PLAYS, x, depth) * 2;
                case 11: return runFrom(above, GOES, x * 3, depth);
                case 21: return -runFrom(above, PLAYS, x, depth);
                case 31: return runFrom(above, FITS, x, depth) ^ 7;
                case 41: return runFrom(above, FITS, x - 1, depth) + runFrom(kind, GOES, 2, depth);
                case 51: return runFrom(above, GOES, x, depth) ^ number;
                case 61: return runFrom(above, PLAYS, x, depth) + v;
                default: return 0;
            }
        }
    }
}
