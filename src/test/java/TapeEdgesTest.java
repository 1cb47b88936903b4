/** Each sentence of the document that names an edge of THE TAPE, of a SHOW's text, of what a SHOW tells. */
public final class TapeEdgesTest {
    private static final String[] WORDS = {"loud", "late", "speed", "beat", "step"};

    public static void main(String[] args) {
        tapeIsFull();
        lowestBytes();
        wrongNumberOfBytes();
        tapeOf120Bytes();
        clausesAtMost();
        semicolonsBetween();
        oneBlank();
        digits();
        lettersOfTests();
        signsOfTests();
        everyTest();
        joined();
        openSigns();
        openTill();
        faultOfPrefixes();
        faultOfAnyByte();
        showsAtMost();
        emptyTape();
        nothingIsLeft();
        withoutShow();
        lastNumbers();
        together();
        told();
        Edges.end();
    }

    private static String repeat(String part, int times) {
        return part.repeat(times);
    }

    /** place -1: it is a SHOW; whichever it is, THE TAPE is empty then, and what held holds. */
    private static void fault(String text, int place) {
        FieldBand x = Edges.band("speed 77");
        Edges.due("show of '" + text + "'", Edges.show(x, text), place < 0 ? 1 : -10 - place);
        Edges.due("THE TAPE behind '" + text + "'", x.count(4), 0);
        Edges.due("SHOWS behind '" + text + "'", x.count(1), place < 0 ? 2 : 1);
        if (place >= 0) Edges.due("SPEED behind '" + text + "'", x.told(0), 77);
    }

    private static FieldBand withBytes(int bytes) {
        FieldBand x = new FieldBand();
        for (int i = 1; i <= bytes; i++) Edges.due("feed 1", x.feed('x', 1), i);
        return x;
    }

    private static void tapeIsFull() {
        Edges.says("THE TAPE (bytes, 120 at most)");
        for (int n = 1; n <= 8; n++) {
            FieldBand x = withBytes(120 - n);
            Edges.due("the last " + n, x.feed(0, n), 120);
            for (int more = 1; more <= 8; more++) Edges.due("feed " + more, x.feed(0, more), Edges.FULL);
            Edges.due("count(4)", x.count(4), 120);
            x = withBytes(121 - n);
            Edges.due("one too many, of " + n, x.feed(0, n), Edges.FULL);
            Edges.due("count(4)", x.count(4), 121 - n);
        }
        // nothing of what was refused has come: the 119 bytes and one more are still a SHOW
        FieldBand x = new FieldBand();
        Edges.due("119 bytes", Edges.feed(x, "late 10 v<10" + repeat("&v<9", 26) + "&v<"), 119);
        Edges.due("two more", x.feed('x' << 8 | 'x', 2), Edges.FULL);
        Edges.due("one more", x.feed('9', 1), 120);
        Edges.due("show()", x.show(), 0);
    }

    private static void lowestBytes() {
        Edges.says("The n lowest bytes of w, the highest first, come behind THE TAPE's: how many it has");
        String text = "speed 98;beat 76;step 5";
        for (int n = 1; n <= 8; n++) {
            FieldBand x = new FieldBand();
            for (int i = 0; i < text.length(); i += n) {
                int size = Math.min(n, text.length() - i);
                long w = i % 2 == 0 ? -1L : 0x3b3b3b3b3b3b3b3bL;
                for (int k = 0; k < size; k++) w = w << 8 | text.charAt(i + k);
                Edges.due("feed by " + n, x.feed(w, size), i + size);
            }
            Edges.due("show by " + n, x.show(), 0);
            Edges.due("SPEED by " + n, x.told(0), 98);
            Edges.due("BEAT by " + n, x.told(1), 76);
            Edges.due("STEP by " + n, x.told(2), 5);
        }
        // a byte above 127 is a byte of THE TAPE, too
        FieldBand x = new FieldBand();
        Edges.due("feed(-1, 8)", x.feed(-1L, 8), 8);
        Edges.due("show()", x.show(), -10);
    }

    private static void wrongNumberOfBytes() {
        Edges.says("BAD: n not 1 .. 8; FULL");
        int[] wrong = {0, 9, -1, -8, 16, 264, Edges.MIN, Edges.MAX};
        FieldBand empty = new FieldBand();
        FieldBand full = withBytes(120);
        for (int n : wrong) {
            Edges.due("feed of " + n, empty.feed('x', n), Edges.BAD);
            Edges.due("feed of " + n + " to what is full", full.feed('x', n), Edges.BAD);
        }
        Edges.due("count(4)", empty.count(4), 0);
        Edges.due("count(4)", full.count(4), 120);
        Edges.due("feed of 1", empty.feed('x', 1), 1);
        Edges.due("feed of 8", empty.feed('x', 8), 9);
    }

    private static void tapeOf120Bytes() {
        Edges.says("A SHOW is read from THE TAPE (bytes, 120 at most)");
        String start = "late 10 v<10" + repeat("&v<9", 26) + "&v<";
        for (char last = '8'; last <= '9'; last++) {
            FieldBand x = Edges.band(start + last, 1, 7, 0, 1, 8, 1, 1, 9, 2);
            Edges.due("SLIP by v<" + last, Edges.ofAll(x, 4), last == '8' ? "10 0 0" : "10 10 0");
        }
        fault(start + "x", 119);
        fault("late 9 v<10" + repeat("&v<9", 27) + "&", 120);
        fault("late 10 v<10" + repeat("&v<9", 26) + "&v=0", -1);
        fault(repeat("speed 10;", 9) + "late 1 " + repeat("p=1&", 8), 120);
    }

    private static void clausesAtMost() {
        Edges.says("CLAUSES, 10 at most");
        StringBuilder text = new StringBuilder();
        int sum = 0;
        for (int i = 1; i <= 10; i++) {
            text.append(i == 1 ? "" : ";").append("loud ").append(i).append(" p=0");
            sum += i;
            FieldBand x = Edges.band(text.toString(), 1, 0, 0);
            Edges.due(i + " CLAUSES", x.of(0, 3), 1 + sum);
        }
        fault(text + ";", text.length());
        String ten = repeat("step 1;", 9) + "step 1";
        fault(ten, -1);
        fault(ten + ";", 69);
        fault(ten + ";step 1", 69);
        fault(ten + ";x", 69);
        fault(repeat("step 1;", 9), 63);
        fault(repeat("step 1;", 8) + "step 1", -1);
        for (String word : WORDS) {
            String clause = word + " 1" + (word.startsWith("l") ? " p=0" : "");
            fault(clause, -1);
            if (10 * (clause.length() + 1) <= 120) {
                fault(repeat(clause + ";", 9) + clause, -1);
                fault(repeat(clause + ";", 9) + clause + ";", 10 * clause.length() + 9);
            }
        }
    }

    private static void semicolonsBetween() {
        Edges.says("with ; between");
        fault("beat 1;beat 1", -1);
        fault(";", 0);
        fault(";beat 1", 0);
        fault("beat 1;", 7);
        fault("beat 1;;beat 1", 7);
        fault("beat 1,beat 1", 6);
        fault("beat 1beat 1", 6);
        fault("beat 1:beat 1", 6);
        fault("beat 1 beat 1", 6);
        fault("beat 1; beat 1", 7);
        fault("beat 1 ;beat 1", 6);
        fault("late 1 p=1;late 1 p=1", -1);
        fault("late 1 p=1 ;late 1 p=1", 10);
        fault("late 1 (p=1;p=1)", 11);
    }

    private static void oneBlank() {
        Edges.says("one blank ahead of each part behind the word");
        for (String word : WORDS) {
            String tail = word.startsWith("l") ? " p=1" : "";
            int size = word.length();
            fault(word + " 1" + tail, -1);
            fault(word + "1" + tail, size);
            fault(word + "  1" + tail, size + 1);
            fault(word + "\t1" + tail, size);
            fault(" " + word + " 1" + tail, 0);
            fault(word + " 1" + tail + " ", size + 2 + tail.length());
        }
        fault("loud 1p=1", 6);
        fault("loud 1  p=1", 7);
        fault("loud 12 p=1", -1);
        fault("loud 12p=1", 7);
        fault("loud 12  p=1", 8);
        fault("loud p=1", 5);
        fault("loud 1", 6);
        fault("speed 1 p=1", 7);
        fault("beat 1 p=1", 6);
        fault("step 1 p=1", 6);
        for (String text : new String[] {"p =1", "p= 1", "! p=1", "( p=1)", "(p=1 )", "p=1 &p=1", "p=1& p=1", "p=1 |p=1", "p=1| p=1"}) {
            fault("late 1 " + text, 7 + text.indexOf(' '));
        }
    }

    private static void digits() {
        Edges.says("n 1 or 2 digits, no 0 ahead of another");
        for (String word : WORDS) {
            String tail = word.startsWith("l") ? " p=1" : "";
            int at = word.length() + 1;
            for (String n : new String[] {"0", "1", "9", "10", "90", "99"}) fault(word + " " + n + tail, -1);
            for (String n : new String[] {"00", "01", "09", "000"}) fault(word + " " + n + tail, at + 1);
            for (String n : new String[] {"100", "999", "120"}) fault(word + " " + n + tail, at + 2);
            for (String n : new String[] {"-1", "+1", "x", ".5", "/", ":", " 1"}) fault(word + " " + n + tail, at);
            fault(word + " ", at);
            fault(word + " 1x" + tail, at + 1);
        }
        Edges.says("a number likewise");
        for (String n : new String[] {"0", "1", "9", "10", "90", "99"}) fault("late 1 p=" + n, -1);
        for (String n : new String[] {"00", "01", "09", "000"}) fault("late 1 p=" + n, 10);
        for (String n : new String[] {"100", "999"}) fault("late 1 p=" + n, 11);
        for (String n : new String[] {"-1", "x", "/", ":", "v"}) fault("late 1 p=" + n, 9);
        fault("late 1 p=", 9);
        Edges.due("SPEED 0", Edges.band("speed 0").told(0), 0);
        Edges.due("SPEED 9", Edges.band("speed 9").told(0), 9);
        Edges.due("SPEED 10", Edges.band("speed 10").told(0), 10);
        Edges.due("SPEED 99", Edges.band("speed 99").told(0), 99);
    }

    private static void lettersOfTests() {
        Edges.says("a TEST: p or r or c or k or v");
        for (int b = 0; b < 256; b++) {
            int place = 7;
            if ("prckv".indexOf(b) >= 0) place = -1;
            // these two open an F, so that it is the = that can't follow
            if (b == '!' || b == '(') place = 8;
            fault("late 1 " + (char) b + "=1", place);
        }
    }

    private static void signsOfTests() {
        Edges.says("one of < = >");
        for (int b = 0; b < 256; b++) fault("late 1 p" + (char) b + "1", b >= '<' && b <= '>' ? -1 : 8);
        fault("late 1 p<=1", 9);
        fault("late 1 p1", 8);
        fault("late 1 1=p", 7);
    }

    /** Ten PLAYERS with all rows, columns, KINDS and vs, by each TEST with numbers on both sides of theirs. */
    private static void everyTest() {
        Edges.says("of a PLAYER p its number, r its row, c its column, k its KIND, v its number v");
        int[] kinds = {0, 1, 2, 3, 4, 5, 6, 0, 3, 6};
        int[] vs = {9, 8, 7, 6, 5, 4, 3, 2, 1, 0};
        int[] dots = {0, 63, 7, 56, 9, 18, 27, 36, 45, 54};
        for (int letter = 0; letter < 5; letter++) {
            for (int n : new int[] {0, 1, 2, 3, 4, 5, 6, 7, 8, 9, 10, 99}) {
                for (char sign : new char[] {'<', '=', '>'}) {
                    FieldBand x = Edges.band("late 1 " + "prckv".charAt(letter) + sign + n);
                    StringBuilder want = new StringBuilder();
                    for (int p = 0; p < 10; p++) {
                        x.player(kinds[p], vs[p], dots[p]);
                        int value = new int[] {p, dots[p] / 8, dots[p] % 8, kinds[p], vs[p]}[letter];
                        boolean holds = sign == '<' ? value < n : sign == '>' ? value > n : value == n;
                        want.append(p == 0 ? "" : " ").append(holds ? 1 : 0);
                    }
                    Edges.due("SLIP by " + "prckv".charAt(letter) + sign + n, Edges.ofAll(x, 4), want.toString());
                }
            }
        }
    }

    /** By number 0 .. 3 of the PLAYER, whether an E holds. */
    private static void holds(String e, String want) {
        Edges.due(e, Edges.ofAll(Edges.row("late 1 " + e, 1, 4), 4), want);
    }

    private static void joined() {
        Edges.says("E: T, or T|E. T: F, or F&T. F: !F, (E), or a TEST");
        holds("p=0", "1 0 0 0");
        holds("p=0|p=1", "1 1 0 0");
        holds("p>0&p<3", "0 1 1 0");
        holds("p=0|p=1&p=2", "1 0 0 0");
        holds("p=1&p=2|p=0", "1 0 0 0");
        holds("(p=0|p=1)&p=1", "0 1 0 0");
        holds("p=1&(p=0|p=1)", "0 1 0 0");
        holds("p=0|p=1|p=2", "1 1 1 0");
        holds("p>0&p>1&p>2", "0 0 0 1");
        holds("p=0&p=0|p=3&p=3", "1 0 0 1");
        holds("!p=0", "0 1 1 1");
        holds("!!p=0", "1 0 0 0");
        holds("!p=0&p<2", "0 1 0 0");
        holds("!p=0|p=0", "1 1 1 1");
        holds("!(p=0|p=1)", "0 0 1 1");
        holds("!(p=0&p=1)", "1 1 1 1");
        holds("p<2&!p=0", "0 1 0 0");
        holds("((p=0)|((p=3)))", "1 0 0 1");
        holds("p=0|!(p<2|(p=2&!v=9))", "1 0 0 1");
        holds("p=0|(p=1|(p=2|(p=3|(p=9|(p=8)))))", "1 1 1 1");
        holds("p<9&(p<8&(p<7&(p<6&(p<5&(p>1)))))", "0 0 1 1");
        holds("p=9|p<3&(p=9|p<3&(p=9|p<3&(p=9|p<3&(p=9|p<3&(p=9|p<3&p>0)))))", "0 1 1 0");
        for (String text : new String[] {"&p=1", "|p=1", ")", "=1", "1"}) fault("late 1 " + text, 7);
        for (String text : new String[] {"p=1p=1", "p=1(p=1)", "p=1!p=1", "p=1)"}) fault("late 1 " + text, 10);
        for (String text : new String[] {"p=1&&p=1", "p=1&|p=1", "p=1||p=1", "p=1|&p=1", "p=1&)", "p=1|;"}) fault("late 1 " + text, 11);
        for (String text : new String[] {"()", "(&p=1)", "!)", "!&p=1", "!;", "(;"}) fault("late 1 " + text, 8);
        for (String text : new String[] {"(p=1", "(p=1;", "(p=1!", "(p=1("}) fault("late 1 " + text, 11);
        for (String text : new String[] {"(p=1))", "(p=1)(p=1)", "(p=1)p=1", "(p=1)1", "(p=1)!p=1"}) fault("late 1 " + text, 12);
    }

    /** All rows of so many signs ! and (, by the bits of a number. */
    private static String signs(int bits, int size) {
        StringBuilder text = new StringBuilder();
        for (int i = 0; i < size; i++) text.append((bits >> i & 1) == 1 ? '!' : '(');
        return text.toString();
    }

    private static void openSigns() {
        Edges.says("At most 5 of ! and ( are open");
        for (int size = 0; size <= 5; size++) {
            for (int bits = 0; bits < 1 << size; bits++) {
                int nots = Integer.bitCount(bits);
                holds(signs(bits, size) + "p=0" + repeat(")", size - nots), nots % 2 == 0 ? "1 0 0 0" : "0 1 1 1");
            }
        }
        for (int bits = 0; bits < 1 << 6; bits++) {
            fault("late 1 " + signs(bits, 6) + "p=0" + repeat(")", 6 - Integer.bitCount(bits)), 12);
        }
    }

    private static void openTill() {
        Edges.says("a ( till its ) , a ! till its F ends");
        fault("late 1 (((((p=1)))))&(((((p=1)))))|(((((p=1)))))", -1);
        fault("late 1 !!!!!p=1&!!!!!p=1|!!!!!p=1", -1);
        fault("late 1 !!!!!p=1;late 1 !!!!!p=1;late 1 (((((p=1)))))", -1);
        fault("late 1 ((((!p=1&!p=1|!p=1))))", -1);
        fault("late 1 ((((p=1&(p=1)|(p=1)))))", -1);
        fault("late 1 !(p=1)&(((((p=1)))))", -1);
        fault("late 1 !!!!(p=1)&!!!!(p=1)", -1);
        fault("late 1 !((p=1)&!((p=1)))", -1);
        // the ! ahead of a ( is open till the )
        fault("late 1 !(((!p=1&!p=1)))", -1);
        fault("late 1 !(((!p=1&!!p=1)))", 17);
        fault("late 1 !((((p=1&!p=1))))", 16);
        fault("late 1 !((((p=1&(p=1)))))", 16);
        fault("late 1 (((((p=1&!p=1)))))", 16);
        fault("late 1 (((((p=1|(p=1))))))", 16);
        fault("late 1 (((((p=1))))&!!!!!p=1)", 24);
        fault("late 1 (((((p=1))))&!!!!p=1)", -1);
        fault("late 1 ((p=1)&(((!p=1))))", -1);
        fault("late 1 ((p=1)&(((!!p=1))))", 18);
        fault("late 1 !!!!!p=1&!!!!!!p=1", 21);
    }

    private static void faultOfPrefixes() {
        Edges.says("(the size, if it ends too early)");
        String text = "late 12 !(p=1|k>23)&v<4;speed 10;loud 0 ((r=1));step 99;beat 7";
        String shows = "late 12 !(p=1|k>23)&v<4 / late 12 !(p=1|k>23) / late 12 !(p=1|k>23)&v<4;speed 1 / "
            + "late 12 !(p=1|k>23)&v<4;speed 10 / late 12 !(p=1|k>23)&v<4;speed 10;loud 0 ((r=1)) / "
            + "late 12 !(p=1|k>23)&v<4;speed 10;loud 0 ((r=1));step 9 / "
            + "late 12 !(p=1|k>23)&v<4;speed 10;loud 0 ((r=1));step 99 / " + text + " / ";
        for (int size = 0; size <= text.length(); size++) {
            String prefix = text.substring(0, size);
            boolean isShow = size > 0 && (" / " + shows).contains(" / " + prefix + " / ");
            fault(prefix, isShow ? -1 : size);
        }
        for (String word : WORDS) {
            for (int size = 0; size <= word.length(); size++) fault(word.substring(0, size), size);
        }
    }

    private static void faultOfAnyByte() {
        Edges.says("FAULT: the place of the first byte with which no SHOW can go on");
        String text = "loud 12 !(p=1|k>2)&v<4;step 10";
        // these can stand nowhere in a SHOW, so that each place is the first one
        for (char never : new char[] {0, '\t', '\n', 'x', 'L', '~', '"', '-', (char) 128, (char) 233, (char) 255}) {
            for (int at = 0; at < text.length(); at++) fault(text.substring(0, at) + never + text.substring(at + 1), at);
            fault(text + never, text.length());
        }
        for (int at = 0; at <= text.length(); at++) {
            for (int b = 32; b < 127; b++) {
                String other = text.substring(0, at) + (char) b + text.substring(Math.min(text.length(), at + 1));
                fault(other, Oracle.fault(other));
            }
        }
        fault("spent 1", 3);
        fault("steep 1", 3);
        fault("stp 1", 2);
        fault("lade 1 p=1", 2);
        fault("loat 1 p=1", 2);
        fault("laud 1 p=1", 2);
        fault("lloud 1 p=1", 1);
        fault("bead 1", 3);
        fault("LOUD 1 p=1", 0);
        fault("loud 1 p=1;lout 1 p=1", 14);
    }

    private static void showsAtMost() {
        Edges.says("SHOWS are numbered from 0 on, 5 at most; the newest one holds");
        FieldBand x = new FieldBand();
        for (int i = 0; i < 5; i++) {
            Edges.due("SHOWS", x.count(1), i);
            Edges.due("show " + i, Edges.show(x, "speed " + (10 + i)), i);
            Edges.due("the newest one holds", x.told(0), 10 + i);
            if (i < 4) Edges.due("with a FAULT", Edges.show(x, "speed x"), -16);
            Edges.due("the one that held holds", x.told(0), 10 + i);
            Edges.due("THE TAPE is empty then", x.count(4), 0);
        }
        Edges.says("FULL (THE TAPE stays)");
        Edges.due("a sixth without bytes", x.show(), Edges.FULL);
        Edges.due("the sixth", Edges.show(x, "speed 9"), Edges.FULL);
        Edges.due("the sixth again", x.show(), Edges.FULL);
        Edges.due("THE TAPE stays", x.count(4), 7);
        Edges.due("SHOWS", x.count(1), 5);
        Edges.due("the fifth holds", x.told(0), 14);
        Edges.due("with a FAULT", Edges.show(x, "x"), Edges.FULL);
        Edges.due("THE TAPE stays", x.count(4), 8);
        // what stays on THE TAPE is what was fed
        x = Edges.band("speed 1");
        x.image();
        for (int i = 1; i < 5; i++) Edges.due("show " + i, Edges.show(x, "speed 2"), i);
        Edges.due("FULL", Edges.show(x, "speed 9"), Edges.FULL);
        x.undo();
        Edges.due("four are free", Edges.show(x, "speed 3"), 1);
    }

    private static void emptyTape() {
        Edges.says("(the size, if it ends too early): THE TAPE is empty");
        FieldBand x = new FieldBand();
        Edges.due("show()", x.show(), -10);
        Edges.due("SHOWS", x.count(1), 0);
        Edges.due("show", Edges.show(x, "step 1"), 0);
        Edges.due("THE TAPE is empty then", x.show(), -10);
        Edges.due("the one that held holds", x.told(2), 1);
        Edges.due("SHOWS", x.count(1), 1);
    }

    private static void nothingIsLeft() {
        Edges.says("-10 less the FAULT (the one that held holds)");
        String all = "speed 9;beat 9;step 9;loud 9 p<9;late 9 p<9";
        FieldBand x = Edges.row("", 1, 1);
        for (int round = 0; round < 2; round++) {
            // once behind a text with a FAULT, once behind a SHOW that is undone
            if (round == 0) Edges.due("with a FAULT", Edges.show(x, all + ";"), -10 - 44);
            x.image();
            if (round == 1) Edges.due("show", Edges.show(x, all), 0);
            x.undo();
            Edges.due("SPEED without", x.told(0), 3);
            Edges.due("show", Edges.show(x, "late 4 p=9;loud 5 p=0"), 0);
            Edges.due("SPEED", x.told(0), 3);
            Edges.due("BEAT", x.told(1), 50);
            Edges.due("STEP", x.told(2), 2);
            Edges.due("LOUD", x.of(0, 3), 6);
            Edges.due("SLIP", x.of(0, 4), 0);
            x.undo();
        }
    }

    private static void withoutShow() {
        Edges.says("without one there are no CLAUSES");
        FieldBand x = Edges.band("", 0, 0, 60, 1, 1, 0, 2, 2, 7, 3, 3, 5, 4, 0, 6, 5, 5, 8, 6, 0, 9);
        Edges.due("LOUD", Edges.ofAll(x, 3), "1 1 1 1 1 1 1");
        Edges.due("SLIP", Edges.ofAll(x, 4), "0 0 0 0 0 0 0");
        Edges.says("3 without; 50 without; 2 without");
        for (int shows = 0; shows < 3; shows++) {
            if (shows == 1) Edges.show(x, "loud 5 p=9");
            if (shows == 2) Edges.show(x, "late 5 p=9");
            Edges.due("SPEED", x.told(0), 3);
            Edges.due("BEAT", x.told(1), 50);
            Edges.due("STEP", x.told(2), 2);
        }
        // a SHOW takes nothing from the one that held
        Edges.due("all three", Edges.show(x, "speed 1;beat 1;step 1;loud 1 p<9;late 1 p<9"), 2);
        Edges.due("SPEED alone", Edges.show(x, "speed 9"), 3);
        Edges.due("SPEED", x.told(0), 9);
        Edges.due("BEAT", x.told(1), 50);
        Edges.due("STEP", x.told(2), 2);
        Edges.due("LOUD", Edges.ofAll(x, 3), "1 1 1 1 1 1 1");
        Edges.due("SLIP", Edges.ofAll(x, 4), "0 0 0 0 0 0 0");
        Edges.due("BEAT and STEP", Edges.show(x, "beat 8;step 7"), 4);
        Edges.due("SPEED", x.told(0), 3);
        Edges.due("BEAT", x.told(1), 8);
        Edges.due("STEP", x.told(2), 7);
    }

    private static void lastNumbers() {
        Edges.says("the last n");
        FieldBand x = Edges.band("speed 9;beat 8;step 7;speed 1;beat 2;step 3;speed 4;late 1 p=0;beat 5;step 6");
        Edges.due("SPEED", x.told(0), 4);
        Edges.due("BEAT", x.told(1), 5);
        Edges.due("STEP", x.told(2), 6);
        Edges.says("BEAT (0 as 1), STEP (0 as 1)");
        x = Edges.band("speed 9;beat 9;step 9;speed 0;beat 0;step 0");
        Edges.due("SPEED 0", x.told(0), 0);
        Edges.due("BEAT 0", x.told(1), 1);
        Edges.due("STEP 0", x.told(2), 1);
        x = Edges.band("speed 0;beat 0;step 0;speed 99;beat 99;step 99");
        Edges.due("SPEED 99", x.told(0), 99);
        Edges.due("BEAT 99", x.told(1), 99);
        Edges.due("STEP 99", x.told(2), 99);
        x = Edges.band("speed 1;beat 1;step 1");
        Edges.due("SPEED 1", x.told(0), 1);
        Edges.due("BEAT 1", x.told(1), 1);
        Edges.due("STEP 1", x.told(2), 1);
    }

    private static void together() {
        Edges.says("LOUD: 1 and the n of all loud whose E holds, together; SLIP: the n of all late whose E holds, together");
        String tenLoud = repeat("loud 99 p<1;", 9) + "loud 99 p<1";
        Edges.due("most LOUD", Edges.ofAll(Edges.row(tenLoud, 1, 2), 3), "991 1");
        Edges.due("LOUD is no SLIP", Edges.ofAll(Edges.row(tenLoud, 1, 2), 4), "0 0");
        String tenLate = repeat("late 99 p<1;", 9) + "late 99 p<1";
        Edges.due("most SLIP", Edges.ofAll(Edges.row(tenLate, 1, 2), 4), "990 0");
        Edges.due("SLIP is not LOUD", Edges.ofAll(Edges.row(tenLate, 1, 2), 3), "1 1");
        Edges.due("loud 0", Edges.ofAll(Edges.row("loud 0 p<9;late 0 p<9", 1, 2), 3), "1 1");
        Edges.due("late 0", Edges.ofAll(Edges.row("loud 0 p<9;late 0 p<9", 1, 2), 4), "0 0");
        Edges.due("alike twice", Edges.ofAll(Edges.row("loud 7 p=1;loud 7 p=1", 1, 2), 3), "1 15");
    }

    private static void told() {
        Edges.says("Of the SHOW what 0 SPEED, 1 BEAT, 2 STEP. NONE.");
        for (int what : Edges.beside(2)) {
            Edges.due("told(" + what + ")", new FieldBand().told(what), Edges.NONE);
            Edges.due("told(" + what + ")", Edges.band("speed 7").told(what), Edges.NONE);
        }
    }
}
