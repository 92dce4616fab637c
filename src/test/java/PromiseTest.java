/** Each promise by ordinary inputs, by the edges that the document names, and by wrong inputs. */
public final class PromiseTest {
    private static final int NONE = -1;
    private static final int UNKNOWN = -2;
    private static final int OUTSIDE = -3;
    private static final int NOT = -4;
    private static final int FULL = -5;
    private static final int SPENT = -6;
    private static final int[] WRONG_READERS = {-1, 2, 3, Integer.MIN_VALUE, Integer.MAX_VALUE};
    private static final String MATCHING = "0 a to 0 put 0;0 b to 0 put 1;0 e take 0 to 0;0 f take 1 to 0";

    private static final Check check = new Check("PromiseTest");

    public static void main(String[] args) {
        constants();
        newObject();
        reader();
        write();
        erase();
        fault();
        faultTokens();
        faultSixteen();
        moves();
        has();
        drop();
        letter();
        row();
        partner();
        depth();
        run();
        runMany();
        between();
        places();
        alike();
        shortest();
        shortestFar();
        first();
        many();
        of();
        watch();
        watchDeep();
        compare();
        partedAndBoth();
        count();
        check.end();
    }

    private static void constants() {
        check.due("NONE", NestReaders.NONE, NONE);
        check.due("UNKNOWN", NestReaders.UNKNOWN, UNKNOWN);
        check.due("OUTSIDE", NestReaders.OUTSIDE, OUTSIDE);
        check.due("NOT", NestReaders.NOT, NOT);
        check.due("FULL", NestReaders.FULL, FULL);
        check.due("SPENT", NestReaders.SPENT, SPENT);
    }

    /** A reader that takes rows in which each letter closes its like; no row else. */
    private static NestReaders matching() {
        NestReaders x = new NestReaders();
        x.reader(0, 1, 2, 1);
        Check.tell(x, MATCHING);
        x.moves(0);
        return x;
    }

    private static void newObject() {
        NestReaders x = new NestReaders();
        for (int what = 0; what < 4; what++) {
            check.due("1 count " + what, x.count(what), 0);
        }
        for (int r = 0; r < 2; r++) {
            check.due("1 one state", x.has(r, 0, 2, 0, 0), 0);
            check.due("1 no second state", x.has(r, 1, 2, 0, 0), UNKNOWN);
            check.due("1 one mark", x.has(r, 0, 0, 0, 0), 0);
            check.due("1 no second mark", x.has(r, 0, 0, 1, 0), UNKNOWN);
            check.due("1 takes nothing", x.run(r, 0, 1), 0);
            check.due("1 begins in state 0", x.run(r, 0, 0), 1);
        }
        NestReaders other = new NestReaders();
        x.letter(3);
        check.due("1 objects stand alone", other.count(0), 0);
    }

    private static void reader() {
        NestReaders x = matching();
        x.letter(2);
        check.due("2 again", x.reader(0, 3, 2, 7), 1);
        check.due("2 without moves", x.count(2), 0);
        check.due("2 the row stays", x.count(0), 1);
        check.due("2 states", x.has(0, 2, 2, 0, 2), 0);
        check.due("2 takes", x.run(0, 0, 1), 1);
        check.due("2 takes none", x.reader(0, 1, 1, 0), 1);
        check.due("2 takes none then", x.run(0, 0, 1), 0);
        int[][] outside = {{0, 1, 0}, {4, 1, 0}, {-1, 1, 0}, {1, 0, 0}, {1, 3, 0}, {1, -1, 0}, {1, 1, 2}, {1, 1, -1},
            {2, 1, 4}, {3, 2, 8}, {Integer.MIN_VALUE, 1, 0}, {1, Integer.MAX_VALUE, 0}, {3, 2, Integer.MIN_VALUE}};
        for (int[] a : outside) {
            check.due("2 outside", x.reader(1, a[0], a[1], a[2]), OUTSIDE);
        }
        for (int r : WRONG_READERS) {
            check.due("2 unknown", x.reader(r, 1, 1, 0), UNKNOWN);
            check.due("2 unknown ahead", x.reader(r, 0, 1, 0), UNKNOWN);
        }
        NestReaders y = matching();
        y.reader(0, 1, 2, 2);
        check.due("2 refused: moves stay", y.count(2), 4);
        y.reader(1, 2, 2, 2);
        check.due("2 the other stays", y.count(2), 4);
        check.due("2 the text stays", writeThenReader(), 3);
    }

    private static int writeThenReader() {
        NestReaders x = new NestReaders();
        Check.tell(x, "0 c");
        x.reader(0, 2, 2, 2);
        return x.count(1);
    }

    private static void write() {
        NestReaders x = new NestReaders();
        check.due("3 one", x.write('0', 1), 1);
        check.due("3 more bytes are not looked at", x.write(Check.packed(" c to 0"), 2), 3);
        check.due("3 rest", x.write(Check.packed(" to 0"), 5), 8);
        check.due("3 read", x.fault(0), NONE);
        for (int n : new int[] {0, 9, -1, Integer.MIN_VALUE, Integer.MAX_VALUE}) {
            check.due("3 outside", x.write(0, n), OUTSIDE);
        }
        check.due("3 refused", x.count(1), 8);
        for (int i = 2; i <= 19; i++) {
            check.due("3 eight", x.write(-1L, 8), 8 * i);
        }
        check.due("3 five", x.write(0, 5), 157);
        check.due("3 four are too many", x.write(0, 4), FULL);
        check.due("3 outside ahead of full", x.write(0, 9), OUTSIDE);
        check.due("3 three", x.write(0, 3), 160);
        check.due("3 full", x.write(0, 1), FULL);
        check.due("3 stays", x.count(1), 160);
        check.due("3 high bytes are tokens", x.fault(0), 8);
    }

    private static void erase() {
        NestReaders x = new NestReaders();
        check.due("4 empty", x.erase(), 0);
        Check.tell(x, "0 c to 0;0");
        check.due("4 had", x.erase(), 10);
        check.due("4 has", x.count(1), 0);
        Check.tell(x, "0 d to 0");
        check.due("4 anew", x.moves(0), 1);
        check.due("4 not what was", x.has(0, 0, 2, 0, 0), 0);
    }

    private static void faultIs(int states, int marks, String text, int want) {
        NestReaders x = new NestReaders();
        x.reader(1, states, marks, 0);
        Check.tell(x, text);
        check.due("5 fault of \"" + text + "\"", x.fault(1), want);
        check.due("5 the text stays", x.count(1), text.length());
        check.due("5 no moves", x.count(3), 0);
        check.due("6 moves of \"" + text + "\"", x.moves(1) == NOT ? 1 : 0, want == NONE ? 0 : 1);
        check.due("6 text after \"" + text + "\"", x.count(1), want == NONE ? 0 : text.length());
    }

    private static void fault() {
        faultIs(1, 1, "", 0);
        faultIs(1, 1, "   ", 3);
        faultIs(1, 1, "0", 1);
        faultIs(1, 1, "0 c", 3);
        faultIs(1, 1, "0 c to", 6);
        faultIs(1, 1, "0 c to 0", NONE);
        faultIs(1, 1, "0 d to 0", NONE);
        faultIs(1, 1, "0 a to 0 put 0", NONE);
        faultIs(1, 1, "0 b to 0 put 0", NONE);
        faultIs(1, 1, "0 e take 0 to 0", NONE);
        faultIs(1, 1, "0 f take none to 0", NONE);
        faultIs(1, 1, "0 a to 0", 8);
        faultIs(1, 1, "0 a to 0  ", 10);
        faultIs(1, 1, "0 a to 0 put", 12);
        faultIs(1, 1, "0 e take", 8);
        faultIs(1, 1, "0 e take none", 13);
        faultIs(1, 1, "0 c to 0;", 9);
        faultIs(1, 1, "0 c to 0; ", 10);
        faultIs(1, 1, ";", 0);
        faultIs(1, 1, " ;0 c to 0", 1);
        faultIs(1, 1, "0 c to 0;;0 c to 0", 9);
        faultIs(1, 1, "0 c to 0 0 d to 0", 9);
        faultIs(3, 2, "2 c to 2;2 a to 2 put 1;2 e take 1 to 2", NONE);
        faultIs(2, 2, "1 c to 2", 7);
        faultIs(2, 2, "2 c to 1", 0);
        faultIs(2, 1, "0 a to 1 put 1", 13);
        faultIs(2, 1, "0 e take 1 to 1", 9);
        faultIs(2, 2, "0 e take 2 to 1", 9);
        NestReaders x = new NestReaders();
        for (int r : WRONG_READERS) {
            check.due("5 unknown", x.fault(r), UNKNOWN);
        }
    }

    private static void faultTokens() {
        faultIs(1, 1, "  0   c  to    0  ", NONE);
        faultIs(1, 1, "0c to0", NONE);
        faultIs(1, 1, "0a to0put 0;0e take0to 0", NONE);
        faultIs(1, 1, "0 cto 0", 2);
        faultIs(1, 1, "00 c to 0", 0);
        faultIs(1, 1, "0 c to 00", 7);
        faultIs(1, 1, "0 cc to 0", 2);
        faultIs(1, 1, "0 g to 0", 2);
        faultIs(1, 1, "0 C to 0", 2);
        faultIs(1, 1, "0 0 to 0", 2);
        faultIs(1, 1, "c to 0", 0);
        faultIs(1, 1, "0 c tot 0", 4);
        faultIs(1, 1, "0 c t o 0", 4);
        faultIs(1, 1, "0 c to to", 7);
        faultIs(1, 1, "0 c put 0", 4);
        faultIs(1, 1, "0 c to 0 put 0", 9);
        faultIs(1, 1, "0 c take 0 to 0", 4);
        faultIs(1, 1, "0 a to 0 put none", 13);
        faultIs(1, 1, "0 a take 0 to 0", 4);
        faultIs(1, 1, "0 e to 0", 4);
        faultIs(1, 1, "0 e take nones to 0", 9);
        faultIs(1, 1, "0 e take to 0", 9);
        faultIs(1, 1, "0 e take 0 to 0 put 0", 16);
        faultIs(1, 1, "0 c to 0,0 c to 0", 8);
        faultIs(1, 1, "0 c to 0\n", 8);
        faultIs(1, 1, "0\tc to 0", 1);
        faultIs(1, 1, "0 c to " + (char) 0, 7);
        faultIs(1, 1, "0 c to 0" + (char) 255, 8);
        faultIs(1, 1, "0 " + (char) 225 + " to 0", 2);
        faultIs(1, 1, "-1 c to 0", 0);
        faultIs(1, 1, "0 c to 0/", 8);
        faultIs(1, 1, "0 `", 2);
        faultIs(1, 1, "0 {", 2);
        faultIs(1, 1, "0 cz to 0", 2);
        faultIs(1, 1, "0 ca to 0", 2);
        faultIs(1, 1, "0 c to 09", 7);
        faultIs(1, 1, "0 c to 0:", 8);
        faultIs(1, 1, "9 c to 0", 0);
    }

    private static void faultSixteen() {
        StringBuilder text = new StringBuilder("0c to0");
        for (int i = 1; i < 16; i++) {
            text.append(";0c to0");
        }
        faultIs(1, 1, text.toString(), NONE);
        faultIs(1, 1, text + " ;0c to0", text.length() + 1);
        faultIs(1, 1, text + ";", text.length());
        faultIs(1, 1, text + " 0", text.length() + 1);
    }

    private static void moves() {
        NestReaders x = new NestReaders();
        x.reader(1, 2, 2, 0);
        Check.tell(x, "0 c to 1;0 c to 1; 1 e take none to 0");
        check.due("6 a set", x.moves(1), 2);
        check.due("6 told", x.has(1, 0, 2, 0, 1), 1);
        check.due("6 nothing", x.has(1, 1, 4, -1, 0), 1);
        check.due("6 the other reader has none", x.count(2), 0);
        check.due("6 no text", x.count(1), 0);
        check.due("6 an empty text", x.moves(1), NOT);
        Check.tell(x, "0 c to 1;1 b to 0 put 1");
        check.due("6 more", x.moves(1), 3);
        Check.tell(x, "0 d to 1;0 c to 2");
        check.due("6 a fault", x.moves(1), NOT);
        check.due("6 nothing of it", x.has(1, 0, 3, 0, 1), 0);
        check.due("6 the text is still there", x.count(1), 17);
        check.due("6 its fault", x.fault(1), 16);
        for (int r : WRONG_READERS) {
            check.due("6 unknown ahead", x.moves(r), UNKNOWN);
        }
        x.reader(1, 3, 1, 0);
        check.due("6 can stand now", x.moves(1), 2);
    }

    private static void has() {
        NestReaders x = new NestReaders();
        x.reader(0, 3, 2, 0);
        Check.tell(x, "0 a to 1 put 1;1 d to 2;2 f take 0 to 0;2 f take none to 1");
        x.moves(0);
        check.due("7 opens", x.has(0, 0, 0, 1, 1), 1);
        check.due("7 another mark", x.has(0, 0, 0, 0, 1), 0);
        check.due("7 another letter", x.has(0, 0, 1, 1, 1), 0);
        check.due("7 another end", x.has(0, 0, 0, 1, 2), 0);
        check.due("7 another begin", x.has(0, 1, 0, 1, 1), 0);
        check.due("7 plain", x.has(0, 1, 3, 0, 2), 1);
        check.due("7 closes", x.has(0, 2, 5, 0, 0), 1);
        check.due("7 nothing", x.has(0, 2, 5, -1, 1), 1);
        check.due("7 nothing, another end", x.has(0, 2, 5, -1, 0), 0);
        int[][] unknown = {{0, 0, -1, 0}, {0, 1, -1, 0}, {0, 0, 2, 0}, {0, 2, 1, 0}, {0, 3, -1, 0}, {0, 4, 2, 0},
            {0, 5, -2, 0}, {3, 2, 0, 0}, {-1, 2, 0, 0}, {0, 2, 0, 3}, {0, 2, 0, -1}, {0, 6, 0, 0}, {0, -1, 0, 0},
            {0, Integer.MAX_VALUE, 0, 0}, {Integer.MIN_VALUE, 0, 0, 0}, {0, 0, Integer.MIN_VALUE, 0}};
        for (int[] a : unknown) {
            check.due("7 unknown " + a[0] + a[1] + a[2] + a[3], x.has(0, a[0], a[1], a[2], a[3]), UNKNOWN);
            check.due("8 unknown " + a[0] + a[1] + a[2] + a[3], x.drop(0, a[0], a[1], a[2], a[3]), UNKNOWN);
        }
        for (int r : WRONG_READERS) {
            check.due("7 unknown", x.has(r, 0, 0, 0, 0), UNKNOWN);
            check.due("8 unknown", x.drop(r, 0, 0, 0, 0), UNKNOWN);
        }
        check.due("8 all are left", x.count(2), 4);
    }

    private static void drop() {
        NestReaders x = matching();
        Check.tell(x, "0 e take none to 0");
        x.moves(0);
        check.due("8 nothing", x.drop(0, 0, 4, -1, 0), 4);
        check.due("8 the like stays", x.has(0, 0, 4, 0, 0), 1);
        check.due("8 again", x.drop(0, 0, 4, -1, 0), UNKNOWN);
        check.due("8 opens", x.drop(0, 0, 0, 0, 0), 3);
        check.due("8 gone", x.has(0, 0, 0, 0, 0), 0);
        check.due("8 no such", x.drop(1, 0, 0, 0, 0), UNKNOWN);
        x.row(0, 1);
        check.due("8 no run any more", x.run(0, 1, 0), 0);
    }

    private static void letter() {
        NestReaders x = new NestReaders();
        for (int i = 1; i <= 24; i++) {
            check.due("9 letter", x.letter(i % 6), i);
        }
        check.due("9 full", x.letter(0), FULL);
        for (int letter : new int[] {6, -1, 7, Integer.MIN_VALUE, Integer.MAX_VALUE}) {
            check.due("9 unknown ahead of full", x.letter(letter), UNKNOWN);
        }
        check.due("9 stays", x.count(0), 24);
        x.row(0, 20);
        for (int i = 21; i <= 24; i++) {
            check.due("9 behind a row", x.letter(5), i);
        }
        check.due("9 full again", x.letter(5), FULL);
    }

    private static void row() {
        NestReaders x = new NestReaders();
        check.due("10 row", x.row(0 | 1 << 3 | 4 << 6 | 5 << 9, 4), 1);
        check.due("10 length", x.count(0), 4);
        check.due("10 letters", x.partner(0), 3);
        long twenty = 0;
        for (int i = 0; i < 20; i++) {
            twenty |= (i < 10 ? 0L : 5L) << 3 * i;
        }
        check.due("10 twenty", x.row(twenty, 20), 1);
        check.due("10 twenty letters", x.count(0), 20);
        check.due("10 the last one", x.partner(19), 0);
        check.due("10 more than n are not looked at", x.row(7L << 6 | 2 << 3 | 2, 2), 1);
        check.due("10 letter 6", x.row(6L << 3, 2), UNKNOWN);
        check.due("10 the first is 6", x.row(6, 1), UNKNOWN);
        check.due("10 the first is 7", x.row(2 << 3 | 7, 2), UNKNOWN);
        check.due("10 letter 7", x.row(7L << 57, 20), UNKNOWN);
        check.due("10 all ones", x.row(-1L, 20), UNKNOWN);
        check.due("10 stays", x.count(0), 2);
        for (int n : new int[] {-1, 21, Integer.MIN_VALUE, Integer.MAX_VALUE}) {
            check.due("10 outside ahead", x.row(-1L, n), OUTSIDE);
        }
        check.due("10 stays so", x.count(0), 2);
        check.due("10 none", x.row(-1L, 0), 1);
        check.due("10 no letters", x.count(0), 0);
    }

    private static void partner() {
        NestReaders x = new NestReaders();
        check.due("11 no letters", x.partner(0), OUTSIDE);
        Check.row(x, "40125424053");
        int[] partner = {-1, 5, 4, -1, 2, 1, -1, -1, 9, 8, -1};
        for (int i = 0; i < partner.length; i++) {
            check.due("11 partner " + i, x.partner(i), partner[i]);
        }
        for (int i : new int[] {-1, 11, Integer.MIN_VALUE, Integer.MAX_VALUE}) {
            check.due("11 outside", x.partner(i), OUTSIDE);
        }
        Check.row(x, "0000");
        check.due("11 open", x.partner(2), NONE);
        x.letter(5);
        check.due("11 partner then", x.partner(3), 4);
    }

    private static void depth() {
        NestReaders x = new NestReaders();
        check.due("12 nothing", x.depth(0), 0);
        check.due("12 outside", x.depth(1), OUTSIDE);
        Check.row(x, "4012542401");
        int[] depth = {0, 0, 1, 2, 2, 1, 0, 0, 0, 1, 2};
        for (int k = 0; k < depth.length; k++) {
            check.due("12 depth " + k, x.depth(k), depth[k]);
        }
        for (int k : new int[] {-1, 11, Integer.MIN_VALUE, Integer.MAX_VALUE}) {
            check.due("12 outside", x.depth(k), OUTSIDE);
        }
        Check.row(x, "000000000000111111111111");
        check.due("12 deepest", x.depth(24), 24);
    }

    private static void run() {
        NestReaders x = matching();
        Check.row(x, "0154");
        check.due("13 like by like", x.run(0, 4, 1), 1);
        check.due("13 half open", x.run(0, 2, 1), 1);
        Check.row(x, "0145");
        check.due("13 unlike", x.run(0, 3, 1), 0);
        check.due("13 no state", x.run(0, 4, 0), 0);
        check.due("13 no runs", x.run(0, 4, 2), 0);
        Check.row(x, "4");
        check.due("13 finds nothing", x.run(0, 1, 0), 0);
        Check.tell(x, "0 e take none to 0");
        x.moves(0);
        check.due("13 nothing is found", x.run(0, 1, 0), 1);
        Check.row(x, "04");
        check.due("13 a mark is not nothing", x.run(0, 2, 2), 1);
        x.drop(0, 0, 4, 0, 0);
        check.due("13 nothing is not a mark", x.run(0, 2, 2), 0);
        for (int r : WRONG_READERS) {
            check.due("13 unknown ahead", x.run(r, -1, 7), UNKNOWN);
        }
        for (int k : new int[] {-1, 3, Integer.MIN_VALUE, Integer.MAX_VALUE}) {
            check.due("13 outside k", x.run(0, k, 0), OUTSIDE);
        }
        for (int what : new int[] {-1, 3, Integer.MIN_VALUE, Integer.MAX_VALUE}) {
            check.due("13 outside what", x.run(0, 1, what), OUTSIDE);
        }
    }

    private static NestReaders everything(int reader) {
        NestReaders x = new NestReaders();
        x.reader(reader, 3, 2, 7);
        for (int from = 0; from < 3; from++) {
            for (int to = 0; to < 3; to++) {
                String f = from + " ";
                String t = " to " + to;
                Check.tell(x, f + "a" + t + " put 0;" + f + "a" + t + " put 1;" + f + "b" + t + " put 0;" + f + "b" + t
                        + " put 1;" + f + "c" + t + ";" + f + "d" + t + ";" + f + "e take 0" + t);
                x.moves(reader);
                Check.tell(x, f + "e take 1" + t + ";" + f + "e take none" + t + ";" + f + "f take 0" + t + ";"
                        + f + "f take 1" + t + ";" + f + "f take none" + t);
                x.moves(reader);
            }
        }
        return x;
    }

    private static void runMany() {
        NestReaders x = everything(1);
        check.due("6 all moves", x.count(3), 108);
        Check.row(x, "010101010101010101010101");
        long runs = 1;
        for (int k = 0; k <= 24; k++) {
            check.due("13 runs " + k, x.run(1, k, 2), runs);
            runs = runs * 6 % 1000000007L;
        }
        Check.row(x, "000000000000555555555555");
        runs = 1;
        for (int k = 0; k <= 24; k++) {
            check.due("13 runs back " + k, x.run(1, k, 2), runs);
            runs = runs * (k < 12 ? 6 : 3) % 1000000007L;
        }
        check.due("13 all states", x.run(1, 24, 0), 7);
        check.due("15 all rows do all: few places", x.places(1), 3);
        check.due("19 all rows", x.many(1, 12), 176782322);
        check.due("21 always", x.watch(1, 24), 5);
        check.due("20 the last of all", x.of(1, 5, 7775, 4), 5);
        check.due("20 none behind", x.of(1, 5, 7776, 4), NONE);
    }

    private static void between() {
        NestReaders x = matching();
        check.due("14 no letters", x.between(0), 1);
        Check.row(x, "0154");
        check.due("14 whole", x.between(0), 1);
        Check.row(x, "0155");
        check.due("14 no run", x.between(0), 0);
        Check.row(x, "01554");
        check.due("14 closes nothing", x.between(0), NOT);
        Check.row(x, "015");
        check.due("14 open", x.between(0), NOT);
        check.due("14 unknown", x.between(2), UNKNOWN);
        check.due("14 unknown ahead", x.between(-1), UNKNOWN);
        x.reader(1, 3, 2, 0);
        Check.tell(x, "0 c to 2;2 c to 0;1 c to 0;2 a to 1 put 1;1 e take 1 to 2");
        x.moves(1);
        Check.row(x, "2");
        check.due("14 pairs", x.between(1), 1 << 2 | 1 << 3 | 1 << 6);
        Check.row(x, "204");
        check.due("14 within", x.between(1), 1 << 2);
        Check.row(x, "");
        check.due("14 as it was", x.between(1), 273);
        Check.row(x, "254");
        check.due("14 not whole", x.between(1), NOT);
    }

    private static void places() {
        NestReaders x = new NestReaders();
        for (int r = 0; r < 3; r++) {
            check.due("15 new", x.places(r), 3);
        }
        for (int r : new int[] {-1, 3, Integer.MIN_VALUE, Integer.MAX_VALUE}) {
            check.due("15 unknown", x.places(r), UNKNOWN);
        }
        Check.tell(x, "0 c to 0;0 d to 0");
        x.moves(0);
        check.due("15 more moves, as many", x.places(0), 3);
        check.due("15 the other stays", x.places(1), 3);
        x.reader(0, 3, 2, 1);
        check.due("15 more states", x.places(0), 3);
        NestReaders y = new NestReaders();
        Check.tell(y, "0 a to 0 put 0;0 b to 0 put 0;0 e take none to 0;0 f take none to 0;0 e take 0 to 0;0 f take 0 to 0");
        y.moves(0);
        check.due("15 also what opens behind no run", y.places(0), 3);
        everythingSpent();
    }

    private static void everythingSpent() {
        NestReaders x = spent();
        check.due("15 spent", x.places(0), SPENT);
        check.due("15 not the other", x.places(1), 3);
        check.due("15 both", x.places(2), SPENT);
        check.due("17 spent", x.shortest(0), SPENT);
        check.due("17 not the other", x.shortest(1), NONE);
        check.due("18 spent", x.first(0, 0), SPENT);
        check.due("18 outside ahead", x.first(0, -1), OUTSIDE);
        check.due("19 spent", x.many(0, 0), SPENT);
        check.due("19 outside ahead", x.many(0, 13), OUTSIDE);
        check.due("20 told all the same", x.of(0, 1, 0, 0), 2);
        check.due("21 spent", x.watch(0, 0), SPENT);
        check.due("21 outside ahead", x.watch(0, 1), OUTSIDE);
        check.due("21 not the other", x.watch(1, 0), 2);
        check.due("22 spent", x.compare(0), SPENT);
        check.due("22 outside ahead", x.compare(5), OUTSIDE);
        check.due("23 spent", x.parted(), SPENT);
        check.due("24 spent", x.both(), SPENT);
        x.drop(0, 2, 3, 0, 0);
        x.drop(0, 2, 2, 0, 0);
        check.due("15 not spent any more", x.places(0) > 0 ? 1 : 0, 1);
    }

    /** A reader whose plain letters make all that three states can become. */
    private static NestReaders spent() {
        NestReaders x = new NestReaders();
        x.reader(0, 3, 1, 2);
        Check.tell(x, "0 c to 1;1 c to 2;2 c to 0;0 d to 1;1 d to 0;2 d to 2;2 d to 0;2 e take none to 1");
        x.moves(0);
        return x;
    }

    private static void alike() {
        NestReaders x = matching();
        Check.tell(x, "0 c to 0");
        x.moves(0);
        Check.row(x, "2042133");
        check.due("16 itself", x.alike(0, 3, 3), 1);
        check.due("16 nothing and plain", x.alike(0, 0, 1), 1);
        check.due("16 open: the same come, since", x.alike(0, 1, 2), 1);
        check.due("16 and closed", x.alike(0, 2, 3), 1);
        check.due("16 no run any more", x.alike(0, 4, 6), 0);
        check.due("16 no run, no run", x.alike(0, 6, 7), 1);
        check.due("16 the other has none ahead", x.alike(1, 0, 1), 0);
        check.due("16 of both", x.alike(2, 0, 1), 0);
        check.due("16 both have", x.alike(2, 6, 7), 1);
        Check.row(x, "30");
        check.due("16 come is one, since is not", x.alike(0, 1, 2), 0);
        for (int k : new int[] {-1, 3, Integer.MIN_VALUE, Integer.MAX_VALUE}) {
            check.due("16 outside i", x.alike(2, k, 0), OUTSIDE);
            check.due("16 outside j", x.alike(0, 0, k), OUTSIDE);
        }
        for (int r : new int[] {-1, 3, Integer.MIN_VALUE, Integer.MAX_VALUE}) {
            check.due("16 unknown ahead", x.alike(r, -1, 9), UNKNOWN);
        }
    }

    private static void shortest() {
        NestReaders x = matching();
        check.due("17 the empty row", x.shortest(0), 0);
        check.due("17 none", x.shortest(1), NONE);
        for (int r : WRONG_READERS) {
            check.due("17 unknown", x.shortest(r), UNKNOWN);
            check.due("18 unknown ahead", x.first(r, -1), UNKNOWN);
        }
        x.reader(0, 2, 1, 2);
        check.due("17 no way", x.shortest(0), NONE);
        Check.tell(x, "0 f take none to 1");
        x.moves(0);
        check.due("17 closes nothing", x.shortest(0), 1);
        check.due("18 that", x.first(0, 0), 5);
        x.reader(0, 3, 2, 4);
        Check.tell(x, "0 a to 1 put 0;1 a to 1 put 0;1 b to 1 put 1;1 e take 1 to 2");
        x.moves(0);
        check.due("17 opens two and closes one", x.shortest(0), 3);
    }

    private static void shortestFar() {
        NestReaders x = new NestReaders();
        x.reader(0, 3, 2, 4);
        Check.tell(x, "0 a to 0 put 0;0 c to 1;1 e take 0 to 1;1 d to 0;0 b to 0 put 1;1 f take 1 to 2");
        x.moves(0);
        check.due("17 b c f", x.shortest(0), 3);
        x.drop(0, 0, 1, 1, 0);
        check.due("17 no way any more", x.shortest(0), NONE);
        check.due("18 none", x.first(0, 0), NONE);
        Check.tell(x, "1 b to 1 put 1");
        x.moves(0);
        check.due("17 c b f", x.shortest(0), 3);
        check.due("18 c", x.first(0, 0), 2);
        check.due("18 b", x.first(0, 1), 1);
        check.due("18 f", x.first(0, 2), 5);
    }

    /** Rows that must open and close to come on: b a b e f, and b f b b f e. */
    private static NestReaders far(int length) {
        NestReaders x = new NestReaders();
        x.reader(1, 3, 2, 4);
        Check.tell(x, length == 5 ? "1 f take 0 to 2;1 a to 0 put 0;0 b to 1 put 1;1 e take 1 to 1"
                : "0 f take 1 to 1;0 b to 0 put 1;1 e take 0 to 2;1 b to 0 put 0");
        x.moves(1);
        return x;
    }

    private static void first() {
        NestReaders x = far(5);
        check.due("17 five", x.shortest(1), 5);
        for (int k = 0; k < 5; k++) {
            check.due("18 letter " + k, x.first(1, k), new int[] {1, 0, 1, 4, 5}[k]);
        }
        check.due("18 no sixth", x.first(1, 5), NONE);
        check.due("18 far", x.first(1, Integer.MAX_VALUE), NONE);
        for (int k : new int[] {-1, Integer.MIN_VALUE}) {
            check.due("18 outside", x.first(1, k), OUTSIDE);
        }
        x = far(6);
        check.due("17 six", x.shortest(1), 6);
        check.due("18 six are not told", x.first(1, 0), NONE);
        check.due("18 outside all the same", x.first(1, -1), OUTSIDE);
        x = matching();
        check.due("18 the empty row has none", x.first(0, 0), NONE);
        x.reader(0, 2, 1, 2);
        Check.tell(x, "0 d to 1;0 b to 1 put 0;0 f take none to 1");
        x.moves(0);
        check.due("18 of three the first", x.first(0, 0), 1);
        x.drop(0, 0, 1, 0, 1);
        check.due("18 of two the first", x.first(0, 0), 3);
    }

    private static void many() {
        NestReaders x = matching();
        for (int n = 4; n >= 0; n--) {
            check.due("19 many " + n, x.many(0, n), countMatching(n));
        }
        check.due("19 many 12", x.many(0, 12), countMatching(12));
        check.due("19 many 1", x.many(0, 1), 2);
        check.due("19 none is taken", x.many(1, 12), 0);
        for (int n : new int[] {-1, 13, Integer.MIN_VALUE, Integer.MAX_VALUE}) {
            check.due("19 outside", x.many(0, n), OUTSIDE);
        }
        for (int r : WRONG_READERS) {
            check.due("19 unknown ahead", x.many(r, 13), UNKNOWN);
        }
        Check.tell(x, "0 c to 0");
        x.moves(0);
        check.due("19 after a move more", x.many(0, 1), 3);
        x.drop(0, 0, 0, 0, 0);
        check.due("19 after one less", x.many(0, 1), 2);
    }

    /** Rows of a, b, e, f in which what closes closes its like: ways(deep) at each letter. */
    private static long countMatching(int n) {
        long[] ways = new long[n + 2];
        ways[0] = 1;
        for (int i = 0; i < n; i++) {
            long[] next = new long[n + 2];
            for (int deep = 0; deep <= i; deep++) {
                next[deep + 1] += 2 * ways[deep];
                if (deep > 0) {
                    next[deep - 1] += ways[deep];
                }
            }
            ways = next;
        }
        long all = 0;
        for (long some : ways) {
            all += some;
        }
        return all;
    }

    private static void of() {
        NestReaders x = matching();
        int[][] two = {{0, 0}, {0, 1}, {0, 4}, {1, 0}, {1, 1}, {1, 5}};
        for (int i = 0; i < two.length; i++) {
            check.due("20 letter 0 of row " + i, x.of(0, 2, i, 0), two[i][0]);
            check.due("20 letter 1 of row " + i, x.of(0, 2, i, 1), two[i][1]);
        }
        check.due("20 no row", x.of(0, 2, 6, 0), NONE);
        check.due("20 no letter", x.of(0, 2, 0, 2), NONE);
        check.due("20 the empty row has none", x.of(0, 0, 0, 0), NONE);
        check.due("20 far", x.of(0, 5, Integer.MAX_VALUE, Integer.MAX_VALUE), NONE);
        check.due("20 the last of five", x.of(0, 5, (int) countMatching(5) - 1, 4), 1);
        check.due("20 the letter ahead of it", x.of(0, 5, (int) countMatching(5) - 1, 3), 5);
        check.due("20 behind the last of five", x.of(0, 5, (int) countMatching(5), 4), NONE);
        int[][] outside = {{-1, 0, 0}, {6, 0, 0}, {1, -1, 0}, {1, 0, -1}, {Integer.MIN_VALUE, 0, 0},
            {Integer.MAX_VALUE, 0, 0}, {1, Integer.MIN_VALUE, 0}, {1, 0, Integer.MIN_VALUE}};
        for (int[] a : outside) {
            check.due("20 outside", x.of(0, a[0], a[1], a[2]), OUTSIDE);
        }
        for (int r : WRONG_READERS) {
            check.due("20 unknown ahead", x.of(r, 9, -1, -1), UNKNOWN);
        }
        check.due("20 five", x.of(0, 5, 0, 0), 0);
        x.drop(0, 0, 0, 0, 0);
        check.due("20 five after a move less", x.of(0, 5, 0, 0), 1);
        check.due("20 after a move less", x.of(0, 2, 0, 0), 1);
        x.reader(0, 1, 1, 1);
        check.due("20 after all less", x.of(0, 2, 0, 0), NONE);
    }

    private static void watch() {
        NestReaders x = matching();
        Check.row(x, "0155");
        check.due("21 nothing yet", x.watch(0, 0), 7);
        check.due("21 open", x.watch(0, 2), 7);
        check.due("21 half closed", x.watch(0, 3), 7);
        check.due("21 never more", x.watch(0, 4), 2);
        check.due("21 never at all", x.watch(1, 0), 2);
        for (int k : new int[] {-1, 5, Integer.MIN_VALUE, Integer.MAX_VALUE}) {
            check.due("21 outside", x.watch(0, k), OUTSIDE);
        }
        for (int r : WRONG_READERS) {
            check.due("21 unknown ahead", x.watch(r, -1), UNKNOWN);
        }
        x = far(6);
        Check.row(x, "151154");
        int[] seen = {3, 3, 3, 3, 3, 3, 7};
        for (int k = 0; k <= 6; k++) {
            check.due("21 on the way " + k, x.watch(1, k), seen[k]);
        }
    }

    /** What stands open decides: marks put long ago must be found, and nothing lies below them. */
    private static void watchDeep() {
        NestReaders x = new NestReaders();
        x.reader(0, 3, 2, 4);
        Check.tell(x, "0 a to 0 put 0;0 b to 0 put 1;0 e take 0 to 0;0 f take 1 to 1;1 e take none to 2");
        x.moves(0);
        Check.row(x, "100000000000");
        for (int k = 0; k <= 12; k++) {
            check.due("21 b at the bottom " + k, x.watch(0, k), 3);
        }
        Check.row(x, "000000000010");
        for (int k = 0; k <= 12; k++) {
            check.due("21 b within " + k, x.watch(0, k), k < 11 ? 3 : 2);
        }
        for (String closes : new String[] {"e", "f"}) {
            for (String opens : new String[] {"a", "b"}) {
                x.reader(0, 3, 1, 4);
                Check.tell(x, "0 " + opens + " to 0 put 0;0 " + closes + " take 0 to 1;1 e take none to 2");
                x.moves(0);
                Check.row(x, opens.equals("a") ? "0" : "1");
                check.due("21 " + opens + " open for " + closes, x.watch(0, 1), 3);
                Check.row(x, opens.equals("a") ? "1" : "0");
                check.due("21 the other one open", x.watch(0, 1), 2);
            }
        }
        x.reader(0, 3, 1, 4);
        Check.tell(x, "0 a to 0 put 0;0 b to 0 put 0;0 e take 0 to 1;1 f take 0 to 1;1 f take none to 2");
        x.moves(0);
        Check.row(x, "000000000000000000000000");
        check.due("21 twenty four deep", x.watch(0, 24), 3);
        x.reader(0, 1, 1, 1);
        Check.tell(x, "0 a to 0 put 0;0 b to 0 put 0;0 c to 0;0 d to 0;0 e take 0 to 0;0 f take 0 to 0;"
                + "0 e take none to 0;0 f take none to 0");
        x.moves(0);
        check.due("21 nothing but taken", x.watch(0, 24), 5);
        x.drop(0, 0, 5, -1, 0);
        check.due("21 not, if all is closed and one more", x.watch(0, 24), 7);
    }

    private static NestReaders two(String one, String other) {
        NestReaders x = new NestReaders();
        x.reader(0, 2, 2, 2);
        x.reader(1, 2, 2, 2);
        Check.tell(x, one);
        x.moves(0);
        Check.tell(x, other);
        x.moves(1);
        return x;
    }

    private static void comparesAs(NestReaders x, int... want) {
        for (int what = 0; what < 5; what++) {
            check.due("22 compare " + what, x.compare(what), want[what]);
        }
        check.due("23 parted", x.parted(), want[5]);
        check.due("24 both", x.both(), want[6]);
    }

    private static void compare() {
        NestReaders x = new NestReaders();
        comparesAs(x, 1, 1, 1, 1, 0, NONE, NONE);
        for (int what : new int[] {-1, 5, Integer.MIN_VALUE, Integer.MAX_VALUE}) {
            check.due("22 outside", x.compare(what), OUTSIDE);
        }
        x.reader(0, 1, 1, 1);
        comparesAs(x, 0, 0, 1, 1, 0, 0, NONE);
        x.reader(1, 3, 1, 7);
        comparesAs(x, 1, 1, 1, 0, 0, NONE, 0);
        comparesAs(two("0 c to 1", "0 c to 1"), 1, 1, 1, 0, 0, NONE, 1);
        comparesAs(two("0 c to 1", "0 c to 1;0 d to 1"), 0, 1, 0, 0, 0, 1, 1);
        comparesAs(two("0 c to 1;1 c to 1", "0 c to 1"), 0, 0, 1, 0, 0, 2, 1);
        comparesAs(two("0 c to 1", "0 d to 1"), 0, 0, 0, 1, 0, 1, NONE);
        comparesAs(two("0 a to 0 put 0;0 e take 0 to 1", "0 a to 0 put 1;0 e take 1 to 1"), 1, 1, 1, 0, 0, NONE, 2);
        comparesAs(two("0 a to 0 put 0;0 e take 0 to 1", "0 a to 0 put 1;0 e take 0 to 1"), 0, 0, 1, 1, 0, 2, NONE);
        comparesAs(two("0 a to 0 put 0;0 b to 0 put 1;0 e take 1 to 0;0 e take none to 1",
                "0 a to 0 put 0;0 b to 0 put 1;0 e take 1 to 0;0 e take 0 to 0;0 e take none to 1"),
                0, 1, 0, 0, 0, 3, 1);
    }

    private static void partedAndBoth() {
        String all = ";0 c to 0;0 d to 0;0 e take 0 to 0;0 f take 0 to 0;0 e take none to 0;0 f take none to 0";
        NestReaders x = new NestReaders();
        x.reader(0, 1, 1, 1);
        x.reader(1, 1, 1, 1);
        Check.tell(x, "0 a to 0 put 0;0 b to 0 put 0" + all);
        x.moves(0);
        check.due("22 all by one", x.compare(4), 1);
        check.due("22 not the same", x.compare(0), 0);
        check.due("23 a letter", x.parted(), 1);
        check.due("24 the empty row", x.both(), 0);
        Check.tell(x, "0 a to 0 put 0;0 b to 0 put 0" + all);
        x.moves(1);
        comparesAs(x, 1, 1, 1, 0, 1, NONE, 0);
        x.drop(1, 0, 5, 0, 0);
        comparesAs(x, 0, 0, 1, 0, 1, 2, 0);
        bothChange();
        x = far(6);
        x.reader(0, 3, 2, 4);
        Check.tell(x, "1 f take 0 to 2;1 a to 0 put 0;0 b to 1 put 1;1 e take 1 to 1");
        x.moves(0);
        check.due("23 five against six", x.parted(), 5);
        x.reader(0, 1, 1, 0);
        check.due("23 six against none", x.parted(), 6);
        check.due("24 none", x.both(), NONE);
    }

    /** What has been put together for both must not outlive a change of each of them. */
    private static void bothChange() {
        NestReaders x = two("0 c to 1", "0 d to 1");
        comparesAs(x, 0, 0, 0, 1, 0, 1, NONE);
        x.reader(0, 2, 1, 2);
        x.reader(1, 2, 1, 2);
        comparesAs(x, 1, 1, 1, 1, 0, NONE, NONE);
        x.reader(1, 1, 1, 1);
        comparesAs(x, 0, 1, 0, 1, 0, 0, NONE);
        x.reader(0, 1, 1, 1);
        comparesAs(x, 1, 1, 1, 0, 0, NONE, 0);
    }

    private static void count() {
        NestReaders x = matching();
        x.letter(0);
        x.letter(0);
        x.write(0, 5);
        Check.tell(new NestReaders(), "0 c to 0");
        check.due("25 letters", x.count(0), 2);
        check.due("25 bytes", x.count(1), 5);
        check.due("25 moves of 0", x.count(2), 4);
        check.due("25 moves of 1", x.count(3), 0);
        for (int what : new int[] {-1, 4, Integer.MIN_VALUE, Integer.MAX_VALUE}) {
            check.due("25 outside", x.count(what), OUTSIDE);
        }
    }
}
