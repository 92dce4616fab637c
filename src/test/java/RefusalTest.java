import java.util.function.Consumer;
import java.util.function.ToIntFunction;

/**
 * "Refused, and nothing changes: UNKNOWN (no such READER, STATE, MARK, LETTER), OUTSIDE (another number is
 * not as told), NOT (not now: as told), FULL, SPENT: the first of these that fits." Each refused call on
 * objects of many kinds, held against an object that has not been asked; where two refusals fit, "two".
 */
public final class RefusalTest {
    private static final int UNKNOWN = NestReaders.UNKNOWN;
    private static final int OUTSIDE = NestReaders.OUTSIDE;
    private static final int NOT = NestReaders.NOT;
    private static final int FULL = NestReaders.FULL;
    private static final int SPENT = NestReaders.SPENT;
    private static final int LEAST = Integer.MIN_VALUE;
    private static final int MOST = Integer.MAX_VALUE;
    private static final int[] NO_READERS = {-1, 2, 3, LEAST, MOST};
    private static final int[] NOT_EVEN_BOTH = {-1, 3, LEAST, MOST};

    private static final Check check = new Check("RefusalTest");
    private static String kind;
    private static Consumer<NestReaders> before;

    public static void main(String[] args) {
        kindsAreSo();
        Kinds.all().forEach((name, calls) -> {
            kind = name;
            before = calls;
            NestReaders x = new NestReaders();
            before.accept(x);
            readers(x);
            moves(x);
            theRow(x);
            rowOfLetters(x);
            onePlace(x);
            oneReader(x);
            spentOrNot(x);
            twoReaders();
        });
        check.end();
    }

    /** What the kinds are made for: else a refusal might not be asked for at all. */
    private static void kindsAreSo() {
        String[] names = {"new", "full", "nearly full", "half open", "whole", "60 places", "61 places",
            "61 places of the other", "60 places of both", "61 places of both"};
        int[] letters = {0, 24, 23, 5, 20, 4, 4, 4, 5, 5};
        int[] bytes = {0, 160, 159, 15, 27, 0, 3, 3, 0, 8};
        int[] faults = {0, -1, 159, 15, -1, 0, 3, 3, 0, -1};
        int[] faultsOfOther = {0, 0, 0, 15, -1, 0, 3, 3, 0, 7};
        int[] whole = {1, 0, 0, 0, 1, 1, 1, 1, 0, 0};
        int[] spent = {0, 0, 0, 0, 0, 0, 1, 2, 0, 0};
        int[] spentOfBoth = {0, 0, 0, 0, 0, 0, 1, 1, 0, 1};
        check.due("kinds", Kinds.all().size(), names.length);
        for (int i = 0; i < names.length; i++) {
            NestReaders x = new NestReaders();
            Kinds.all().get(names[i]).accept(x);
            check.due(names[i] + " letters", x.count(0), letters[i]);
            check.due(names[i] + " bytes", x.count(1), bytes[i]);
            check.due(names[i] + " fault", x.fault(0), faults[i]);
            check.due(names[i] + " fault of the other", x.fault(1), faultsOfOther[i]);
            check.due(names[i] + " whole", x.between(0) == NOT ? 0 : 1, whole[i]);
            int seen = (x.places(0) == SPENT ? 1 : 0) | (x.places(1) == SPENT ? 2 : 0);
            check.due(names[i] + " spent", seen, spent[i]);
            check.due(names[i] + " spent of both", x.places(2) == SPENT ? 1 : 0, spentOfBoth[i]);
        }
    }

    private static void refused(String call, int want, ToIntFunction<NestReaders> asked) {
        Twins.changesNothing(check, kind + ": " + call, before, asked, want);
    }

    private static void readers(NestReaders x) {
        for (int r : NO_READERS) {
            refused("2 reader " + r, UNKNOWN, y -> y.reader(r, 1, 1, 0));
        }
        refused("2 reader, two", UNKNOWN, y -> y.reader(2, 0, 0, -1));
        for (int r = 0; r < 2; r++) {
            int reader = r;
            for (int states : new int[] {0, 4, -1, LEAST, MOST}) {
                refused("2 states " + states, OUTSIDE, y -> y.reader(reader, states, 1, 0));
            }
            for (int marks : new int[] {0, 3, -1, LEAST, MOST}) {
                refused("2 marks " + marks, OUTSIDE, y -> y.reader(reader, 1, marks, 0));
            }
            for (int states = 1; states <= 3; states++) {
                int n = states;
                refused("2 bits of no states, " + n, OUTSIDE, y -> y.reader(reader, n, 1, 1 << n));
                refused("2 bits below 0, " + n, OUTSIDE, y -> y.reader(reader, n, 2, -1));
                refused("2 also bits of no states, " + n, OUTSIDE, y -> y.reader(reader, n, 2, 1 | 1 << n));
            }
            refused("2 a high bit", OUTSIDE, y -> y.reader(reader, 3, 2, LEAST));
        }
        int free = 160 - x.count(1);
        for (int n : new int[] {0, 9, -1, LEAST, MOST}) {
            refused("3 write " + n + (free < 9 ? ", two" : ""), OUTSIDE, y -> y.write(-1L, n));
        }
        for (int n = free + 1; n <= 8; n++) {
            int more = n;
            refused("3 write " + n + " of " + free, FULL, y -> y.write(Check.packed("0 c to 0"), more));
        }
    }

    private static void moves(NestReaders x) {
        for (int r : NO_READERS) {
            refused("5 fault " + r, UNKNOWN, y -> y.fault(r));
            refused("6 moves " + r + (x.fault(0) < 0 ? "" : ", two"), UNKNOWN, y -> y.moves(r));
            refused("7 has " + r, UNKNOWN, y -> y.has(r, 0, 2, 0, 0));
            refused("8 drop " + r, UNKNOWN, y -> y.drop(r, 0, 2, 0, 0));
        }
        for (int r = 0; r < 2; r++) {
            int reader = r;
            if (x.fault(r) != NestReaders.NONE) {
                refused("6 moves " + r + " with a fault", NOT, y -> y.moves(reader));
            }
            int states = x.has(r, 1, 2, 0, 0) < 0 ? 1 : x.has(r, 2, 2, 0, 0) < 0 ? 2 : 3;
            int marks = x.has(r, 0, 0, 1, 0) < 0 ? 1 : 2;
            int[][] unknown = {{-1, 2, 0, 0}, {states, 2, 0, 0}, {0, 2, 0, -1}, {0, 2, 0, states}, {0, -1, 0, 0},
                {0, 6, 0, 0}, {0, 0, -1, 0}, {0, 1, marks, 0}, {0, 2, -1, 0}, {0, 3, 1, 0}, {0, 4, -2, 0},
                {0, 5, marks, 0}, {LEAST, 0, 0, 0}, {0, MOST, 0, 0}, {0, 4, LEAST, 0}, {0, 5, MOST, 0}, {0, 0, 0, MOST}};
            for (int[] a : unknown) {
                String told = a[0] + " " + a[1] + " " + a[2] + " " + a[3];
                refused("7 has " + told, UNKNOWN, y -> y.has(reader, a[0], a[1], a[2], a[3]));
                refused("8 drop " + told, UNKNOWN, y -> y.drop(reader, a[0], a[1], a[2], a[3]));
            }
            noSuchMove(x, r);
        }
    }

    private static void noSuchMove(NestReaders x, int r) {
        for (int letter = 0; letter < 6; letter++) {
            int by = letter;
            int mark = letter > 3 ? -1 : 0;
            if (x.has(r, 0, letter, mark, 0) == 0) {
                refused("8 no such move by " + letter, UNKNOWN, y -> y.drop(r, 0, by, mark, 0));
            }
        }
    }

    private static void theRow(NestReaders x) {
        int size = x.count(0);
        for (int letter : new int[] {-1, 6, 7, LEAST, MOST}) {
            refused("9 letter " + letter + (size == 24 ? ", two" : ""), UNKNOWN, y -> y.letter(letter));
        }
        for (int letter = 0; letter < 6 && size == 24; letter++) {
            int more = letter;
            refused("9 letter " + letter + " more", FULL, y -> y.letter(more));
        }
        for (int n : new int[] {-1, 21, LEAST, MOST}) {
            refused("10 row of " + n, OUTSIDE, y -> y.row(2, n));
            refused("10 row of " + n + ", two", OUTSIDE, y -> y.row(-1L, n));
        }
        for (int i = 0; i < 20; i++) {
            int at = i;
            refused("10 letter 6 at " + i, UNKNOWN, y -> y.row(6L << 3 * at, at + 1));
            refused("10 letter 7 at " + i, UNKNOWN, y -> y.row(7L << 3 * at, 20));
        }
    }

    private static void rowOfLetters(NestReaders x) {
        int size = x.count(0);
        for (int i : new int[] {-1, size, size + 1, LEAST, MOST}) {
            refused("11 partner " + i + " of " + size, OUTSIDE, y -> y.partner(i));
        }
        for (int k : new int[] {-1, size + 1, size + 2, LEAST, MOST}) {
            refused("12 depth " + k + " of " + size, OUTSIDE, y -> y.depth(k));
            for (int r = 0; r < 2; r++) {
                int reader = r;
                refused("13 run on " + k + " of " + size, OUTSIDE, y -> y.run(reader, k, 0));
                refused("21 watch " + k + " of " + size, OUTSIDE, y -> y.watch(reader, k));
            }
        }
        for (int what : new int[] {-1, 3, LEAST, MOST}) {
            refused("13 run, what " + what, OUTSIDE, y -> y.run(0, 0, what));
            refused("13 run of the other, what " + what, OUTSIDE, y -> y.run(1, size, what));
        }
        for (int r : NO_READERS) {
            refused("13 run by " + r, UNKNOWN, y -> y.run(r, 0, 0));
            refused("13 run by " + r + ", two", UNKNOWN, y -> y.run(r, size + 1, 3));
            refused("14 between by " + r + (x.between(0) == NOT ? ", two" : ""), UNKNOWN, y -> y.between(r));
            refused("21 watch by " + r, UNKNOWN, y -> y.watch(r, size));
            refused("21 watch by " + r + ", two", UNKNOWN, y -> y.watch(r, size + 1));
        }
        if (x.depth(size) > 0 || x.between(0) == NOT) {
            refused("14 not whole", NOT, y -> y.between(0));
            refused("14 not whole for the other", NOT, y -> y.between(1));
        }
    }

    private static void onePlace(NestReaders x) {
        int size = x.count(0);
        for (int r : NOT_EVEN_BOTH) {
            refused("15 places of " + r + (x.places(2) == SPENT ? ", two" : ""), UNKNOWN, y -> y.places(r));
            refused("16 alike by " + r, UNKNOWN, y -> y.alike(r, 0, size));
            refused("16 alike by " + r + ", two", UNKNOWN, y -> y.alike(r, -1, size + 1));
        }
        for (int k : new int[] {-1, size + 1, LEAST, MOST}) {
            for (int r = 0; r <= 2; r++) {
                int reader = r;
                refused("16 alike " + k + " and 0", OUTSIDE, y -> y.alike(reader, k, 0));
                refused("16 alike 0 and " + k, OUTSIDE, y -> y.alike(reader, 0, k));
            }
        }
    }

    private static void oneReader(NestReaders x) {
        String two = x.places(0) == SPENT ? ", two" : "";
        for (int r : NO_READERS) {
            refused("17 shortest of " + r + two, UNKNOWN, y -> y.shortest(r));
            refused("18 first of " + r, UNKNOWN, y -> y.first(r, 0));
            refused("18 first of " + r + ", two", UNKNOWN, y -> y.first(r, -1));
            refused("19 many of " + r, UNKNOWN, y -> y.many(r, 0));
            refused("19 many of " + r + ", two", UNKNOWN, y -> y.many(r, 13));
            refused("20 of " + r, UNKNOWN, y -> y.of(r, 1, 0, 0));
            refused("20 of " + r + ", two", UNKNOWN, y -> y.of(r, 6, -1, -1));
        }
        for (int reader = 0; reader < 2; reader++) {
            int r = reader;
            for (int k : new int[] {-1, LEAST}) {
                refused("18 letter " + k + two, OUTSIDE, y -> y.first(r, k));
                refused("20 row " + k, OUTSIDE, y -> y.of(r, 5, k, 0));
                refused("20 letter " + k, OUTSIDE, y -> y.of(r, 0, 0, k));
            }
            for (int n : new int[] {-1, 13, LEAST, MOST}) {
                refused("19 of length " + n + two, OUTSIDE, y -> y.many(r, n));
            }
            for (int n : new int[] {-1, 6, LEAST, MOST}) {
                refused("20 of length " + n, OUTSIDE, y -> y.of(r, n, 0, 0));
            }
        }
    }

    private static void spentOrNot(NestReaders x) {
        int size = x.count(0);
        for (int reader = 0; reader <= 2; reader++) {
            int r = reader;
            if (x.places(r) != SPENT) {
                continue;
            }
            refused("15 places of " + r, SPENT, y -> y.places(r));
            if (r == 2) {
                refused("23 parted", SPENT, NestReaders::parted);
                refused("24 both", SPENT, NestReaders::both);
                for (int what = 0; what < 5; what++) {
                    int asked = what;
                    refused("22 compare " + what, SPENT, y -> y.compare(asked));
                }
                continue;
            }
            refused("17 shortest of " + r, SPENT, y -> y.shortest(r));
            refused("18 first of " + r, SPENT, y -> y.first(r, 0));
            refused("18 no letter of " + r, SPENT, y -> y.first(r, MOST));
            refused("19 many of " + r, SPENT, y -> y.many(r, 0));
            refused("19 many more of " + r, SPENT, y -> y.many(r, 12));
            refused("21 watch by " + r, SPENT, y -> y.watch(r, 0));
            refused("21 watch all by " + r, SPENT, y -> y.watch(r, size));
        }
    }

    private static void twoReaders() {
        for (int what : new int[] {-1, 5, LEAST, MOST}) {
            refused("22 compare " + what, OUTSIDE, y -> y.compare(what));
        }
        for (int what : new int[] {-1, 4, LEAST, MOST}) {
            refused("25 count " + what, OUTSIDE, y -> y.count(what));
        }
    }
}
