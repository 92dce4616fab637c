import java.util.ArrayList;
import java.util.HashSet;
import java.util.List;
import java.util.Map;
import java.util.Set;

/**
 * Each sentence of the document that names a boundary, on both of its sides: the last value that is still
 * taken and the first that is not. A line begins with the promise's number, or with T1, T2 for the terms.
 */
public final class EdgeTest {
    private static final int NONE = NestReaders.NONE;
    private static final int UNKNOWN = NestReaders.UNKNOWN;
    private static final int OUTSIDE = NestReaders.OUTSIDE;
    private static final int NOT = NestReaders.NOT;
    private static final int FULL = NestReaders.FULL;
    private static final int SPENT = NestReaders.SPENT;
    private static final long MODULUS = 1000000007L;
    private static final String ALL = stays(0);

    private static final Check check = new Check("EdgeTest");

    public static void main(String[] args) {
        letters();
        twentyFourLetters();
        partners();
        wholeRows();
        depths();
        readers();
        statesAndMarks();
        takes();
        movesOfEachKind();
        runsFind();
        bytesOfTheText();
        moves16();
        tokens();
        texts();
        rowsOfLetters();
        runs();
        betweens();
        placesAlike();
        placesOfAllRows();
        sixtyPlaces();
        sixtyByWholeRows();
        sixtyPlacesOfBoth();
        shortest();
        first();
        many();
        of();
        watch();
        sideBySide();
        beyondTheRow();
        counts();
        fiveHundredTwelve();
        askingChangesNothing();
        check.end();
    }

    private static NestReaders taught(int reader, int states, int marks, int takes, String moves) {
        NestReaders x = new NestReaders();
        x.reader(reader, states, marks, takes);
        Check.teach(x, reader, moves);
        return x;
    }

    /** A state is left by no letter, and every letter can be read in it. */
    private static String stays(int state) {
        return ("S a to S put 0;S b to S put 0;S c to S;S d to S;S e take 0 to S;S f take 0 to S;S e take none to S;"
                + "S f take none to S").replace("S", "" + state);
    }

    private static NestReaders withRow(String letters) {
        NestReaders x = new NestReaders();
        Check.row(x, letters);
        return x;
    }

    /** "LETTERS are 0 .. 5". */
    private static void letters() {
        for (int letter = -1; letter <= 7; letter++) {
            boolean is = letter >= 0 && letter <= 5;
            NestReaders x = new NestReaders();
            check.due("9 letter " + letter, x.letter(letter), is ? 1 : UNKNOWN);
            check.due("9 letters then", x.count(0), is ? 1 : 0);
            check.due("7 has " + letter, x.has(0, 0, letter, 0, 0), is ? 0 : UNKNOWN);
            if (letter >= 0) {
                check.due("10 row of " + letter, x.row(letter, 1), is ? 1 : UNKNOWN);
                check.due("10 row that ends with " + letter, x.row((long) letter << 57, 20), is ? 1 : UNKNOWN);
            }
            Check.tell(x, "0 " + (char) ('a' + letter));
            check.due("5 letter " + letter, x.fault(0), is ? 3 : 2);
        }
    }

    /** "THE ROW has 24 LETTERS at most." */
    private static void twentyFourLetters() {
        for (int by = 0; by < 6; by++) {
            NestReaders x = new NestReaders();
            for (int i = 1; i <= 24; i++) {
                check.due("9 letter " + i, x.letter(by), i);
            }
            check.due("9 letter 25", x.letter(by), FULL);
            check.due("9 still 24", x.count(0), 24);
            check.due("11 the last one has no partner", x.partner(23), NONE);
            check.due("11 and none behind it", x.partner(24), OUTSIDE);
            check.due("12 behind all", x.depth(24), by < 2 ? 24 : 0);
            check.due("12 and not behind more", x.depth(25), OUTSIDE);
            check.due("10 not full any more", x.row(0, 0), 1);
            check.due("9 the first one again", x.letter(by), 1);
        }
        NestReaders x = new NestReaders();
        check.due("10 row of 20", x.row(0, 20), 1);
        for (int i = 21; i <= 24; i++) {
            check.due("9 letter " + i + " behind a row", x.letter(5), i);
        }
        check.due("9 letter 25 behind a row", x.letter(5), FULL);
        check.due("11 the last closes", x.partner(23), 16);
        check.due("10 a full row becomes another one", x.row(0, 20), 1);
        check.due("10 of 20", x.count(0), 20);
        check.due("10 those behind are gone", x.partner(16), NONE);
    }

    /** "Each LETTER that CLOSES has as its PARTNER the last one ahead that OPENS and has none; none, if there is none." */
    private static void partners() {
        for (int open = 0; open < 6; open++) {
            for (int close = 0; close < 6; close++) {
                NestReaders x = withRow("" + open + close);
                boolean are = open < 2 && close > 3;
                check.due("11 " + open + close, x.partner(1), are ? 0 : NONE);
                check.due("11 " + open + close + " back", x.partner(0), are ? 1 : NONE);
                check.due("11 the other way round", withRow("" + close + open).partner(0), open > 3 && close < 2 ? 1 : NONE);
            }
        }
        arePartners("", new int[] {});
        arePartners("4", new int[] {-1});
        arePartners("044", new int[] {1, 0, -1});
        arePartners("001", new int[] {-1, -1, -1});
        arePartners("00144", new int[] {-1, 4, 3, 2, 1});
        arePartners("5045045", new int[] {-1, 2, 1, -1, 5, 4, -1});
        arePartners("0415", new int[] {1, 0, 3, 2});
        arePartners("000000000000444444444444", twelveIn());
        arePartners("023232323232323232323234", new int[] {23, -1, -1, -1, -1, -1, -1, -1, -1, -1, -1, -1, -1, -1, -1, -1,
            -1, -1, -1, -1, -1, -1, -1, 0});
    }

    private static int[] twelveIn() {
        int[] partner = new int[24];
        for (int i = 0; i < 24; i++) {
            partner[i] = 23 - i;
        }
        return partner;
    }

    private static void arePartners(String letters, int[] want) {
        NestReaders x = withRow(letters);
        for (int i = 0; i < want.length; i++) {
            check.due("11 partner " + i + " of " + letters, x.partner(i), want[i]);
        }
        check.due("11 behind " + letters, x.partner(want.length), OUTSIDE);
        check.due("11 ahead of " + letters, x.partner(-1), OUTSIDE);
    }

    /** "A row is WHOLE, if each that OPENS or CLOSES has a PARTNER." */
    private static void wholeRows() {
        String[] whole = {"", "2", "3", "04", "15", "2043", "0415", "0154", "000000000000444444444444",
            "222222222222222222222222", "012345" + "012345" + "012345" + "012345"};
        String[] not = {"0", "1", "4", "5", "40", "044", "004", "0401", "404", "20", "42", "00000000000044444444444",
            "222222222222222222222220", "422222222222222222222222", "000000000000044444444444", "000000000004444444444444"};
        for (String letters : whole) {
            check.yes("14 whole: " + letters, withRow(letters).between(0) >= 0);
        }
        for (String letters : not) {
            check.due("14 not whole: " + letters, withRow(letters).between(0), NOT);
            check.due("14 nor for the other: " + letters, withRow(letters).between(1), NOT);
        }
    }

    /** "DEPTH behind k LETTERS: how many OPEN ones have no PARTNER among these." */
    private static void depths() {
        check.due("12 of no letters", new NestReaders().depth(0), 0);
        check.due("12 behind none", new NestReaders().depth(1), OUTSIDE);
        NestReaders x = withRow("400415441");
        int[] want = {0, 0, 1, 2, 1, 2, 1, 0, 0, 1};
        for (int k = 0; k < want.length; k++) {
            check.due("12 among the first " + k, x.depth(k), want[k]);
        }
        check.due("12 below 0", x.depth(-1), OUTSIDE);
        check.due("12 behind more", x.depth(10), OUTSIDE);
    }

    /** "READERS are 0 and 1"; of places and alike also 2. */
    private static void readers() {
        NestReaders x = new NestReaders();
        Check.tell(x, "0 c to 0");
        for (int r = -1; r <= 3; r++) {
            boolean is = r == 0 || r == 1;
            check.due("2 reader " + r, x.reader(r, 1, 1, 0), is ? 1 : UNKNOWN);
            check.due("5 fault " + r, x.fault(r), is ? NONE : UNKNOWN);
            check.due("7 has " + r, x.has(r, 0, 2, 0, 0), is ? 0 : UNKNOWN);
            check.due("13 run " + r, x.run(r, 0, 0), is ? 1 : UNKNOWN);
            check.due("14 between " + r, x.between(r), is ? 1 : UNKNOWN);
            check.due("15 places " + r, x.places(r), is || r == 2 ? 3 : UNKNOWN);
            check.due("16 alike " + r, x.alike(r, 0, 0), is || r == 2 ? 1 : UNKNOWN);
            check.due("17 shortest " + r, x.shortest(r), is ? NONE : UNKNOWN);
            check.due("18 first " + r, x.first(r, 0), is ? NONE : UNKNOWN);
            check.due("19 many " + r, x.many(r, 0), is ? 0 : UNKNOWN);
            check.due("20 of " + r, x.of(r, 0, 0, 0), is ? NONE : UNKNOWN);
            check.due("21 watch " + r, x.watch(r, 0), is ? 2 : UNKNOWN);
            check.due("6 moves " + r, x.moves(r), is ? 1 : UNKNOWN);
            check.due("8 drop " + r, x.drop(r, 0, 2, 0, 0), is ? 0 : UNKNOWN);
            x.erase();
            Check.tell(x, "0 c to 0");
        }
    }

    /** "STATES 0 .. n - 1 (1 .. 3; one at first), MARKS 0 .. m - 1 (1, 2; one at first)". */
    private static void statesAndMarks() {
        NestReaders x = new NestReaders();
        for (int n = 0; n <= 4; n++) {
            for (int m = 0; m <= 3; m++) {
                boolean is = n >= 1 && n <= 3 && (m == 1 || m == 2);
                check.due("2 " + n + " states, " + m + " marks", x.reader(0, n, m, 0), is ? 1 : OUTSIDE);
                for (int s = -1; s <= 3 && is; s++) {
                    int want = s >= 0 && s < n ? 0 : UNKNOWN;
                    check.due("7 from state " + s + " of " + n, x.has(0, s, 2, 0, 0), want);
                    check.due("7 to state " + s + " of " + n, x.has(0, 0, 2, 0, s), want);
                }
                for (int mark = -1; mark <= 2 && is; mark++) {
                    boolean marked = mark >= 0 && mark < m;
                    for (int letter = 0; letter < 6; letter++) {
                        boolean can = letter < 2 ? marked : letter < 4 ? mark == 0 : marked || mark == -1;
                        check.due("7 letter " + letter + ", mark " + mark + " of " + m, x.has(0, 0, letter, mark, 0),
                                can ? 0 : UNKNOWN);
                    }
                }
            }
        }
    }

    /** "OUTSIDE: also bits of no STATES"; "STATES that TAKE (bits; none at first)". */
    private static void takes() {
        for (int n = 1; n <= 3; n++) {
            for (int takes = -1; takes <= 9; takes++) {
                NestReaders x = new NestReaders();
                boolean is = takes >= 0 && takes < 1 << n;
                check.due("2 takes " + takes + " of " + n, x.reader(1, n, 1, takes), is ? 1 : OUTSIDE);
                check.due("2 is state 1 there", x.has(1, 1, 2, 0, 0), is && n > 1 ? 0 : UNKNOWN);
                check.due("13 the empty row", x.run(1, 0, 1), is ? takes & 1 : 0);
                x.row(2, 1);
                for (int s = 0; s < n && is; s++) {
                    Check.tell(x, "0 c to " + s);
                    x.moves(1);
                    check.due("13 takes " + takes + " in " + s, x.run(1, 1, 1), takes >> s & 1);
                    x.drop(1, 0, 2, 0, s);
                }
            }
        }
    }

    /** "by one that OPENS with a MARK that it PUTS; by one that CLOSES with a MARK that it must find, or NOTHING". */
    private static void movesOfEachKind() {
        String[] told = {"0 a to 1 put 0", "0 a to 1 put 1", "0 b to 1 put 0", "0 b to 1 put 1", "0 c to 1", "0 d to 1",
            "0 e take none to 1", "0 e take 0 to 1", "0 e take 1 to 1", "0 f take none to 1", "0 f take 0 to 1",
            "0 f take 1 to 1"};
        int[][] is = {{0, 0}, {0, 1}, {1, 0}, {1, 1}, {2, 0}, {3, 0}, {4, -1}, {4, 0}, {4, 1}, {5, -1}, {5, 0}, {5, 1}};
        NestReaders all = new NestReaders();
        all.reader(0, 2, 2, 0);
        for (int i = 0; i < told.length; i++) {
            NestReaders x = taught(0, 2, 2, 0, told[i]);
            for (int j = 0; j < told.length; j++) {
                check.due("7 " + told[i] + ": " + told[j], x.has(0, 0, is[j][0], is[j][1], 1), i == j ? 1 : 0);
                check.due("7 not the way back", x.has(0, 1, is[j][0], is[j][1], 0), 0);
            }
            Check.tell(all, told[i]);
            check.due("6 so many now", all.moves(0), i + 1);
            Check.tell(all, told[i]);
            check.due("6 a set: no more of the same", all.moves(0), i + 1);
        }
        for (int i = 0; i < told.length; i++) {
            check.due("8 so many are left", all.drop(0, 0, is[i][0], is[i][1], 1), told.length - 1 - i);
            check.due("8 not twice", all.drop(0, 0, is[i][0], is[i][1], 1), UNKNOWN);
            check.due("25 so many", all.count(2), told.length - 1 - i);
        }
    }

    /** "one that CLOSES and has a PARTNER must find the MARK that was PUT at that; one without finds NOTHING". */
    private static void runsFind() {
        String[] finds = {"take none", "take 0", "take 1"};
        String[][] rows = {{"4", "044", "0144", "24"}, {"04", "024", "0154", "0044"}, {"14", "124", "4", "1144"}};
        for (int put = 0; put < 2; put++) {
            for (int found = 0; found < 3; found++) {
                NestReaders x = taught(0, 2, 2, 2, "0 a to 0 put " + put + ";0 e " + finds[found] + " to 1");
                Check.row(x, "04");
                check.due("13 puts " + put + ", " + finds[found], x.run(0, 2, 0), found == put + 1 ? 2 : 0);
                Check.row(x, "4");
                check.due("13 no partner, " + finds[found], x.run(0, 1, 0), found == 0 ? 2 : 0);
                check.due("13 taken", x.run(0, 1, 1), found == 0 ? 1 : 0);
            }
        }
        NestReaders x = taught(0, 1, 2, 1, "0 a to 0 put 0;0 b to 0 put 1;0 c to 0;0 e take 0 to 0");
        int[][] ends = {{0, 0, 0, 0}, {1, 1, 0, 1}, {0, 0, 0, 0}};
        for (int i = 0; i < rows.length; i++) {
            for (int j = 0; j < rows[i].length; j++) {
                Check.row(x, rows[i][j]);
                check.due("13 row " + rows[i][j], x.run(0, rows[i][j].length(), 0), ends[i][j]);
            }
        }
        Check.row(x, "010101010101010101010101");
        check.due("13 marks that are still there do not matter", x.run(0, 24, 1), 1);
        Check.row(x, "0101010101010101010101");
        check.due("13 nor that no one could take them", x.run(0, 22, 1), 1);
        check.due("13 begins in state 0", taught(0, 3, 1, 6, "1 c to 1").run(0, 0, 0), 1);
        check.due("13 which does not take", taught(0, 3, 1, 6, "1 c to 1").run(0, 0, 1), 0);
    }

    /** "THE TEXT is a row of bytes, 160 at most"; "n (1 .. 8) bytes more". */
    private static void bytesOfTheText() {
        int[] faults = {1, 2, 3, 4, 4, 6, 7, NONE};
        for (int n = -1; n <= 10; n++) {
            NestReaders x = new NestReaders();
            boolean is = n >= 1 && n <= 8;
            check.due("3 write " + n, x.write(Check.packed("0 c to 0"), n), is ? n : OUTSIDE);
            check.due("3 bytes then", x.count(1), is ? n : 0);
            check.due("5 fault then", x.fault(0), is ? faults[n - 1] : 0);
        }
        for (int had = 150; had <= 160; had++) {
            for (int n = 1; n <= 8; n++) {
                NestReaders x = new NestReaders();
                Check.tell(x, " ".repeat(had));
                check.due("3 " + n + " behind " + had, x.write(0, n), had + n <= 160 ? had + n : FULL);
                check.due("3 bytes then", x.count(1), had + n <= 160 ? had + n : had);
                check.due("5 nothing of what is refused", x.fault(0), had);
                check.due("4 had", x.erase(), had + n <= 160 ? had + n : had);
                check.due("4 empty", x.count(1), 0);
                check.due("4 had none", x.erase(), 0);
                check.due("3 room again", x.write(0, 8), 8);
            }
        }
        for (int i = 0; i < 8; i++) {
            NestReaders x = new NestReaders();
            check.due("3 byte " + i + " is bytes >> 8 i & 255", x.write(0x2020202020202020L ^ 0xe0L << 8 * i, 8), 8);
            check.due("5 which is no blank", x.fault(0), i);
        }
    }

    /** "MOVES with ; (59) between, 16 at most". */
    private static void moves16() {
        for (String form : new String[] {"0 c to 0", "0c to0", "  0d  to 0"}) {
            for (int n = 0; n <= 18; n++) {
                StringBuilder text = new StringBuilder();
                for (int i = 0; i < n; i++) {
                    text.append(i == 0 ? "" : ";").append(form);
                }
                if (text.length() > 160) {
                    continue;
                }
                NestReaders x = new NestReaders();
                Check.tell(x, text.toString());
                int fault = n == 0 ? 0 : n <= 16 ? NONE : 16 * form.length() + 15;
                check.due("5 " + n + " times " + form, x.fault(0), fault);
                check.due("6 " + n + " times " + form, x.moves(0), fault == NONE ? 1 : NOT);
                check.due("6 text then", x.count(1), fault == NONE ? 0 : text.length());
            }
        }
        NestReaders x = taught(0, 2, 2, 0, "0 a to 0 put 0;0 a to 0 put 1;0 a to 1 put 0;0 a to 1 put 1");
        Check.tell(x, "0c to0;0c to1;1c to0;1c to1;0d to0;0d to1;1d to0;1d to1;0etake0to0;0etake0to1;0c to0");
        check.due("5 words need a blank or a digit between", x.fault(0), 57);
        x.erase();
        Check.tell(x, "0c to0;0c to1;1c to0;1c to1;0d to0;0d to1;1d to0;1d to1;0e take0to0;0e take0to1;0e take1to0;"
                + "0e take1to1;1e take0to0;1e take0to1;1f take0to0;1f take0to1");
        check.due("6 sixteen at once", x.moves(0), 20);
    }

    private static void faultIs(int states, int marks, String text, int want) {
        for (int reader = 0; reader < 2; reader++) {
            NestReaders x = new NestReaders();
            x.reader(reader, states, marks, 0);
            Check.tell(x, text);
            check.due("5 \"" + text + "\" of " + states + " states, " + marks + " marks", x.fault(reader), want);
            check.due("6 \"" + text + "\"", x.moves(reader), want == NONE ? 1 : NOT);
            check.due("6 bytes of \"" + text + "\" then", x.count(1), want == NONE ? 0 : text.length());
        }
    }

    /** "A FAULT is at the first TOKEN .. that cannot stand there (a number that is no such STATE or MARK also)". */
    private static void tokens() {
        for (int n = 1; n <= 3; n++) {
            for (int s = 0; s <= 9; s++) {
                faultIs(n, 1, s + " c to 0", s < n ? NONE : 0);
                faultIs(n, 1, "0 d to " + s, s < n ? NONE : 7);
                faultIs(n, 2, "0 b to " + s + " put 1", s < n ? NONE : 7);
                faultIs(n, 2, "0 f take none to " + s, s < n ? NONE : 17);
            }
        }
        for (int m = 1; m <= 2; m++) {
            for (int mark = 0; mark <= 9; mark++) {
                faultIs(1, m, "0 a to 0 put " + mark, mark < m ? NONE : 13);
                faultIs(1, m, "0 e take " + mark + " to 0", mark < m ? NONE : 9);
            }
        }
        faultIs(3, 2, "00 c to 0", 0);
        faultIs(3, 2, "01 c to 0", 0);
        faultIs(3, 2, "0 c to 02", 7);
        faultIs(3, 2, "0 a to 0 put 01", 13);
        faultIs(3, 2, "0 e take 10 to 0", 9);
        faultIs(3, 2, "0 e take none0 to 0", 13);
        faultIs(3, 2, "0 e take non to 0", 9);
        faultIs(3, 2, "0 e take nonee to 0", 9);
        faultIs(3, 2, "0 e takenone to 0", 4);
        faultIs(3, 2, "0 e tak 0 to 0", 4);
        faultIs(3, 2, "0 c too 0", 4);
        faultIs(3, 2, "0 c t 0", 4);
        faultIs(3, 2, "0 a to 0 pu 0", 9);
        faultIs(3, 2, "0 a to 0 puts 0", 9);
        faultIs(3, 2, "0 a to 0 take 0", 9);
        faultIs(3, 2, "0 e put 0 to 0", 4);
    }

    /** "or at the end, if it comes too soon"; "the byte with which the TOKEN begins, or the length". */
    private static void texts() {
        faultIs(1, 1, "", 0);
        faultIs(1, 1, " ", 1);
        String[] whole = {"0 a to 0 put 0", "0 c to 0", "0 e take 0 to 0", "0 e take none to 0"};
        for (String move : whole) {
            for (int n = 0; n <= move.length(); n++) {
                String part = move.substring(0, n);
                int begin = part.lastIndexOf(' ') + 1;
                String last = part.substring(begin);
                boolean cut = !last.isEmpty() && n < move.length() && move.charAt(n) != ' ';
                faultIs(1, 1, part, n == move.length() ? NONE : cut ? begin : n);
            }
            faultIs(1, 1, move + ";", move.length() + 1);
            faultIs(1, 1, move + " ; ", move.length() + 3);
            faultIs(1, 1, move + " " + move, move.length() + 1);
            faultIs(1, 1, move + " ", NONE);
            faultIs(1, 1, " " + move, NONE);
            faultIs(1, 1, ";" + move, 0);
            faultIs(1, 1, move + ",", move.length());
            faultIs(1, 1, move + "a", move.length());
            faultIs(1, 1, move + ";" + move, NONE);
            faultIs(1, 1, move + " ;  " + move + " ", NONE);
            faultIs(1, 1, " ".repeat(160 - move.length()) + move, NONE);
            faultIs(1, 1, move + " ".repeat(160 - move.length()), NONE);
            faultIs(1, 1, move + " ".repeat(159 - move.length()) + ";", 160);
            faultIs(1, 1, move + " ".repeat(159 - move.length()) + "0", 159);
        }
    }

    /** "THE ROW becomes n LETTERS (0 .. 20), LETTER i row >> 3 i & 7". */
    private static void rowsOfLetters() {
        for (int n = -2; n <= 23; n++) {
            NestReaders x = withRow("3");
            boolean is = n >= 0 && n <= 20;
            check.due("10 row of " + n, x.row(0, n), is ? 1 : OUTSIDE);
            check.due("10 letters then", x.count(0), is ? n : 1);
        }
        for (int i = 0; i < 20; i++) {
            for (int letter = 0; letter < 8; letter++) {
                NestReaders x = withRow("45");
                long row = Check.packedRow("2".repeat(20)) ^ (letter ^ 2L) << 3 * i;
                boolean is = letter < 6;
                check.due("10 letter " + i + " is " + letter, x.row(row, 20), is ? 1 : UNKNOWN);
                check.due("10 then", Twins.letters(x).equals(is ? "2".repeat(i) + letter + "2".repeat(19 - i) : "45") ? 1 : 0, 1);
                check.due("10 not looked at behind n", x.row(row, i), 1);
                check.due("10 of n letters", x.count(0), i);
            }
        }
        NestReaders x = new NestReaders();
        check.due("10 the bits behind all letters do not matter", x.row(15L << 60 | Check.packedRow("3".repeat(20)), 20), 1);
        check.yes("10 all plain", Twins.letters(x).equals("3".repeat(20)));
        check.due("10 no letters", x.row(-1L, 0), 1);
        check.due("10 empty", x.count(0), 0);
    }

    /**
     * "STATES in which some RUN ends, by bits (what 0), whether it is TAKEN (1; 1, 0), how many RUNS (2; modulo
     * 1000000007)". A letter makes four times the runs of states 1 and 2, and lets 0 .. 3 more begin there.
     */
    private static void runs() {
        String moves = "0 a to 0 put 0;1 a to 1 put 0;1 a to 1 put 1;1 a to 2 put 0;1 a to 2 put 1;"
                + "2 a to 1 put 0;2 a to 1 put 1;2 a to 2 put 0;2 a to 2 put 1;0 b to 0 put 0;1 b to 1 put 0;1 b to 1 put 1;"
                + "1 b to 2 put 0;1 b to 2 put 1;2 b to 1 put 0;2 b to 1 put 1;2 b to 2 put 0;2 b to 2 put 1;"
                + "0 b to 1 put 0;0 b to 1 put 1;0 b to 2 put 0;0 c to 0;1 c to 1;2 c to 2;0 c to 1;"
                + "0 d to 0;1 d to 1;2 d to 2;0 d to 1;0 d to 2";
        check.due("6 so many moves", taught(0, 3, 2, 7, moves).count(2), 30);
        long[] numbers = {1, 2, 3, 4, 5, 64, 1000, MODULUS - 2, MODULUS - 1, MODULUS, MODULUS + 1, 2 * MODULUS - 1,
            2 * MODULUS, 2 * MODULUS + 1, 3 * MODULUS, Integer.MAX_VALUE, 1L << 31, 1L << 32};
        for (long number : numbers) {
            String letters = lettersFor(number - 1);
            NestReaders x = taught(0, 3, 2, 7, moves);
            Check.row(x, letters);
            check.due("13 " + number + " runs of " + letters, x.run(0, letters.length(), 2), number % MODULUS);
            check.due("13 it is taken", x.run(0, letters.length(), 1), 1);
        }
        NestReaders x = taught(0, 3, 2, 7, moves);
        Check.row(x, "02");
        check.due("13 on the first 0", x.run(0, 0, 2), 1);
        check.due("13 on the first 2", x.run(0, 2, 2), 2);
        check.due("13 behind the row", x.run(0, 3, 2), OUTSIDE);
        check.due("13 below 0", x.run(0, -1, 2), OUTSIDE);
        check.due("13 what below 0", x.run(0, 2, -1), OUTSIDE);
        check.due("13 what 3", x.run(0, 2, 3), OUTSIDE);
        check.due("13 no moves: no runs", x.run(1, 1, 2), 0);
        check.due("13 but of the empty row one", x.run(1, 0, 2), 1);
    }

    private static String lettersFor(long number) {
        StringBuilder letters = new StringBuilder();
        for (int shift = 62; shift >= 0; shift -= 2) {
            int digit = (int) (number >> shift & 3);
            boolean first = number >> shift >> 2 == 0;
            if (!first || digit > 0) {
                letters.append(new String[] {"0", first ? "2" : "02", first ? "3" : "03", "1"}[digit]);
            }
        }
        return letters.toString();
    }

    /** "bit 3 p + q for p to q"; "begun in the first one (with whatever MARKS ahead)". */
    private static void betweens() {
        for (int n = 1; n <= 3; n++) {
            NestReaders x = new NestReaders();
            x.reader(0, n, 1, 0);
            check.due("14 empty row, " + n + " states", x.between(0), new int[] {1, 17, 273}[n - 1]);
            for (int p = 0; p < n; p++) {
                for (int q = 0; q < n; q++) {
                    NestReaders y = taught(0, n, 1, 0, p + " c to " + q);
                    Check.row(y, "2");
                    check.due("14 bit of " + p + " to " + q, y.between(0), 1 << 3 * p + q);
                    y.row(3, 1);
                    check.due("14 not by d", y.between(0), 0);
                }
            }
        }
        NestReaders x = taught(1, 3, 2, 0, "2 a to 1 put 1;1 e take 1 to 0;1 e take none to 2;2 b to 2 put 0;2 f take 1 to 2");
        Check.row(x, "04");
        check.due("14 the partner's mark", x.between(1), 1 << 6);
        Check.row(x, "15");
        check.due("14 not another one", x.between(1), 0);
        NestReaders all = taught(1, 3, 1, 0, "0 c to 0;0 c to 1;0 c to 2;1 c to 0;1 c to 1;1 c to 2;2 c to 0;2 c to 1;2 c to 2");
        Check.row(all, "222222222222222222222222");
        check.due("14 all pairs", all.between(1), 511);
    }

    /** "Two rows are at one PLACE, if both are alike (of both READERS, if asked of both)". */
    private static void placesAlike() {
        NestReaders x = taught(0, 2, 1, 0, "0 c to 0;1 c to 1;0 d to 0;0 a to 0 put 0;0 e take none to 0");
        Check.row(x, "230042");
        check.due("16 come and since are the same", x.alike(0, 0, 1), 1);
        check.due("16 come is, since is not", x.alike(0, 1, 2), 0);
        check.due("16 since is, come is not", x.alike(0, 3, 5), 0);
        check.due("16 what opens: the same come, since begins", x.alike(0, 0, 3), 1);
        check.due("16 at another depth", x.alike(0, 3, 4), 1);
        check.due("16 the last ones", x.alike(0, 5, 6), 1);
        check.due("16 itself, all of it", x.alike(0, 6, 6), 1);
        check.due("16 behind it", x.alike(0, 6, 7), OUTSIDE);
        check.due("16 behind it, first", x.alike(0, 7, 6), OUTSIDE);
        check.due("16 below 0", x.alike(0, 0, -1), OUTSIDE);
        check.due("16 below 0, first", x.alike(0, -1, 0), OUTSIDE);
        check.due("16 of the other: not", x.alike(1, 0, 1), 0);
        check.due("16 of both: not", x.alike(2, 0, 1), 0);
        check.due("16 of the other: yes", x.alike(1, 1, 2), 1);
        check.due("16 of both: not either", x.alike(2, 1, 2), 0);
        check.due("16 of both: itself", x.alike(2, 3, 3), 1);
        Check.teach(x, 1, "0 c to 0;0 a to 0 put 0");
        check.due("16 of both: yes", x.alike(2, 0, 1), 1);
        NestReaders y = new NestReaders();
        for (int r = 0; r < 3; r++) {
            check.due("16 the empty row", y.alike(r, 0, 0), 1);
            check.due("16 nothing else there", y.alike(r, 0, 1), OUTSIDE);
        }
        y = taught(0, 1, 1, 1, "0 e take none to 0;0 c to 0");
        Check.row(y, "42");
        check.due("16 since begins anew behind one that closes nothing", y.alike(0, 0, 1), 1);
        check.due("16 and goes on", y.alike(0, 1, 2), 1);
    }

    private static List<Oracle> oracles(int states, int marks, String... moves) {
        List<Oracle> all = new ArrayList<>();
        for (String some : moves) {
            Oracle reader = new Oracle(states, marks, 0);
            for (String move : some.split(";")) {
                reader.add(moveOf(move));
            }
            all.add(reader);
        }
        return all;
    }

    private static List<Integer> moveOf(String told) {
        String[] word = told.trim().split(" ");
        int from = Integer.parseInt(word[0]);
        int letter = word[1].charAt(0) - 'a';
        if (letter < 2) {
            return List.of(from, letter, Integer.parseInt(word[5]), Integer.parseInt(word[3]));
        }
        if (letter < 4) {
            return List.of(from, letter, 0, Integer.parseInt(word[3]));
        }
        int mark = word[3].equals("none") ? NONE : Integer.parseInt(word[3]);
        return List.of(from, letter, mark, Integer.parseInt(word[5]));
    }

    /** "PLACES of all rows: how many": of readers whose rows of at most 5 letters come to all of them. */
    private static void placesOfAllRows() {
        String[] readers = {"0 c to 0", Kinds.MATCHING, ALL, "0 c to 1;1 d to 0", "0 c to 1;1 d to 0;0 a to 1 put 0;1 e take 0 to 0",
            "0 f take none to 1;1 f take none to 2;0 a to 2 put 1", "0 c to 1;1 c to 2;2 c to 0",
            "0 a to 1 put 0;0 b to 1 put 1;1 f take 1 to 0;1 e take 0 to 2;2 e take none to 1"};
        for (String one : readers) {
            Oracle first = oracles(3, 2, one).get(0);
            NestReaders x = taught(0, 3, 2, 4, one);
            check.due("15 places of all rows of " + one, x.places(0), placesSeen(List.of(first), "", 5).size());
            x.reader(1, 3, 2, 1);
            Check.teach(x, 1, readers[3]);
            List<Oracle> both = List.of(first, oracles(3, 2, readers[3]).get(0));
            check.due("15 places of both, " + one, x.places(2), placesSeen(both, "", 5).size());
        }
    }

    private static Set<String> placesSeen(List<Oracle> readers, String row, int more) {
        StringBuilder place = new StringBuilder();
        for (Oracle reader : readers) {
            place.append(reader.place(row)).append(' ');
        }
        Set<String> seen = new HashSet<>();
        seen.add(place.toString());
        for (int letter = 0; letter < 6 && more > 0; letter++) {
            seen.addAll(placesSeen(readers, row + letter, more - 1));
        }
        return seen;
    }

    /** "SPENT: more than 60." Of one reader: 60 by 6 moves, 61 by one more. */
    private static void sixtyPlaces() {
        check.due("15 so many", Oracle.places(oracles(3, 1, Kinds.SIXTY), 99).size(), 60);
        check.due("15 one more", Oracle.places(oracles(3, 1, Kinds.SIXTY + ";" + Kinds.MOVE_MORE), 99).size(), 61);
        List<Oracle> withNew = List.of(oracles(3, 1, Kinds.SIXTY).get(0), new Oracle(1, 1, 0));
        check.due("15 no more with a new one", Oracle.places(withNew, 99).size(), 60);
        for (int reader = 0; reader < 2; reader++) {
            NestReaders x = new NestReaders();
            Kinds.sixty(x, reader);
            check.due("15 sixty", x.places(reader), 60);
            check.due("17 not spent", x.shortest(reader), 1);
            check.due("18 not spent", x.first(reader, 0), 2);
            check.due("19 not spent", x.many(reader, 1), 1);
            check.due("20 the same", x.of(reader, 1, 0, 0), 2);
            check.due("21 not spent", x.watch(reader, 1), 7);
            check.due("15 of both as many", x.places(2), 60);
            check.due("22 not spent", x.compare(0), 0);
            Check.teach(x, reader, Kinds.MOVE_MORE);
            check.due("15 sixty one", x.places(reader), SPENT);
            check.due("17 spent", x.shortest(reader), SPENT);
            check.due("18 spent", x.first(reader, 0), SPENT);
            check.due("19 spent", x.many(reader, 1), SPENT);
            check.due("21 spent", x.watch(reader, 1), SPENT);
            check.due("20 is never spent", x.of(reader, 1, 0, 0), 2);
            check.due("16 is never spent", x.alike(reader, 0, 1), 0);
            check.due("13 is never spent", x.run(reader, 1, 0), 4);
            check.due("14 is never spent", x.between(reader) < 0 ? NOT : 0, 0);
            check.due("15 the other one is not", x.places(1 - reader), 3);
            check.due("17 the other one is not", x.shortest(1 - reader), NONE);
            check.due("15 both are", x.places(2), SPENT);
            check.due("8 one less", x.drop(reader, 2, 0, 0, 0), 6);
            check.due("15 sixty again", x.places(reader), 60);
            check.due("21 not spent any more", x.watch(reader, 1), 7);
        }
    }

    /** The same, where each place is that of a whole row: whatever has no partner leads back to state 0. */
    private static void sixtyByWholeRows() {
        String back = "";
        for (int state = 0; state < 3; state++) {
            back += "S a to 0 put 0;S b to 0 put 0;S e take none to 0;S f take none to 0;".replace("S", "" + state);
        }
        String sixty = back + "0 e take 0 to 0;1 e take 0 to 0;2 e take 0 to 0;0 f take 0 to 0;1 f take 0 to 0;2 f take 0 to 0;"
                + "0 c to 2;1 c to 0;1 c to 2;2 c to 1;0 d to 0;0 d to 1;1 d to 2;2 d to 1";
        String more = back + "0 c to 1;0 c to 2;1 c to 2;2 c to 0;0 d to 0;1 d to 1;1 d to 2;2 d to 1;0 e take 0 to 0;"
                + "0 e take 0 to 1;1 e take 0 to 1;2 e take 0 to 0;0 f take 0 to 0;0 f take 0 to 1;1 f take 0 to 2;2 f take 0 to 1";
        check.due("15 so many", Oracle.places(oracles(3, 1, sixty), 99).size(), 60);
        check.due("15 one more", Oracle.places(oracles(3, 1, more), 99).size(), 61);
        check.due("15 sixty by whole rows", taught(0, 3, 1, 2, sixty).places(0), 60);
        check.due("17 not spent", taught(0, 3, 1, 4, sixty).shortest(0), 1);
        check.due("15 sixty one by whole rows", taught(0, 3, 1, 2, more).places(0), SPENT);
        check.due("15 of both too", taught(1, 3, 1, 2, more).places(2), SPENT);
        check.due("17 spent", taught(1, 3, 1, 4, more).shortest(1), SPENT);
    }

    /** The same of both readers, neither of which is spent. */
    private static void sixtyPlacesOfBoth() {
        List<Oracle> both = List.of(oracles(3, 1, Kinds.THREE_STATES).get(0), oracles(2, 1, Kinds.TWO_STATES).get(0));
        check.due("15 so many of both", Oracle.places(both, 99).size(), 60);
        NestReaders x = new NestReaders();
        Kinds.sixtyOfBoth(x);
        check.due("15 of the one", x.places(0), 31);
        check.due("15 of the other", x.places(1), 8);
        check.due("15 sixty of both", x.places(2), 60);
        check.due("22 not spent", x.compare(0), 0);
        check.due("23 not spent", x.parted(), 1);
        check.due("24 not spent", x.both() == SPENT ? 1 : 0, 0);
        Check.teach(x, 1, Kinds.OTHER_MORE);
        check.due("15 the one is not spent", x.places(0), 31);
        check.due("15 nor is the other", x.places(1) == SPENT ? 1 : 0, 0);
        check.due("15 both are", x.places(2), SPENT);
        for (int what = 0; what < 5; what++) {
            check.due("22 spent", x.compare(what), SPENT);
        }
        check.due("23 spent", x.parted(), SPENT);
        check.due("24 spent", x.both(), SPENT);
        check.due("17 of one: not", x.shortest(0) == SPENT ? 1 : 0, 0);
        check.due("21 of one: not", x.watch(1, 0) == SPENT ? 1 : 0, 0);
        check.due("16 of both: never", x.alike(2, 0, 5), 0);
        x.drop(1, 0, 1, 0, 0);
        check.due("15 sixty again", x.places(2), 60);
        check.due("22 not spent any more", x.compare(0), 0);
    }

    /** "how long the shortest row is that is TAKEN"; "NONE". */
    private static void shortest() {
        check.due("17 the empty row", taught(0, 1, 1, 1, "0 c to 0").shortest(0), 0);
        check.due("17 no state takes", taught(0, 1, 1, 0, "0 c to 0").shortest(0), NONE);
        check.due("17 one letter", taught(0, 2, 1, 2, "0 f take none to 1").shortest(0), 1);
        check.due("17 a mark that no one puts", taught(0, 2, 2, 2, "0 a to 0 put 0;0 f take 1 to 1").shortest(0), NONE);
        check.due("17 half open", taught(0, 3, 1, 4, "0 a to 1 put 0;1 b to 2 put 0").shortest(0), 2);
        check.due("17 closes what must be opened", taught(0, 2, 1, 2, "0 a to 0 put 0;0 f take 0 to 1").shortest(0), 2);
    }

    private static final String FIVE = "1 f take 0 to 2;1 a to 0 put 0;0 b to 1 put 1;1 e take 1 to 1";
    private static final String SIX = "0 f take 1 to 1;0 b to 0 put 1;1 e take 0 to 2;1 b to 0 put 0";

    /** "told if it has 5 at most"; "NONE: there is none, it has not so many, or more than 5". */
    private static void first() {
        NestReaders x = taught(1, 3, 2, 4, FIVE);
        check.due("17 five", x.shortest(1), 5);
        for (int k = -1; k <= 6; k++) {
            check.due("18 letter " + k, x.first(1, k), k < 0 ? OUTSIDE : k < 5 ? "10145".charAt(k) - '0' : NONE);
        }
        x = taught(1, 3, 2, 4, SIX);
        check.due("17 six", x.shortest(1), 6);
        for (int k = -1; k <= 7; k++) {
            check.due("18 of six, letter " + k, x.first(1, k), k < 0 ? OUTSIDE : NONE);
        }
        x = taught(1, 1, 1, 1, ALL);
        for (int k = -1; k <= 1; k++) {
            check.due("18 of none, letter " + k, x.first(1, k), k < 0 ? OUTSIDE : NONE);
            check.due("18 no row, letter " + k, x.first(0, k), k < 0 ? OUTSIDE : NONE);
        }
        for (int letter = 5; letter >= 0; letter--) {
            x = new NestReaders();
            x.reader(1, 2, 1, 2);
            for (int by = 5; by >= letter; by--) {
                Check.teach(x, 1, new String[] {"0 a to 1 put 0", "0 b to 1 put 0", "0 c to 1", "0 d to 1",
                    "0 e take none to 1", "0 f take none to 1"}[by]);
            }
            check.due("18 the first by letters", x.first(1, 0), letter);
            check.due("18 of one letter", x.first(1, 1), NONE);
            check.due("19 so many of one letter", x.many(1, 1), 6 - letter);
        }
    }

    /** "MANY of a length (0 .. 12): how many are TAKEN, modulo 1000000007." */
    private static void many() {
        NestReaders x = taught(0, 1, 1, 1, ALL);
        long all = 1;
        for (int n = 0; n <= 12; n++) {
            check.due("19 all rows of " + n, x.many(0, n), all % MODULUS);
            check.due("19 none of " + n, x.many(1, n), 0);
            all *= 6;
        }
        for (int n : new int[] {-1, 13}) {
            check.due("19 of " + n, x.many(0, n), OUTSIDE);
            check.due("19 of " + n + " of the other", x.many(1, n), OUTSIDE);
        }
        long eleven = 362797056;
        String begin = "";
        for (int first = 1; first <= 6; first++) {
            begin += new String[] {"0 d to 1", ";0 a to 1 put 0", ";0 e take none to 1", ";0 c to 1", ";0 b to 1 put 0",
                ";0 f take none to 1"}[first - 1];
            NestReaders y = taught(0, 2, 1, 2, begin + ";" + stays(1));
            check.due("19 with " + first + " first letters", y.many(0, 12), first * eleven % MODULUS);
            check.due("19 none of them empty", y.many(0, 0), 0);
            check.due("19 one letter", y.many(0, 1), first);
        }
    }

    /** "OF a length (0 .. 5): the i-th that is TAKEN, by LETTERS"; "NONE: there is no such". */
    private static void of() {
        NestReaders x = taught(1, 1, 1, 1, ALL);
        int all = 1;
        for (int n = 0; n <= 5; n++) {
            for (int k = 0; k <= 6; k++) {
                int row = 12345 % all;
                int letter = (int) (row / Math.pow(6, Math.max(0, n - 1 - k))) % 6;
                check.due("20 letter " + k + " of row " + row + " of " + n, x.of(1, n, row, k), k < n ? letter : NONE);
                check.due("20 letter " + k + " of the first of " + n, x.of(1, n, 0, k), k < n ? 0 : NONE);
                check.due("20 letter " + k + " of the last of " + n, x.of(1, n, all - 1, k), k < n ? 5 : NONE);
                check.due("20 letter " + k + " behind the last of " + n, x.of(1, n, all, k), NONE);
                check.due("20 of the other there is none", x.of(0, n, 0, k), NONE);
            }
            check.due("20 row -1 of " + n, x.of(1, n, -1, 0), OUTSIDE);
            check.due("20 letter -1 of " + n, x.of(1, n, 0, -1), OUTSIDE);
            all *= 6;
        }
        check.due("20 of length -1", x.of(1, -1, 0, 0), OUTSIDE);
        check.due("20 of length 6", x.of(1, 6, 0, 0), OUTSIDE);
    }

    /** "1 some row that goes on from it (also itself) is TAKEN; 2 some such row is not; 4 itself is; together." */
    private static void watch() {
        NestReaders x = taught(0, 1, 1, 1, ALL);
        Check.row(x, "012345012345012345012345");
        for (int k = -1; k <= 25; k++) {
            check.due("21 always taken " + k, x.watch(0, k), k < 0 || k > 24 ? OUTSIDE : 5);
            check.due("21 never taken " + k, x.watch(1, k), k < 0 || k > 24 ? OUTSIDE : 2);
        }
        x = taught(0, 3, 1, 2, "0 c to 1;1 c to 2");
        Check.row(x, "222");
        int[] seen = {3, 7, 2, 2, OUTSIDE};
        for (int k = 0; k < seen.length; k++) {
            check.due("21 only c: " + k, x.watch(0, k), seen[k]);
        }
        x = taught(0, 1, 1, 1, ALL.replace("0 f take none to 0", "0 c to 0"));
        Check.row(x, "5");
        check.due("21 now taken, not always", x.watch(0, 0), 7);
        check.due("21 never any more", x.watch(0, 1), 2);
        x = taught(0, 2, 1, 2, ALL + ";0 c to 1;" + stays(1));
        Check.row(x, "2");
        check.due("21 not yet, perhaps never", x.watch(0, 0), 3);
        check.due("21 from now on always", x.watch(0, 1), 5);
        check.due("21 the empty row of a new object", new NestReaders().watch(1, 0), 2);
    }

    /** "what both TAKE, what one does alone"; compare's what 0 .. 4, parted and both with none. */
    private static void sideBySide() {
        String[] takes = {"no row", "the empty row", "all rows"};
        int[][][] want = {
            {{1, 1, 1, 1, 0, NONE, NONE}, {0, 1, 0, 1, 0, 0, NONE}, {0, 1, 0, 1, 1, 0, NONE}},
            {{0, 0, 1, 1, 0, 0, NONE}, {1, 1, 1, 0, 0, NONE, 0}, {0, 1, 0, 0, 1, 1, 0}},
            {{0, 0, 1, 1, 1, 0, NONE}, {0, 0, 1, 0, 1, 1, 0}, {1, 1, 1, 0, 1, NONE, 0}}};
        for (int one = 0; one < 3; one++) {
            for (int other = 0; other < 3; other++) {
                NestReaders x = new NestReaders();
                for (int r = 0; r < 2; r++) {
                    int which = r == 0 ? one : other;
                    x.reader(r, 1, 1, which == 0 ? 0 : 1);
                    if (which == 2) {
                        Check.teach(x, r, ALL);
                    }
                }
                String told = takes[one] + " and " + takes[other];
                for (int what = -1; what <= 5; what++) {
                    int due = what < 0 || what > 4 ? OUTSIDE : want[one][other][what];
                    check.due("22 " + told + ", what " + what, x.compare(what), due);
                }
                check.due("23 " + told, x.parted(), want[one][other][5]);
                check.due("24 " + told, x.both(), want[one][other][6]);
            }
        }
    }

    /** The length of the shortest row that both take, letter by letter with all runs of both. */
    private static int shortestOfBoth(List<Oracle> both, int most) {
        Set<List<Map<String, Long>>> here = new HashSet<>();
        here.add(List.of(both.get(0).begin(0), both.get(1).begin(0)));
        for (int length = 0; length <= most; length++) {
            Set<List<Map<String, Long>>> next = new HashSet<>();
            for (List<Map<String, Long>> runs : here) {
                if ((Oracle.ends(runs.get(0)) & 4) != 0 && (Oracle.ends(runs.get(1)) & 4) != 0) {
                    return length;
                }
                for (int letter = 0; letter < 6; letter++) {
                    Map<String, Long> one = Oracle.keys(both.get(0).step(runs.get(0), letter));
                    Map<String, Long> other = Oracle.keys(both.get(1).step(runs.get(1), letter));
                    if (!one.isEmpty() && !other.isEmpty()) {
                        next.add(List.of(one, other));
                    }
                }
            }
            here = next;
        }
        return NONE;
    }

    /** Rows that are spoken of may be longer than THE ROW can be: 23 letters, 26. */
    private static void beyondTheRow() {
        String[] near = {"0 b to 2 put 1;2 b to 2 put 1;2 e take 1 to 0;1 f take 1 to 0;0 e take 1 to 1;2 c to 2;0 c to 1",
            "1 f take 1 to 2;0 b to 0 put 0;0 f take 0 to 1;0 e take 0 to 0;1 e take 1 to 1;1 b to 0 put 1;2 b to 2 put 0;"
                    + "1 d to 1;1 d to 2;2 e take none to 0;0 d to 2;1 e take none to 2"};
        NestReaders x = taught(0, 3, 2, 4, near[0]);
        x.reader(1, 3, 2, 4);
        Check.teach(x, 1, near[1]);
        check.due("24 so far", shortestOfBoth(oracles(3, 2, near), 30), 23);
        check.due("24 twenty three", x.both(), 23);
        Check.row(x, "11144511114451111445451");
        check.due("13 the one takes it", x.run(0, 23, 1), 1);
        check.due("13 the other one too", x.run(1, 23, 1), 1);
        for (int k = 0; k < 23; k++) {
            check.due("13 not both " + k, x.run(0, k, 1) & x.run(1, k, 1), 0);
        }
        String[] far = {"2 e take 1 to 2;2 a to 0 put 0;0 e take 0 to 0;2 f take 0 to 0;0 f take 1 to 2;0 b to 0 put 1;"
                + "0 d to 2;0 a to 0 put 1;1 b to 2 put 0",
            "0 e take 0 to 2;0 e take 0 to 1;1 f take 0 to 0;1 a to 2 put 0;2 d to 1;2 c to 0;0 b to 2 put 1"};
        x = taught(0, 3, 2, 4, far[0]);
        x.reader(1, 3, 2, 4);
        Check.teach(x, 1, far[1]);
        check.due("24 farther", shortestOfBoth(oracles(3, 2, far), 30), 26);
        check.due("24 twenty six", x.both(), 26);
        check.due("22 so something is taken by both", x.compare(3), 0);
    }

    /** "0 LETTERS of THE ROW, 1 bytes of THE TEXT, 2 MOVES of READER 0, 3 of READER 1." */
    private static void counts() {
        NestReaders x = new NestReaders();
        for (int what = -1; what <= 4; what++) {
            check.due("25 count " + what + " at first", x.count(what), what < 0 || what > 3 ? OUTSIDE : 0);
        }
        Kinds.full(x);
        int[] want = {24, 160, 8, 3};
        for (int what = -1; what <= 4; what++) {
            check.due("25 count " + what, x.count(what), what < 0 || what > 3 ? OUTSIDE : want[what]);
        }
    }

    /** "An object is used for at most 512 calls": the last one is still answered as the first. */
    private static void fiveHundredTwelve() {
        NestReaders x = new NestReaders();
        for (int call = 1; call <= 508; call += 4) {
            check.due("2 call " + call, x.reader(call / 4 % 2, 3, 2, 4), 1);
            check.due("3 call " + (call + 1), x.write(Check.packed("0 c to 2"), 8), 8);
            check.due("6 call " + (call + 2), x.moves(call / 4 % 2), 1);
            check.due("22 call " + (call + 3), x.compare(0), call == 1 ? 0 : 1);
        }
        check.due("15 call 509", x.places(2) > 0 ? 1 : 0, 1);
        check.due("19 call 510", x.many(0, 12), 0);
        check.due("20 call 511", x.of(1, 1, 0, 0), 2);
        check.due("24 call 512", x.both(), 1);
    }

    /** "Nothing is promised beyond the answers and state changes": a call that only asks changes nothing. */
    private static void askingChangesNothing() {
        Kinds.all().forEach((name, before) -> {
            for (int r = 0; r < 2; r++) {
                int reader = r;
                asks(name, x -> x.fault(reader));
                asks(name, x -> x.has(reader, 0, 2, 0, 0));
                asks(name, x -> x.run(reader, x.count(0), 0));
                asks(name, x -> x.run(reader, x.count(0) / 2, 1));
                asks(name, x -> x.run(reader, x.count(0), 2));
                asks(name, x -> x.between(reader));
                asks(name, x -> x.shortest(reader));
                asks(name, x -> x.first(reader, 0));
                asks(name, x -> x.many(reader, 12));
                asks(name, x -> x.of(reader, 5, 9, 3));
                asks(name, x -> x.watch(reader, x.count(0)));
            }
            for (int n = 0; n < 5; n++) {
                int what = n;
                asks(name, x -> x.partner(what));
                asks(name, x -> x.depth(x.count(0) - what));
                asks(name, x -> x.places(what));
                asks(name, x -> x.alike(what, 0, x.count(0)));
                asks(name, x -> x.compare(what));
                asks(name, x -> x.count(what));
            }
            asks(name, NestReaders::parted);
            asks(name, NestReaders::both);
        });
    }

    private static void asks(String name, java.util.function.ToIntFunction<NestReaders> call) {
        NestReaders x = new NestReaders();
        Kinds.all().get(name).accept(x);
        int answer = call.applyAsInt(x);
        check.due("asked again on " + name, call.applyAsInt(x), answer);
        Twins.changesNothing(check, "asked on " + name, Kinds.all().get(name), call, answer);
    }
}
