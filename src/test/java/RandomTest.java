import java.util.ArrayList;
import java.util.HashSet;
import java.util.List;
import java.util.Map;
import java.util.Set;

/** Many readers and rows, the same ones each time, held against the oracle. */
public final class RandomTest {
    private static final Check check = new Check("RandomTest");
    private static long seed = 1;
    private static int spentSeen = 0;
    private static int placesSeen = 0;
    private static int farSeen = 0;

    private static int pick(int below) {
        seed = seed * 6364136223846793005L + 1442695040888963407L;
        return (int) ((seed >>> 33) % below);
    }

    public static void main(String[] args) {
        int rounds = args.length > 1 ? Integer.parseInt(args[0]) : 100;
        if (args.length > 1) {
            seed = Long.parseLong(args[1]);
        }
        for (int round = 0; round < rounds; round++) {
            tryOut("round " + round);
        }
        for (int round = 0; round < rounds; round++) {
            tryDense("dense " + round);
        }
        for (int round = 0; round < 20 * rounds; round++) {
            tryFar("sparse " + round);
        }
        if (args.length < 2) {
            // Fewer rounds, or others, may well see no such reader: that is no fault of the class.
            check.yes("places are spent now and then: " + spentSeen, spentSeen > 0);
            check.yes("and not spent: " + placesSeen, placesSeen > 0);
            check.yes("rows of more than 3 letters are shortest: " + farSeen, farSeen > 0);
        }
        check.end();
    }

    private static void tryOut(String name) {
        NestReaders x = new NestReaders();
        Oracle[] readers = new Oracle[2];
        boolean sparse = pick(3) == 0;
        int most = sparse ? 4 + pick(4) : 4 + pick(16);
        for (int r = 0; r < 2; r++) {
            int states = sparse ? 3 : 1 + pick(3);
            readers[r] = new Oracle(states, sparse ? 2 : 1 + pick(2), sparse ? 4 : pick(1 << states));
        }
        if (pick(3) == 0) {
            readers[1] = new Oracle(readers[0].states, readers[0].marks, readers[0].takes);
        }
        for (int r = 0; r < 2; r++) {
            x.reader(r, readers[r].states, readers[r].marks, readers[r].takes);
            addMoves(x, r, readers[r], most, r == 1 ? readers[0] : null);
            check.due(name + " count", x.count(2 + r), readers[r].moves().size());
            if (!readers[r].moves().isEmpty() && pick(3) == 0) {
                List<Integer> move = new ArrayList<>(readers[r].moves()).get(pick(readers[r].moves().size()));
                readers[r].remove(move);
                x.places(r);
                check.due(name + " drop " + move, x.drop(r, move.get(0), move.get(1), move.get(2), move.get(3)),
                        readers[r].moves().size());
            }
            checkMoves(name, x, r, readers[r]);
        }
        for (int i = 0; i < 3; i++) {
            tryRow(name, readers, 4 + 4 * i);
        }
        x = made(readers, "");
        boolean[] spent = new boolean[3];
        for (int r = 0; r < 3; r++) {
            List<Oracle> asked = r < 2 ? List.of(readers[r]) : List.of(readers);
            Set<List<Integer>> places = Oracle.places(asked, 60);
            spent[r] = places.size() > 60;
            check.due(name + " places " + r, x.places(r), spent[r] ? NestReaders.SPENT : places.size());
            spentSeen += spent[r] ? 1 : 0;
            placesSeen += spent[r] ? 0 : 1;
        }
        for (int r = 0; r < 2; r++) {
            tryTaken(name + " reader " + r, made(readers, ""), r, readers[r], spent[r]);
        }
        tryBoth(name, made(readers, ""), readers, spent[2]);
    }

    /** A reader with half of all moves that there can be: many runs, all states and marks on the way. */
    private static void tryDense(String name) {
        NestReaders x = new NestReaders();
        int states = 1 + pick(3);
        Oracle reader = new Oracle(states, 1 + pick(2), pick(1 << states));
        x.reader(1, states, reader.marks, reader.takes);
        StringBuilder moves = new StringBuilder();
        for (int letter = 0; letter < 6; letter++) {
            boolean plain = letter == 2 || letter == 3;
            for (int mark = letter > 3 ? -1 : 0; mark < (plain ? 1 : reader.marks); mark++) {
                for (int pair = 0; pair < 9; pair++) {
                    if (pair / 3 < states && pair % 3 < states && pick(2) == 0) {
                        List<Integer> move = List.of(pair / 3, letter, mark, pair % 3);
                        reader.add(move);
                        moves.append(moves.length() == 0 ? "" : ";").append(told(move));
                    }
                }
            }
        }
        Check.teach(x, 1, moves.toString());
        check.due(name + " moves", x.count(3), reader.moves().size());
        for (int i = 0; i < 3; i++) {
            String row = someRow(6 + pick(7));
            Check.row(x, row);
            for (int k = 0; k <= row.length(); k++) {
                Map<String, Long> runs = reader.runs(row.substring(0, k), 0);
                check.due(name + " " + row + " ends " + k, x.run(1, k, 0), Oracle.ends(runs));
                check.due(name + " " + row + " runs " + k, x.run(1, k, 2), Oracle.number(runs));
            }
            int between = Oracle.isWhole(row) ? reader.between(row) : NestReaders.NOT;
            check.due(name + " " + row + " between", x.between(1), between);
        }
    }

    /** Readers with few moves and one state that takes: those whose shortest rows are long are held against the oracle. */
    private static void tryFar(String name) {
        NestReaders x = new NestReaders();
        List<Oracle> readers = List.of(new Oracle(3, 2, 4), new Oracle(3, 2, 4));
        for (int r = 0; r < 2; r++) {
            x.reader(r, 3, 2, 4);
            addMoves(x, r, readers.get(r), 4 + pick(3), null);
            int shortest = x.shortest(r);
            if (shortest > 3) {
                farSeen++;
                check.due(name + " shortest", shortest, least(readers.subList(r, r + 1), 0));
            }
        }
        if (x.parted() > 3) {
            check.due(name + " parted", x.parted(), least(readers, 2));
        }
        if (x.both() > 3) {
            check.due(name + " both", x.both(), least(readers, 1));
        }
    }

    private static void addMoves(NestReaders x, int r, Oracle reader, int most, Oracle like) {
        StringBuilder text = new StringBuilder();
        int inText = 0;
        List<List<Integer>> all = new ArrayList<>();
        if (like != null && like.states == reader.states && like.marks == reader.marks) {
            all.addAll(like.moves());
        }
        for (int i = all.size(); i < most; i++) {
            int letter = pick(6);
            int mark = letter == 2 || letter == 3 ? 0 : pick(reader.marks);
            mark = letter > 3 && pick(4) == 0 ? -1 : mark;
            all.add(List.of(pick(reader.states), letter, mark, pick(reader.states)));
        }
        for (List<Integer> move : all) {
            reader.add(move);
            String told = told(move);
            if (inText == 16 || text.length() + told.length() + 1 > 160) {
                Check.tell(x, text.toString());
                x.moves(r);
                text.setLength(0);
                inText = 0;
            }
            text.append(inText > 0 ? ";" : "").append(told);
            inText++;
        }
        Check.tell(x, text.toString());
        x.moves(r);
    }

    static String told(List<Integer> move) {
        int letter = move.get(1);
        String head = move.get(0) + " " + "abcdef".charAt(letter);
        if (letter < 2) {
            return head + " to " + move.get(3) + " put " + move.get(2);
        }
        if (letter < 4) {
            return head + " to " + move.get(3);
        }
        return head + " take " + (move.get(2) < 0 ? "none" : "" + move.get(2)) + " to " + move.get(3);
    }

    private static void checkMoves(String name, NestReaders x, int r, Oracle reader) {
        for (int from = 0; from < reader.states; from++) {
            for (int to = 0; to < reader.states; to++) {
                for (int letter = 0; letter < 6; letter++) {
                    boolean plain = letter == 2 || letter == 3;
                    for (int mark = letter > 3 ? -1 : 0; mark < (plain ? 1 : reader.marks); mark++) {
                        List<Integer> move = List.of(from, letter, mark, to);
                        check.due(name + " has " + move, x.has(r, from, letter, mark, to),
                                reader.moves().contains(move) ? 1 : 0);
                    }
                }
            }
        }
    }

    private static String someRow(int length) {
        StringBuilder row = new StringBuilder();
        boolean whole = pick(2) == 0;
        int deep = 0;
        while (row.length() < length) {
            int letter = pick(6);
            if (whole && deep == length - row.length()) {
                letter = 4 + pick(2);
            } else if (whole && letter > 3 && deep == 0 || whole && letter < 2 && deep + 2 > length - row.length()) {
                letter = 2;
            }
            deep += letter < 2 ? 1 : letter > 3 ? -1 : 0;
            row.append(letter);
        }
        return row.toString();
    }

    /** A new object with these readers and this row: no object is to be asked more than 512 times. */
    private static NestReaders made(Oracle[] readers, String row) {
        NestReaders x = new NestReaders();
        for (int r = 0; r < 2; r++) {
            x.reader(r, readers[r].states, readers[r].marks, readers[r].takes);
            if (!readers[r].moves().isEmpty()) {
                Check.teach(x, r, told(readers[r].moves()));
            }
        }
        Check.row(x, row);
        return x;
    }

    private static String told(Set<List<Integer>> moves) {
        StringBuilder all = new StringBuilder();
        for (List<Integer> move : moves) {
            all.append(all.length() == 0 ? "" : ";").append(told(move));
        }
        return all.toString();
    }

    private static void tryRow(String name, Oracle[] readers, int length) {
        String row = someRow(length);
        NestReaders x = made(readers, row);
        int[] partner = Oracle.partners(row);
        for (int i = 0; i < length; i++) {
            check.due(name + " " + row + " partner " + i, x.partner(i), partner[i]);
        }
        for (int k = 0; k <= length; k++) {
            String part = row.substring(0, k);
            int[] inPart = Oracle.partners(part);
            int deep = 0;
            for (int i = 0; i < k; i++) {
                deep += part.charAt(i) < '2' && inPart[i] < 0 ? 1 : 0;
            }
            check.due(name + " " + part + " depth", x.depth(k), deep);
            for (int r = 0; r < 2; r++) {
                Map<String, Long> runs = readers[r].runs(part, 0);
                int ends = Oracle.ends(runs);
                check.due(name + " " + part + " ends " + r, x.run(r, k, 0), ends);
                check.due(name + " " + part + " taken " + r, x.run(r, k, 1), (ends & readers[r].takes) != 0 ? 1 : 0);
                check.due(name + " " + part + " runs " + r, x.run(r, k, 2), Oracle.number(runs));
            }
        }
        tryPlaces(name + " " + row, readers, row);
    }

    private static void tryPlaces(String name, Oracle[] readers, String row) {
        NestReaders x = made(readers, row);
        int length = row.length();
        for (int r = 0; r < 2; r++) {
            check.due(name + " between " + r, x.between(r),
                    Oracle.isWhole(row) ? readers[r].between(row) : NestReaders.NOT);
        }
        String[][] place = new String[2][length + 1];
        for (int k = 0; k <= length; k++) {
            place[0][k] = readers[0].place(row.substring(0, k));
            place[1][k] = readers[1].place(row.substring(0, k));
        }
        for (int i = 0; i <= length; i++) {
            NestReaders y = made(readers, row);
            for (int j = 0; j <= length; j++) {
                int one = place[0][i].equals(place[0][j]) ? 1 : 0;
                int other = place[1][i].equals(place[1][j]) ? 1 : 0;
                check.due(name + " alike 0 " + i + " " + j, y.alike(0, i, j), one);
                check.due(name + " alike 1 " + i + " " + j, y.alike(1, i, j), other);
                check.due(name + " alike 2 " + i + " " + j, y.alike(2, i, j), one & other);
            }
        }
        for (int r = 0; r < 2; r++) {
            if (x.places(r) == NestReaders.SPENT) {
                check.due(name + " watch " + r, x.watch(r, 0), NestReaders.SPENT);
                continue;
            }
            for (int k = 0; k <= Math.min(length, 8); k += 1 + pick(3)) {
                int want = readers[r].watch(row.substring(0, k), 14, 4000);
                check.due(name + " watch " + r + " " + k, x.watch(r, k), want);
            }
        }
    }

    private static void tryTaken(String name, NestReaders x, int r, Oracle reader, boolean spent) {
        List<List<String>> taken = new ArrayList<>();
        for (int n = 0; n <= 5; n++) {
            taken.add(new ArrayList<>());
            collect(reader, reader.begin(0), "", n, taken.get(n));
            checkListed(name + " of " + n, x, r, n, taken.get(n));
        }
        if (spent) {
            check.due(name + " shortest", x.shortest(r), NestReaders.SPENT);
            check.due(name + " first", x.first(r, 0), NestReaders.SPENT);
            check.due(name + " many", x.many(r, 2), NestReaders.SPENT);
            return;
        }
        int least = least(List.of(reader), 0);
        farSeen += least > 3 ? 1 : 0;
        check.due(name + " shortest", x.shortest(r), least);
        for (int k = 0; k < 7; k++) {
            int want = least >= 0 && least <= 5 && k < least ? taken.get(least).get(0).charAt(k) - '0' : NestReaders.NONE;
            check.due(name + " first " + k, x.first(r, k), want);
        }
        for (int n = 0; n <= 5; n++) {
            check.due(name + " many " + n, x.many(r, n), taken.get(n).size());
        }
        int far = reader.moves().size() < 9 ? 12 : 8;
        check.due(name + " many " + far, x.many(r, far), reader.many(far));
    }

    private static void collect(Oracle reader, Map<String, Long> runs, String row, int length, List<String> taken) {
        if (row.length() == length) {
            if ((Oracle.ends(runs) & reader.takes) != 0) {
                taken.add(row);
            }
            return;
        }
        for (int letter = 0; letter < 6 && !runs.isEmpty(); letter++) {
            collect(reader, Oracle.keys(reader.step(runs, letter)), row + letter, length, taken);
        }
    }

    private static void checkListed(String name, NestReaders x, int r, int n, List<String> rows) {
        int step = Math.max(1, rows.size() / 4);
        for (int i = 0; i < rows.size(); i += step) {
            for (int k = 0; k < n; k++) {
                check.due(name + " " + i + " " + k, x.of(r, n, i, k), rows.get(i).charAt(k) - '0');
            }
        }
        if (!rows.isEmpty() && n > 0) {
            check.due(name + " last", x.of(r, n, rows.size() - 1, n - 1), rows.get(rows.size() - 1).charAt(n - 1) - '0');
        }
        check.due(name + " behind the last", x.of(r, n, rows.size(), 0), NestReaders.NONE);
        check.due(name + " behind the row", x.of(r, n, 0, n), NestReaders.NONE);
    }

    /** How long the shortest row is: by one reader; by both (what 1), by one alone (what 2). -1: none is seen. */
    private static int least(List<Oracle> readers, int what) {
        Set<List<Map<String, Long>>> seen = new HashSet<>();
        List<List<Map<String, Long>>> here = new ArrayList<>();
        List<Map<String, Long>> first = new ArrayList<>();
        for (Oracle reader : readers) {
            first.add(Oracle.keys(reader.begin(0)));
        }
        here.add(first);
        for (int length = 0; length < 12 && seen.size() < 20000; length++) {
            List<List<Map<String, Long>>> next = new ArrayList<>();
            for (List<Map<String, Long>> at : here) {
                if (isWanted(readers, at, what)) {
                    return length;
                }
            }
            for (List<Map<String, Long>> at : here) {
                for (int letter = 0; letter < 6; letter++) {
                    List<Map<String, Long>> then = new ArrayList<>();
                    for (int r = 0; r < readers.size(); r++) {
                        then.add(Oracle.keys(readers.get(r).step(at.get(r), letter)));
                    }
                    if (seen.add(then)) {
                        next.add(then);
                    }
                }
            }
            here = next;
        }
        return -1;
    }

    private static boolean isWanted(List<Oracle> readers, List<Map<String, Long>> at, int what) {
        boolean one = (Oracle.ends(at.get(0)) & readers.get(0).takes) != 0;
        if (what == 0) {
            return one;
        }
        boolean other = (Oracle.ends(at.get(1)) & readers.get(1).takes) != 0;
        switch (what) {
            case 1:
                return one && other;
            case 2:
                return one != other;
            case 3:
                return one && !other;
            case 4:
                return other && !one;
            default:
                return !one && !other;
        }
    }

    private static void tryBoth(String name, NestReaders x, Oracle[] readers, boolean spent) {
        List<Oracle> both = List.of(readers);
        if (spent) {
            for (int what = 0; what < 5; what++) {
                check.due(name + " compare " + what, x.compare(what), NestReaders.SPENT);
            }
            check.due(name + " parted", x.parted(), NestReaders.SPENT);
            check.due(name + " both", x.both(), NestReaders.SPENT);
            return;
        }
        int[] against = {2, 3, 4, 1, 5};
        for (int what = 0; what < 5; what++) {
            check.due(name + " compare " + what, x.compare(what), least(both, against[what]) < 0 ? 1 : 0);
        }
        check.due(name + " parted", x.parted(), least(both, 2));
        check.due(name + " both", x.both(), least(both, 1));
    }
}
