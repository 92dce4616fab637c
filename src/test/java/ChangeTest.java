import java.util.ArrayList;
import java.util.List;

/** Readers that change between the questions: an object answers as a new one does with the same readers and row. */
public final class ChangeTest {
    private static final Check check = new Check("ChangeTest");
    private static final String[] FORMS = {"S a to T put M", "S b to T put M", "S c to T", "S d to T", "S e take M to T",
        "S f take M to T", "S e take none to T", "S f take none to T"};
    private static long seed = 21;

    /** What one reader is, told again to each new object. */
    private static final class Told {
        int states = 1;
        int marks = 1;
        int takes = 0;
        final List<String> moves = new ArrayList<>();

        void tellTo(NestReaders x, int reader) {
            x.reader(reader, states, marks, takes);
            if (!moves.isEmpty()) {
                Check.teach(x, reader, String.join(";", moves));
            }
        }
    }

    private static int pick(int below) {
        seed = seed * 6364136223846793005L + 1442695040888963407L;
        return (int) ((seed >>> 33) % below);
    }

    public static void main(String[] args) {
        int rounds = args.length > 1 ? Integer.parseInt(args[0]) : 150;
        if (args.length > 1) {
            seed = Long.parseLong(args[1]);
        }
        for (int round = 0; round < rounds; round++) {
            tryOut("round " + round);
        }
        check.end();
    }

    private static void tryOut(String name) {
        NestReaders x = new NestReaders();
        Told[] readers = {new Told(), new Told()};
        String row = "";
        for (int step = 0; step < 24; step++) {
            int r = pick(2);
            boolean anew = step < 2 || pick(6) == 0;
            if (anew) {
                become(x, step < 2 ? step : r, readers[step < 2 ? step : r]);
            } else if (pick(3) > 0 || readers[r].moves.isEmpty()) {
                learn(x, r, readers[r]);
            } else {
                unlearn(x, r, readers[r]);
            }
            if (pick(4) == 0) {
                row = letters(pick(8));
                x.row(Check.packedRow(row), row.length());
            }
            NestReaders fresh = new NestReaders();
            readers[0].tellTo(fresh, 0);
            readers[1].tellTo(fresh, 1);
            Check.row(fresh, row);
            check.due(name + " moves of 0", x.count(2), readers[0].moves.size());
            check.due(name + " moves of 1", x.count(3), readers[1].moves.size());
            for (int i = 0; i < 9; i++) {
                int question = pick(12);
                int one = pick(2);
                int n = pick(13);
                int k = pick(row.length() + 1);
                check.due(name + " step " + step + " question " + question + " " + one + " " + n + " " + k,
                        answer(x, question, one, n, k), answer(fresh, question, one, n, k));
            }
        }
    }

    private static void become(NestReaders x, int r, Told reader) {
        reader.states = 1 + pick(3);
        reader.marks = 1 + pick(2);
        reader.takes = pick(1 << reader.states);
        reader.moves.clear();
        x.reader(r, reader.states, reader.marks, reader.takes);
    }

    private static void learn(NestReaders x, int r, Told reader) {
        List<String> some = new ArrayList<>();
        for (int i = pick(5); i >= 0; i--) {
            String move = FORMS[pick(FORMS.length)].replace("S", "" + pick(reader.states))
                    .replace("T", "" + pick(reader.states)).replace("M", "" + pick(reader.marks));
            if (!some.contains(move) && !reader.moves.contains(move)) {
                some.add(move);
            }
        }
        if (!some.isEmpty()) {
            reader.moves.addAll(some);
            Check.teach(x, r, String.join(";", some));
        }
    }

    private static void unlearn(NestReaders x, int r, Told reader) {
        String move = reader.moves.remove(pick(reader.moves.size()));
        String[] word = move.split(" ");
        int letter = word[1].charAt(0) - 'a';
        int from = word[0].charAt(0) - '0';
        if (letter < 4) {
            x.drop(r, from, letter, letter < 2 ? word[5].charAt(0) - '0' : 0, word[3].charAt(0) - '0');
        } else {
            x.drop(r, from, letter, word[3].equals("none") ? -1 : word[3].charAt(0) - '0', word[5].charAt(0) - '0');
        }
    }

    private static String letters(int length) {
        StringBuilder row = new StringBuilder();
        for (int i = 0; i < length; i++) {
            row.append(pick(6));
        }
        return row.toString();
    }

    private static int answer(NestReaders x, int question, int r, int n, int k) {
        switch (question) {
            case 0:
                return x.places(n % 3);
            case 1:
                return x.shortest(r);
            case 2:
                return x.first(r, n % 5);
            case 3:
            case 4:
                return x.many(r, n);
            case 5:
                return x.of(r, n % 6, n * n * k, k % 5);
            case 6:
                return x.watch(r, k);
            case 7:
                return x.compare(n % 5);
            case 8:
                return x.parted();
            case 9:
                return x.both();
            case 10:
                return x.run(r, k, n % 3);
            default:
                return x.alike(n % 3, k, x.count(0));
        }
    }
}
