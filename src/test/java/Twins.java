import java.util.ArrayList;
import java.util.List;
import java.util.function.Consumer;
import java.util.function.Function;
import java.util.function.ToIntFunction;

/**
 * Two objects with the same calls behind them, of which one gets one call more. All that can be told of
 * an object is then told of both; where a telling spoils the object, new ones are made for the next one.
 */
final class Twins {
    private static final List<Function<NestReaders, String>> FACES = List.of(x -> movesOf(x, 0), x -> movesOf(x, 1),
            Twins::letters, Twins::takes, Twins::text, Twins::answers, Twins::answersOfBoth);

    private Twins() {
    }

    /** A call answers as is due, and nothing is another one than without it. */
    static void changesNothing(Check check, String told, Consumer<NestReaders> before,
            ToIntFunction<NestReaders> call, int want) {
        for (int face = 0; face < FACES.size(); face++) {
            NestReaders asked = new NestReaders();
            NestReaders calm = new NestReaders();
            before.accept(asked);
            before.accept(calm);
            check.due(told, call.applyAsInt(asked), want);
            String seen = FACES.get(face).apply(asked);
            String due = FACES.get(face).apply(calm);
            check.yes(told + " changes what it should not (face " + face + "): " + seen + " is not " + due,
                    seen.equals(due));
        }
    }

    /** All that has and count tell of a reader. */
    static String movesOf(NestReaders x, int reader) {
        StringBuilder seen = new StringBuilder();
        seen.append(x.count(0)).append(' ').append(x.count(1)).append(' ').append(x.count(2 + reader)).append(' ');
        for (int letter = 0; letter < 6; letter++) {
            int least = letter < 4 ? 0 : -1;
            int most = letter == 2 || letter == 3 ? 0 : 1;
            for (int mark = least; mark <= most; mark++) {
                for (int pair = 0; pair < 9; pair++) {
                    seen.append(x.has(reader, pair / 3, letter, mark, pair % 3)).append(' ');
                }
            }
        }
        return seen.toString();
    }

    /** The row's letters: for each one a reader has twice the runs for it, and as many for any other one. */
    static String letters(NestReaders x) {
        char[] row = new char[x.count(0)];
        x.erase();
        x.reader(0, 2, 1, 0);
        for (int state = 0; state < 2; state++) {
            Check.teach(x, 0, stay("a", state) + ";" + stay("b", state) + ";" + stay("c", state) + ";"
                    + stay("d", state) + ";" + stay("e", state) + ";" + stay("f", state));
        }
        for (int letter = 0; letter < 6; letter++) {
            String name = "" + "abcdef".charAt(letter);
            Check.teach(x, 0, cross(name, 0) + ";" + cross(name, 1));
            int runs = 1;
            for (int k = 1; k <= row.length; k++) {
                int more = x.run(0, k, 2);
                row[k - 1] = more == 2 * runs ? (char) ('0' + letter) : row[k - 1];
                runs = more;
            }
            for (int state = 0; state < 2; state++) {
                x.drop(0, state, letter, 0, 1 - state);
                if (letter > 3) {
                    x.drop(0, state, letter, -1, 1 - state);
                }
            }
        }
        return new String(row);
    }

    private static String stay(String letter, int state) {
        return told(letter, state, state);
    }

    private static String cross(String letter, int state) {
        return told(letter, state, 1 - state);
    }

    private static String told(String letter, int from, int to) {
        String head = from + " " + letter;
        if (letter.equals("a") || letter.equals("b")) {
            return head + " to " + to + " put 0";
        }
        if (letter.equals("c") || letter.equals("d")) {
            return head + " to " + to;
        }
        return head + " take 0 to " + to + ";" + head + " take none to " + to;
    }

    /** Which states take. */
    static String takes(NestReaders x) {
        StringBuilder seen = new StringBuilder();
        x.erase();
        x.row(2, 1);
        for (int reader = 0; reader < 2; reader++) {
            for (int to = 0; to < 3; to++) {
                x.drop(reader, 0, 2, 0, to);
            }
            for (int to = 0; to < 3; to++) {
                Check.tell(x, "0 c to " + to);
                x.moves(reader);
                x.erase();
                seen.append(x.run(reader, 1, 0)).append(x.run(reader, 1, 1)).append(' ');
                x.drop(reader, 0, 2, 0, to);
            }
        }
        return seen.toString();
    }

    /** What the text says to each reader, and to one of three states; how many bytes more it can have then. */
    static String text(NestReaders x) {
        StringBuilder seen = new StringBuilder();
        seen.append(x.count(1)).append(' ').append(x.fault(0)).append(' ').append(x.fault(1)).append(' ');
        x.reader(0, 3, 2, 0);
        seen.append(x.fault(0)).append(' ').append(x.moves(0)).append(movesOf(x, 0)).append(' ');
        int more = 0;
        while (more < 161 && x.write(0, 1) > 0) {
            more++;
        }
        return seen.append(more).append(' ').append(x.erase()).toString();
    }

    /** What each reader answers of the row and of all rows. */
    static String answers(NestReaders x) {
        List<Integer> all = new ArrayList<>();
        int size = x.count(0);
        for (int k = 0; k <= size; k++) {
            all.add(x.depth(k));
            all.add(x.partner(k));
            for (int reader = 0; reader < 2; reader++) {
                all.add(x.run(reader, k, 0));
                all.add(x.run(reader, k, 1));
                all.add(x.run(reader, k, 2));
                all.add(x.watch(reader, k));
            }
        }
        for (int reader = 0; reader < 2; reader++) {
            all.add(x.between(reader));
            all.add(x.shortest(reader));
            for (int k = 0; k < 6; k++) {
                all.add(x.first(reader, k));
                all.add(x.of(reader, 5, 7 * k, k));
            }
            for (int n = 0; n <= 12; n++) {
                all.add(x.many(reader, n));
            }
        }
        return all.toString();
    }

    static String answersOfBoth(NestReaders x) {
        List<Integer> all = new ArrayList<>();
        for (int reader = 0; reader < 3; reader++) {
            all.add(x.places(reader));
            for (int k = 0; k <= x.count(0); k++) {
                all.add(x.alike(reader, 0, k));
                all.add(x.alike(reader, k, x.count(0)));
            }
        }
        for (int what = 0; what < 5; what++) {
            all.add(x.compare(what));
        }
        all.add(x.parted());
        all.add(x.both());
        return all.toString();
    }
}
