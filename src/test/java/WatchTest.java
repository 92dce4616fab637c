/**
 * WATCH of long and deep rows, step by step: what can still come of a row is what it is itself, and what can
 * come of the six rows that are one letter longer. RandomTest holds short rows against the oracle.
 */
public final class WatchTest {
    private static final Check check = new Check("WatchTest");
    private static final String[] FORMS = {"S a to T put M", "S b to T put M", "S c to T", "S d to T", "S e take M to T",
        "S f take M to T", "S e take none to T", "S f take none to T"};
    private static long seed = 33;
    private static int deepest = 0;
    private static int turned = 0;

    private static int pick(int below) {
        seed = seed * 6364136223846793005L + 1442695040888963407L;
        return (int) ((seed >>> 33) % below);
    }

    public static void main(String[] args) {
        int rounds = args.length > 1 ? Integer.parseInt(args[0]) : 600;
        if (args.length > 1) {
            seed = Long.parseLong(args[1]);
        }
        for (int round = 0; round < rounds; round++) {
            tryOut("round " + round);
        }
        if (args.length < 2) {
            check.yes("rows are deep: " + deepest, deepest > 12);
            check.yes("what can come of a row changes on the way: " + turned, turned > 50);
        }
        check.end();
    }

    private static void tryOut(String name) {
        NestReaders x = new NestReaders();
        int states = 2 + pick(2);
        x.reader(0, states, 2, 1 + pick((1 << states) - 1));
        StringBuilder moves = new StringBuilder();
        for (int i = 5 + pick(12); i > 0; i--) {
            moves.append(moves.length() == 0 ? "" : ";").append(FORMS[pick(FORMS.length)].replace("S", "" + pick(states))
                    .replace("T", "" + pick(states)).replace("M", "" + pick(2)));
        }
        Check.teach(x, 0, moves.toString());
        if (x.places(0) == NestReaders.SPENT) {
            return;
        }
        StringBuilder row = new StringBuilder();
        int before = x.watch(0, 0);
        for (int size = 0; size < 23; size++) {
            int all = x.run(0, size, 1) == 1 ? 5 : 2;
            int on = -1;
            int first = pick(6);
            for (int i = 0; i < 6; i++) {
                int letter = (first + i) % 6;
                tell(x, row.toString() + letter);
                int then = x.watch(0, size + 1);
                all |= then & 3;
                // Goes on where something is still open to both ends, if that can be.
                if ((then & 3) == 3 && (on < 0 || letter < 2 && pick(2) == 0)) {
                    on = letter;
                }
            }
            tell(x, row.toString());
            check.due(name + " " + moves + " row " + row, before, all);
            row.append(on < 0 ? first : on);
            tell(x, row.toString());
            int now = x.watch(0, size + 1);
            turned += now != before ? 1 : 0;
            before = now;
            deepest = Math.max(deepest, x.depth(size + 1));
        }
    }

    /** THE ROW in few calls: 20 letters at once, then one by one. */
    private static void tell(NestReaders x, String row) {
        int some = Math.min(20, row.length());
        x.row(Check.packedRow(row.substring(0, some)), some);
        for (int i = some; i < row.length(); i++) {
            x.letter(row.charAt(i) - '0');
        }
    }
}
