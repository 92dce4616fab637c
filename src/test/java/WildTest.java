/** Calls of any kind with any arguments: none throws, a refused one changes nothing, twice the same is the same. */
public final class WildTest {
    private static final int[] ODD = {Integer.MIN_VALUE, -1000, -7, -2, -1, 6, 7, 13, 21, 25, 63, 64, 1000,
        Integer.MAX_VALUE - 1, Integer.MAX_VALUE};
    private static final int KINDS = 24;

    private static final Check check = new Check("WildTest");
    private static long seed = 5;

    private static int pick(int below) {
        seed = seed * 6364136223846793005L + 1442695040888963407L;
        return (int) ((seed >>> 33) % below);
    }

    private static long wide() {
        return (long) pick(Integer.MAX_VALUE) << 33 ^ (long) pick(Integer.MAX_VALUE) << 10 ^ pick(1024);
    }

    private static int argument() {
        return pick(9) == 0 ? ODD[pick(ODD.length)] : pick(pick(3) == 0 ? 26 : 4);
    }

    public static void main(String[] args) {
        for (int round = 0; round < 800; round++) {
            // No object is to be asked more than 512 times: where faces are seen, there are fewer other calls.
            boolean seeing = round % 2 == 0;
            NestReaders one = new NestReaders();
            NestReaders other = new NestReaders();
            for (int call = 0; call < (seeing ? 150 : 290); call++) {
                int kind = pick(KINDS + 4);
                int[] a = {argument(), argument(), argument(), argument(), argument()};
                long bits = wide();
                boolean seen = seeing && call % 66 == 65 && kind < 24;
                String before = seen ? faceOf(one) : "";
                int got = answer(one, kind, a, bits);
                String told = "round " + round + " call " + call + " kind " + kind;
                check.due(told, answer(other, kind, a, bits), got);
                check.yes(told + " is known: " + got, got >= NestReaders.SPENT);
                if (seen && got < NestReaders.NONE) {
                    check.yes(told + " refused, but changed", before.equals(faceOf(one)));
                }
            }
        }
        check.end();
    }

    /** What can be seen of an object at little cost. */
    private static String faceOf(NestReaders x) {
        StringBuilder seen = new StringBuilder();
        for (int what = 0; what < 4; what++) {
            seen.append(x.count(what)).append(' ');
        }
        for (int r = 0; r < 2; r++) {
            seen.append(x.fault(r)).append(' ').append(x.has(r, 1, 2, 0, 1)).append(' ').append(x.has(r, 2, 0, 0, 2));
            seen.append(' ').append(x.has(r, 0, 0, 1, 0)).append(' ').append(x.run(r, x.count(0), 0)).append(' ');
        }
        for (int i = 0; i < x.count(0); i++) {
            seen.append(x.partner(i)).append(' ');
        }
        return seen.toString();
    }

    private static int answer(NestReaders x, int kind, int[] a, long bits) {
        switch (kind) {
            case 0:
                return isWild(a) ? x.reader(a[0], a[1], a[2], a[3]) : x.reader(a[0] & 1, 1 + (a[1] & 1), 2, 1);
            case 1:
                return x.write(bits, a[0]);
            case 2:
                return x.erase();
            case 3:
                return x.fault(a[0]);
            case 4:
                return x.moves(a[0]);
            case 5:
                return x.has(a[0], a[1], a[2], a[3], a[4]);
            case 6:
                return x.drop(a[0], a[1], a[2], a[3], a[4]);
            case 7:
                return x.letter(a[0]);
            case 8:
                return x.row(a[4] % 5 == 0 ? bits : letters(bits), a[0]);
            case 9:
                return x.partner(a[0]);
            case 10:
                return x.depth(a[0]);
            case 11:
                return x.run(a[0], a[1], a[2]);
            case 12:
                return x.between(a[0]);
            case 13:
                return x.places(a[0]);
            case 14:
                return x.alike(a[0], a[1], a[2]);
            case 15:
                return x.shortest(a[0]);
            case 16:
                return x.first(a[0], a[1]);
            case 17:
                return x.many(a[0], a[1]);
            case 18:
                return x.of(a[0], a[1], a[2], a[3]);
            case 19:
                return x.watch(a[0], a[1]);
            case 20:
                return x.compare(a[0]);
            case 21:
                return x.parted();
            case 22:
                return x.both();
            case 23:
                return x.count(a[0]);
            default:
                return tellMove(x, a);
        }
    }

    private static long letters(long bits) {
        long row = 0;
        for (int i = 0; i < 20; i++) {
            row |= (bits >>> 3 * i & 7) % 6 << 3 * i;
        }
        return row;
    }

    private static boolean isWild(int[] a) {
        return a[4] % 3 == 0;
    }

    private static int tellMove(NestReaders x, int[] a) {
        int letter = a[1] & 7;
        String head = (a[0] & 1) + " " + "abcdefce".charAt(letter);
        String to = " to " + (a[2] & 1);
        String mark = " " + (a[3] & 1);
        x.erase();
        if (letter < 2) {
            Check.tell(x, head + to + " put" + mark);
        } else if ("cd".indexOf("abcdefce".charAt(letter)) >= 0) {
            Check.tell(x, head + to);
        } else {
            Check.tell(x, head + " take" + (a[4] % 2 == 0 ? mark : " none") + to);
        }
        return x.moves(a[4] >> 1 & 1);
    }
}
