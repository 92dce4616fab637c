/** Counts the answers that are as due, and tells those that are not. */
final class Check {
    private static final int MOST_TOLD = 40;

    private final String name;
    private int passed = 0;
    private int failed = 0;

    Check(String name) {
        this.name = name;
    }

    void due(String call, long got, long want) {
        if (got == want) {
            passed++;
            return;
        }
        failed++;
        if (failed <= MOST_TOLD) {
            System.out.println(name + ": " + call + " answered " + got + ", due is " + want);
        }
    }

    void yes(String what, boolean holds) {
        due(what, holds ? 1 : 0, 1);
    }

    /** Ends the test: exit code 1, if anything was not as due. */
    void end() {
        System.out.println(name + ": " + passed + " passed, " + failed + " failed");
        if (failed != 0) {
            System.exit(1);
        }
    }

    /** Writes a text, eight bytes at a time. */
    static void tell(NestReaders x, String text) {
        for (int i = 0; i < text.length(); i += 8) {
            int n = Math.min(8, text.length() - i);
            x.write(packed(text.substring(i, i + n)), n);
        }
    }

    /** A reader gets moves, told with ; between: as many texts as that takes, each of as few bytes as may be. */
    static void teach(NestReaders x, int reader, String moves) {
        StringBuilder text = new StringBuilder();
        int told = 0;
        for (String move : moves.split(";")) {
            if (told == 16 || text.length() + 1 + move.length() > 160) {
                tell(x, text.toString());
                x.moves(reader);
                text.setLength(0);
                told = 0;
            }
            text.append(told == 0 ? "" : ";").append(move);
            told++;
        }
        tell(x, text.toString());
        x.moves(reader);
    }

    static long packed(String bytes) {
        long all = 0;
        for (int i = 0; i < bytes.length(); i++) {
            all |= (bytes.charAt(i) & 255L) << 8 * i;
        }
        return all;
    }

    /** Letters told as digits, as the call row takes them. */
    static long packedRow(String letters) {
        long all = 0;
        for (int i = 0; i < letters.length(); i++) {
            all |= (letters.charAt(i) - '0' & 7L) << 3 * i;
        }
        return all;
    }

    /** THE ROW becomes these letters, told as digits. */
    static void row(NestReaders x, String letters) {
        x.row(0, 0);
        for (int i = 0; i < letters.length(); i++) {
            x.letter(letters.charAt(i) - '0');
        }
    }
}
