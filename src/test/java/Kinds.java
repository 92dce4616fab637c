import java.util.LinkedHashMap;
import java.util.Map;
import java.util.function.Consumer;

/** Objects of many kinds: empty and full, with and without a fault, whole or not, spent or just not so. */
final class Kinds {
    /** One state, 60 places by 6 moves; with MOVE_MORE 61. Both numbers are held against the oracle. */
    static final String SIXTY = "1 c to 2;2 c to 1;0 d to 1;0 a to 1 put 0;1 c to 0;0 c to 2";
    static final String MOVE_MORE = "2 a to 0 put 0";
    /** 31 places and 8, of both 60; with OTHER_MORE for reader 1 of both 61. */
    static final String THREE_STATES = "0 d to 2;2 c to 1;1 d to 0;0 c to 0";
    static final String TWO_STATES = "1 c to 1;1 b to 1 put 0;0 b to 1 put 0;1 d to 0;1 d to 1";
    static final String OTHER_MORE = "0 b to 0 put 0";
    static final String MATCHING = "0 a to 0 put 0;0 b to 0 put 1;0 e take 0 to 0;0 f take 1 to 0";

    private Kinds() {
    }

    static Map<String, Consumer<NestReaders>> all() {
        Map<String, Consumer<NestReaders>> all = new LinkedHashMap<>();
        all.put("new", x -> { });
        all.put("full", Kinds::full);
        all.put("nearly full", Kinds::nearlyFull);
        all.put("half open", Kinds::halfOpen);
        all.put("whole", Kinds::whole);
        all.put("60 places", x -> sixty(x, 0));
        all.put("61 places", x -> sixtyOne(x, 0));
        all.put("61 places of the other", x -> sixtyOne(x, 1));
        all.put("60 places of both", Kinds::sixtyOfBoth);
        all.put("61 places of both", Kinds::sixtyOneOfBoth);
        return all;
    }

    /** A full row, not whole; a full text without a fault for reader 0, with one for reader 1. */
    static void full(NestReaders x) {
        x.reader(0, 3, 2, 5);
        Check.teach(x, 0, MATCHING + ";0 c to 1;1 d to 2;2 e take none to 0;1 a to 1 put 1");
        x.reader(1, 2, 1, 1);
        Check.teach(x, 1, "0 a to 1 put 0;1 f take 0 to 0;0 c to 0");
        Check.row(x, "024101354152301400152345");
        String text = "2 a to 1 put 1;0 e take 1 to 2;1 f take none to 0;2 d to 2";
        Check.tell(x, text + " ".repeat(160 - text.length()));
    }

    /** One letter short of full, one byte short of full, and with a fault at the end. */
    static void nearlyFull(NestReaders x) {
        x.reader(0, 2, 1, 3);
        Check.teach(x, 0, "0 a to 1 put 0;1 e take 0 to 0;0 c to 1;1 d to 0;0 f take none to 0");
        Check.row(x, "01450145014501450145234");
        Check.tell(x, "1 c to 1;".repeat(14) + " ".repeat(33));
    }

    /** A row with three letters open behind one that closes nothing; a text with a fault for both. */
    static void halfOpen(NestReaders x) {
        x.reader(0, 1, 2, 1);
        Check.teach(x, 0, MATCHING);
        x.reader(1, 3, 2, 4);
        Check.teach(x, 1, "0 f take 1 to 1;0 b to 0 put 1;1 e take 0 to 2;1 b to 0 put 0;0 e take none to 0");
        Check.row(x, "4012");
        x.letter(1);
        Check.tell(x, "0 c to 0;0 d to");
    }

    /** A row that is whole, of 20 letters; a text that both readers can have. */
    static void whole(NestReaders x) {
        x.reader(0, 1, 2, 1);
        Check.teach(x, 0, MATCHING + ";0 c to 0");
        x.reader(1, 2, 2, 2);
        Check.teach(x, 1, MATCHING + ";0 c to 1;1 c to 1;1 d to 0");
        x.row(Check.packedRow("01325423100132454523"), 20);
        Check.tell(x, "0 d to 0;0 e take none to 0");
    }

    static void sixty(NestReaders x, int reader) {
        x.reader(reader, 3, 1, 4);
        Check.teach(x, reader, SIXTY);
        Check.row(x, "2304");
    }

    static void sixtyOne(NestReaders x, int reader) {
        sixty(x, reader);
        Check.teach(x, reader, MOVE_MORE);
        Check.tell(x, "0 c");
    }

    static void sixtyOfBoth(NestReaders x) {
        x.reader(0, 3, 1, 2);
        Check.teach(x, 0, THREE_STATES);
        x.reader(1, 2, 1, 2);
        Check.teach(x, 1, TWO_STATES);
        Check.row(x, "32321");
    }

    static void sixtyOneOfBoth(NestReaders x) {
        sixtyOfBoth(x);
        Check.teach(x, 1, OTHER_MORE);
        Check.tell(x, "0 d to 2");
    }
}
