import java.util.ArrayList;
import java.util.HashSet;
import java.util.List;
import java.util.Set;
import java.util.regex.Matcher;
import java.util.regex.Pattern;

/** THE TEXT against a reading of it that knows every move that can be told, token by token. */
public final class TextTest {
    private static final Check check = new Check("TextTest");
    private static final Pattern TOKEN = Pattern.compile("[a-z]+|[0-9]+|[^ ]", Pattern.DOTALL);
    private static final String ODD = " ;0123456789abcdefgz`{/:AZ,\t\n\0\u007f\u0080\u00e1\u00ff";
    private static long seed = 11;

    public static void main(String[] args) {
        int rounds = args.length > 1 ? Integer.parseInt(args[0]) : 4000;
        if (args.length > 1) {
            seed = Long.parseLong(args[1]);
        }
        everyForm();
        everyPrefix();
        everyByte();
        for (int round = 0; round < rounds; round++) {
            someText("round " + round);
        }
        check.end();
    }

    private static int pick(int below) {
        seed = seed * 6364136223846793005L + 1442695040888963407L;
        return (int) ((seed >>> 33) % below);
    }

    /** Each move that can be told: its tokens, and what it is. */
    private static final class Telling {
        final List<String> tokens;
        final List<Integer> move;

        Telling(String told, int from, int letter, int mark, int to) {
            tokens = List.of(told.split(" "));
            move = List.of(from, letter, mark, to);
        }
    }

    private static List<Telling> tellings(int states, int marks) {
        List<Telling> all = new ArrayList<>();
        for (int from = 0; from < states; from++) {
            for (int to = 0; to < states; to++) {
                for (int plain = 2; plain < 4; plain++) {
                    all.add(new Telling(from + " " + "abcd".charAt(plain) + " to " + to, from, plain, 0, to));
                }
                for (int which = 0; which < 2; which++) {
                    String closes = from + " " + "ef".charAt(which) + " take ";
                    all.add(new Telling(closes + "none to " + to, from, 4 + which, -1, to));
                    for (int mark = 0; mark < marks; mark++) {
                        all.add(new Telling(closes + mark + " to " + to, from, 4 + which, mark, to));
                        all.add(new Telling(from + " " + "ab".charAt(which) + " to " + to + " put " + mark,
                                from, which, mark, to));
                    }
                }
            }
        }
        return all;
    }

    /** The place of the fault or -1; the moves of the text, if there is none. */
    private static int read(String text, int states, int marks, Set<List<Integer>> moves) {
        List<Telling> all = tellings(states, marks);
        List<Telling> open = all;
        int tokens = 0;
        int told = 0;
        Matcher token = TOKEN.matcher(text);
        while (token.find()) {
            Telling whole = whole(open, tokens);
            if (whole != null && (!token.group().equals(";") || told == 15)) {
                return token.start();
            }
            if (whole != null) {
                moves.add(whole.move);
                told++;
                tokens = 0;
                open = all;
                continue;
            }
            List<Telling> next = new ArrayList<>();
            for (Telling telling : open) {
                if (telling.tokens.get(tokens).equals(token.group())) {
                    next.add(telling);
                }
            }
            if (next.isEmpty()) {
                return token.start();
            }
            open = next;
            tokens++;
        }
        Telling last = whole(open, tokens);
        if (last == null) {
            return text.length();
        }
        moves.add(last.move);
        return NestReaders.NONE;
    }

    private static Telling whole(List<Telling> open, int tokens) {
        return tokens > 0 && open.get(0).tokens.size() == tokens ? open.get(0) : null;
    }

    private static void isRead(String name, String text, int states, int marks) {
        NestReaders x = new NestReaders();
        int reader = text.length() & 1;
        x.reader(reader, states, marks, 0);
        Check.tell(x, text);
        String told = name + " \"" + text + "\" of " + states + " states, " + marks + " marks";
        Set<List<Integer>> moves = new HashSet<>();
        int want = read(text, states, marks, moves);
        check.due(told + " bytes", x.count(1), text.length());
        check.due(told + " fault", x.fault(reader), want);
        check.due(told + " moves", x.moves(reader), want < 0 ? moves.size() : NestReaders.NOT);
        check.due(told + " bytes then", x.count(1), want < 0 ? 0 : text.length());
        check.due(told + " moves then", x.count(2 + reader), want < 0 ? moves.size() : 0);
        for (List<Integer> move : want < 0 ? moves : new HashSet<List<Integer>>()) {
            check.due(told + " has " + move, x.has(reader, move.get(0), move.get(1), move.get(2), move.get(3)), 1);
        }
    }

    private static void everyForm() {
        for (int states = 1; states <= 3; states++) {
            for (int marks = 1; marks <= 2; marks++) {
                for (Telling telling : tellings(3, 2)) {
                    isRead("form", String.join(" ", telling.tokens), states, marks);
                }
            }
        }
    }

    private static void everyPrefix() {
        String text = "0 a to 0 put 0;1 b to 1 put 1; 2 c to 2;0 d to 1 ;1 e take 0 to 2;2 f take 1 to 0;"
                + " 0 e take none to 1 ; 1 f take none to 0;0c to0;0c to1;2   d   to   2";
        String full = text + " ".repeat(160 - text.length());
        for (int n = 0; n <= full.length(); n++) {
            isRead("prefix", full.substring(0, n), 3, 2);
        }
        String ends = " ".repeat(152) + "2 c to 2";
        isRead("at the end", ends, 3, 1);
        isRead("at the end", ends, 2, 1);
        isRead("at the end", ends.substring(1) + ";", 3, 1);
        isRead("at the end", ends.substring(1) + "2", 3, 1);
        isRead("at the end", ends.substring(1) + "x", 3, 1);
        isRead("blanks alone", " ".repeat(160), 1, 1);
    }

    /** Each byte of a text becomes each other byte, is left out, or comes twice. */
    private static void everyByte() {
        String text = "1 e take none to 0;0 a to 1 put 1; 1 d to 0";
        for (int i = 0; i < text.length(); i++) {
            String ahead = text.substring(0, i);
            String behind = text.substring(i + 1);
            for (int value = 0; value < 256; value++) {
                isRead("byte " + i + " is " + value, ahead + (char) value + behind, 2, 2);
            }
            isRead("byte " + i + " left out", ahead + behind, 2, 2);
            isRead("byte " + i + " twice", ahead + text.charAt(i) + text.charAt(i) + behind, 2, 2);
        }
    }

    private static void someText(String name) {
        int states = 1 + pick(3);
        int marks = 1 + pick(2);
        StringBuilder text = new StringBuilder();
        List<Telling> all = tellings(states, marks);
        List<Telling> wild = tellings(3, 2);
        boolean few = pick(4) != 0;
        int most = few ? 1 + pick(6) : 14 + pick(6);
        for (int i = 0; i < most; i++) {
            List<Telling> some = pick(12) == 0 ? wild : all;
            Telling telling = some.get(pick(some.size()));
            while (!few && telling.tokens.size() > 4) {
                telling = some.get(pick(some.size()));
            }
            text.append(i == 0 ? "" : ";").append(blanks(0, few));
            for (String token : telling.tokens) {
                text.append(token).append(few || token.equals("c") || token.equals("d") ? blanks(1, few) : "");
            }
        }
        for (int i = pick(4); i > 1; i--) {
            spoil(text);
        }
        isRead(name, text.substring(0, Math.min(text.length(), 160)), states, marks);
    }

    private static String blanks(int least, boolean more) {
        return " ".repeat(least + (more && pick(5) == 0 ? 1 + pick(2) : 0));
    }

    private static void spoil(StringBuilder text) {
        int at = pick(text.length() + 1);
        char odd = ODD.charAt(pick(ODD.length()));
        switch (pick(4)) {
            case 0:
                text.insert(at, odd);
                break;
            case 1:
                text.setLength(at);
                break;
            case 2:
                if (at < text.length()) {
                    text.deleteCharAt(at);
                }
                break;
            default:
                if (at < text.length()) {
                    text.setCharAt(at, odd);
                }
        }
    }
}
