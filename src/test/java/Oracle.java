import java.util.ArrayDeque;
import java.util.ArrayList;
import java.util.HashSet;
import java.util.HashMap;
import java.util.LinkedHashMap;
import java.util.List;
import java.util.Map;
import java.util.Set;

/** A reader built from the document's words alone: runs with their marks in full, nothing put together. */
final class Oracle {
    static final long MODULUS = 1000000007L;

    final int states;
    final int marks;
    final int takes;
    /** from, letter, mark, to */
    private final Set<List<Integer>> moves = new HashSet<>();
    private final Map<Integer, List<List<Integer>>> bySource = new HashMap<>();

    Oracle(int states, int marks, int takes) {
        this.states = states;
        this.marks = marks;
        this.takes = takes;
    }

    void add(List<Integer> move) {
        moves.add(move);
        bySource.clear();
    }

    void remove(List<Integer> move) {
        moves.remove(move);
        bySource.clear();
    }

    Set<List<Integer>> moves() {
        return moves;
    }

    /** The moves from a state by a letter. */
    private List<List<Integer>> by(int state, int letter) {
        return bySource.computeIfAbsent(6 * state + letter, key -> {
            List<List<Integer>> some = new ArrayList<>();
            for (List<Integer> move : moves) {
                if (move.get(0) == state && move.get(1) == letter) {
                    some.add(move);
                }
            }
            return some;
        });
    }

    /** Runs as "state:marks that are there", each with how many there are. */
    Map<String, Long> begin(int state) {
        Map<String, Long> runs = new HashMap<>();
        runs.put(state + ":", 1L);
        return runs;
    }

    Map<String, Long> step(Map<String, Long> runs, int letter) {
        Map<String, Long> next = new HashMap<>();
        for (Map.Entry<String, Long> run : runs.entrySet()) {
            int state = run.getKey().charAt(0) - '0';
            String there = run.getKey().substring(2);
            for (List<Integer> move : by(state, letter)) {
                String marksThen = there;
                if (letter < 2) {
                    marksThen = there + move.get(2);
                } else if (letter > 3 && there.isEmpty()) {
                    if (move.get(2) != -1) {
                        continue;
                    }
                } else if (letter > 3) {
                    int last = there.charAt(there.length() - 1) - '0';
                    if (move.get(2) != last) {
                        continue;
                    }
                    marksThen = there.substring(0, there.length() - 1);
                }
                next.merge(move.get(3) + ":" + marksThen, run.getValue(), (a, b) -> (a + b) % MODULUS);
            }
        }
        return next;
    }

    Map<String, Long> runs(String row, int from) {
        Map<String, Long> runs = begin(from);
        for (int i = 0; i < row.length(); i++) {
            runs = step(runs, row.charAt(i) - '0');
        }
        return runs;
    }

    static int ends(Map<String, Long> runs) {
        int set = 0;
        for (String run : runs.keySet()) {
            set |= 1 << run.charAt(0) - '0';
        }
        return set;
    }

    static long number(Map<String, Long> runs) {
        long all = 0;
        for (long some : runs.values()) {
            all += some;
        }
        return all % MODULUS;
    }

    boolean takes(String row) {
        return (ends(runs(row, 0)) & takes) != 0;
    }

    int between(String whole) {
        int all = 0;
        for (int p = 0; p < states; p++) {
            all |= ends(runs(whole, p)) << 3 * p;
        }
        return all;
    }

    /** PARTNER of each letter. */
    static int[] partners(String row) {
        int[] partner = new int[row.length()];
        java.util.Arrays.fill(partner, -1);
        ArrayDeque<Integer> open = new ArrayDeque<>();
        for (int i = 0; i < row.length(); i++) {
            int letter = row.charAt(i) - '0';
            if (letter < 2) {
                open.push(i);
            } else if (letter > 3 && !open.isEmpty()) {
                partner[i] = open.pop();
                partner[partner[i]] = i;
            }
        }
        return partner;
    }

    static boolean isWhole(String row) {
        return sinceBegin(row) == 0;
    }

    static int sinceBegin(String row) {
        int[] partner = partners(row);
        int begin = 0;
        for (int i = 0; i < row.length(); i++) {
            int letter = row.charAt(i) - '0';
            if ((letter < 2 || letter > 3) && partner[i] < 0) {
                begin = i + 1;
            }
        }
        return begin;
    }

    String place(String row) {
        return ends(runs(row, 0)) + "/" + between(row.substring(sinceBegin(row)));
    }

    // ---- the same, put together: relations as sets of pairs

    private int relation(int letter, int mark) {
        int all = 0;
        for (List<Integer> move : moves) {
            if (move.get(1) == letter && move.get(2) == mark) {
                all |= 1 << 3 * move.get(0) + move.get(3);
            }
        }
        return all;
    }

    private static int product(int a, int b) {
        int all = 0;
        for (int p = 0; p < 3; p++) {
            for (int q = 0; q < 3; q++) {
                for (int r = 0; r < 3; r++) {
                    if ((a >> 3 * p + q & 1) != 0 && (b >> 3 * q + r & 1) != 0) {
                        all |= 1 << 3 * p + r;
                    }
                }
            }
        }
        return all;
    }

    private static int over(int set, int relation) {
        int all = 0;
        for (int p = 0; p < 3; p++) {
            for (int q = 0; q < 3; q++) {
                if ((set >> p & 1) != 0 && (relation >> 3 * p + q & 1) != 0) {
                    all |= 1 << q;
                }
            }
        }
        return all;
    }

    private int identity() {
        int all = 0;
        for (int p = 0; p < states; p++) {
            all |= 1 << 4 * p;
        }
        return all;
    }

    /**
     * All places of the readers (one or two), with those from which a row goes on at the same depth:
     * "ground or not, what had come, BETWEEN". More than the limit: no more are looked for.
     */
    static Set<List<Integer>> places(List<Oracle> readers, int limit) {
        Set<List<Integer>> inside = new HashSet<>();
        List<Integer> first = new ArrayList<>();
        first.add(1);
        for (Oracle reader : readers) {
            first.add(1);
            first.add(reader.identity());
        }
        inside.add(first);
        boolean more = true;
        while (more) {
            Set<List<Integer>> found = new HashSet<>();
            for (List<Integer> at : inside) {
                found.addAll(behind(readers, at, inside));
            }
            more = inside.addAll(found);
            if (placesIn(readers, inside).size() > limit) {
                break;
            }
        }
        return placesIn(readers, inside);
    }

    private static Set<List<Integer>> placesIn(List<Oracle> readers, Set<List<Integer>> inside) {
        Set<List<Integer>> places = new HashSet<>();
        for (List<Integer> at : inside) {
            List<Integer> place = new ArrayList<>();
            for (int r = 0; r < readers.size(); r++) {
                place.add(over(at.get(2 * r + 1), at.get(2 * r + 2)));
                place.add(at.get(2 * r + 2));
            }
            places.add(place);
        }
        return places;
    }

    private static Set<List<Integer>> behind(List<Oracle> readers, List<Integer> at, Set<List<Integer>> inside) {
        Set<List<Integer>> found = new HashSet<>();
        for (int letter = 0; letter < 6; letter++) {
            if (letter < 2) {
                List<Integer> opened = fresh(readers, at, letter, 0);
                found.add(opened);
                for (List<Integer> inner : inside) {
                    if (inner.get(0) != 0 || !sameBegin(inner, opened)) {
                        continue;
                    }
                    for (int close = 4; close < 6; close++) {
                        List<Integer> next = new ArrayList<>(at);
                        for (int r = 0; r < readers.size(); r++) {
                            int wrapped = 0;
                            for (int mark = 0; mark < 2; mark++) {
                                wrapped |= product(product(readers.get(r).relation(letter, mark),
                                        inner.get(2 * r + 2)), readers.get(r).relation(close, mark));
                            }
                            next.set(2 * r + 2, product(at.get(2 * r + 2), wrapped));
                        }
                        found.add(next);
                    }
                }
            } else if (letter < 4) {
                List<Integer> next = new ArrayList<>(at);
                for (int r = 0; r < readers.size(); r++) {
                    next.set(2 * r + 2, product(at.get(2 * r + 2), readers.get(r).relation(letter, 0)));
                }
                found.add(next);
            } else if (at.get(0) == 1) {
                found.add(fresh(readers, at, letter, 1));
            }
        }
        return found;
    }

    private static boolean sameBegin(List<Integer> one, List<Integer> other) {
        for (int i = 1; i < one.size(); i += 2) {
            if (!one.get(i).equals(other.get(i))) {
                return false;
            }
        }
        return true;
    }

    private static List<Integer> fresh(List<Oracle> readers, List<Integer> at, int letter, int ground) {
        List<Integer> next = new ArrayList<>();
        next.add(ground);
        for (int r = 0; r < readers.size(); r++) {
            Oracle reader = readers.get(r);
            int come = over(at.get(2 * r + 1), at.get(2 * r + 2));
            int relation = letter < 2 ? reader.relation(letter, 0) | reader.relation(letter, 1)
                    : reader.relation(letter, -1);
            next.add(over(come, relation));
            next.add(reader.identity());
        }
        return next;
    }

    /** How many rows of a length are taken: sets of runs that are the same are counted together. */
    long many(int length) {
        Map<Map<String, Long>, Long> rows = new HashMap<>();
        rows.put(keys(begin(0)), 1L);
        for (int i = 0; i < length; i++) {
            Map<Map<String, Long>, Long> next = new HashMap<>();
            for (Map.Entry<Map<String, Long>, Long> row : rows.entrySet()) {
                for (int letter = 0; letter < 6; letter++) {
                    Map<String, Long> runs = keys(step(row.getKey(), letter));
                    if (!runs.isEmpty()) {
                        next.merge(runs, row.getValue(), (a, b) -> (a + b) % MODULUS);
                    }
                }
            }
            rows = next;
        }
        long all = 0;
        for (Map.Entry<Map<String, Long>, Long> row : rows.entrySet()) {
            all += (ends(row.getKey()) & takes) != 0 ? row.getValue() : 0;
        }
        return all % MODULUS;
    }

    /** The runs without their numbers. */
    static Map<String, Long> keys(Map<String, Long> runs) {
        Map<String, Long> all = new LinkedHashMap<>();
        for (String run : new java.util.TreeSet<>(runs.keySet())) {
            all.put(run, 1L);
        }
        return all;
    }

    /** WATCH, of rows that go on by at most so many letters. */
    int watch(String row, int letters, int most) {
        Set<Map<String, Long>> seen = new HashSet<>();
        ArrayDeque<Map<String, Long>> here = new ArrayDeque<>();
        Map<String, Long> first = keys(runs(row, 0));
        seen.add(first);
        here.add(first);
        int answer = (ends(first) & takes) != 0 ? 5 : 2;
        for (int i = 0; i < letters && seen.size() < most && (answer & 3) != 3; i++) {
            ArrayDeque<Map<String, Long>> next = new ArrayDeque<>();
            for (Map<String, Long> runs : here) {
                for (int letter = 0; letter < 6; letter++) {
                    Map<String, Long> then = keys(step(runs, letter));
                    if (seen.add(then)) {
                        answer |= (ends(then) & takes) != 0 ? 1 : 2;
                        next.add(then);
                    }
                }
            }
            here = next;
        }
        return answer;
    }
}
