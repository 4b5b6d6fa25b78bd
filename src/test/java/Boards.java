import java.util.ArrayList;
import java.util.List;
import java.util.TreeSet;

/** Boards to begin a test with, and numbers that are out of range. */
final class Boards {
    static final int PLACES = 24;
    static final int SQUARES = 16;

    /** The two squares of each place, written out from the document's 'Terms'. */
    static final int[][] SQUARES_OF = {
        {0, 1}, {1, 2}, {2, 3},
        {4, 5}, {5, 6}, {6, 7},
        {8, 9}, {9, 10}, {10, 11},
        {12, 13}, {13, 14}, {14, 15},
        {0, 4}, {1, 5}, {2, 6}, {3, 7},
        {4, 8}, {5, 9}, {6, 10}, {7, 11},
        {8, 12}, {9, 13}, {10, 14}, {11, 15},
    };

    private Boards() {
    }

    static boolean covers(int place, int s) {
        return SQUARES_OF[place][0] == s || SQUARES_OF[place][1] == s;
    }

    static boolean lieOnEachOther(int a, int b) {
        return a != b && (covers(a, SQUARES_OF[b][0]) || covers(a, SQUARES_OF[b][1]));
    }

    /**
     * The tilings by the words of the document's 'Terms': of all sets of eight places, those that
     * cover every square just once. Eight places have 16 squares, so to cover all is to cover each once.
     */
    static List<List<Integer>> tilings() {
        List<List<Integer>> found = new ArrayList<>();
        for (int set = 0; set < 1 << PLACES; set++) {
            if (Integer.bitCount(set) == 8 && coversAllSquares(set)) {
                found.add(membersOf(set));
            }
        }
        return found;
    }

    private static boolean coversAllSquares(int setOfPlaces) {
        int covered = 0;
        for (int p : membersOf(setOfPlaces)) {
            covered |= 1 << SQUARES_OF[p][0] | 1 << SQUARES_OF[p][1];
        }
        return covered == (1 << SQUARES) - 1;
    }

    private static List<Integer> membersOf(int setOfPlaces) {
        List<Integer> members = new ArrayList<>();
        for (int p = 0; p < PLACES; p++) {
            if ((setOfPlaces >> p & 1) == 1) {
                members.add(p);
            }
        }
        return members;
    }

    /** All weights the same. */
    static DimerCounter even(int weight) {
        DimerCounter x = new DimerCounter();
        x.all(weight);
        return x;
    }

    /** Weights that tell neighbouring places apart: place p has the weight p % 5. */
    static DimerCounter striped() {
        DimerCounter x = new DimerCounter();
        for (int p = 0; p < PLACES; p++) {
            x.weight(p, p % 5);
        }
        return x;
    }

    /** Only the tiling whose dominoes all lie across has a worth above 0. */
    static DimerCounter acrossOnly(int weight) {
        DimerCounter x = even(0);
        for (int p = 0; p < 12; p++) {
            x.weight(p, weight);
        }
        return x;
    }

    /** Only the tiling whose dominoes all stand upright has a worth above 0. */
    static DimerCounter uprightOnly(int weight) {
        DimerCounter x = even(0);
        for (int p = 12; p < PLACES; p++) {
            x.weight(p, weight);
        }
        return x;
    }

    static void dueStriped(Check check, String after, DimerCounter x) {
        for (int p = 0; p < PLACES; p++) {
            check.due("after " + after + ": weightOf(" + p + ")", x.weightOf(p), p % 5);
        }
    }

    /**
     * Numbers not in 0 to greatest: those near by on both sides, the least and the greatest int,
     * and those that a shift, a mask or a narrowing cast would take for one in 0 to greatest.
     */
    static int[] outside(int greatest) {
        TreeSet<Integer> numbers = new TreeSet<>();
        for (int n = -70; n <= 140; n++) {
            numbers.add(n);
        }
        for (int bit = 5; bit < 32; bit++) {
            for (int n = -1; n <= greatest + 1; n++) {
                numbers.add((1 << bit) + n);
                numbers.add(n - (1 << bit));
            }
        }
        numbers.add(Integer.MIN_VALUE);
        numbers.add(Integer.MAX_VALUE);
        numbers.removeIf(n -> 0 <= n && n <= greatest);
        return numbers.stream().mapToInt(n -> n).toArray();
    }
}
