import java.util.ArrayList;
import java.util.List;

/**
 * The document told a second time, by other means than the program's: places are pairs of
 * squares, tilings are found by trying every place in turn, turning moves squares.
 */
final class BoardModel {
    final int[] weights = new int[24];
    private final int[][] pairs = new int[24][];
    private final List<List<Integer>> tilings = new ArrayList<>();

    BoardModel() {
        for (int r = 0; r < 4; r++) {
            for (int c = 0; c < 4; c++) {
                if (c < 3) {
                    pairs[r * 3 + c] = new int[] {r * 4 + c, r * 4 + c + 1};
                }
                if (r < 3) {
                    pairs[12 + r * 4 + c] = new int[] {r * 4 + c, (r + 1) * 4 + c};
                }
            }
        }
        collect(0, new boolean[16], new ArrayList<>());
        all(1);
    }

    private void collect(int place, boolean[] taken, List<Integer> chosen) {
        if (chosen.size() == 8) {
            tilings.add(new ArrayList<>(chosen));
            return;
        }
        if (place == 24) {
            return;
        }
        collect(place + 1, taken, chosen);
        int a = pairs[place][0];
        int b = pairs[place][1];
        if (!taken[a] && !taken[b]) {
            taken[a] = true;
            taken[b] = true;
            chosen.add(place);
            collect(place + 1, taken, chosen);
            chosen.remove(chosen.size() - 1);
            taken[a] = false;
            taken[b] = false;
        }
    }

    List<List<Integer>> tilings() {
        return tilings;
    }

    private static boolean within(int value, int greatest) {
        return 0 <= value && value <= greatest;
    }

    private boolean touches(int place, int s) {
        return pairs[place][0] == s || pairs[place][1] == s;
    }

    private int placeOn(int one, int other) {
        for (int p = 0; p < 24; p++) {
            if (one != other && touches(p, one) && touches(p, other)) {
                return p;
            }
        }
        throw new IllegalArgumentException("no place on " + one + " and " + other);
    }

    private static int squareAfterTurn(int s) {
        int r = s / 4;
        int c = s % 4;
        return c * 4 + (3 - r);
    }

    int weight(int place, int weight) {
        if (!within(place, 23)) {
            return -1;
        }
        if (!within(weight, 4)) {
            return -2;
        }
        int old = weights[place];
        weights[place] = weight;
        return old;
    }

    int all(int weight) {
        if (!within(weight, 4)) {
            return -2;
        }
        java.util.Arrays.fill(weights, weight);
        return 0;
    }

    void turn() {
        int[] before = weights.clone();
        for (int p = 0; p < 24; p++) {
            weights[placeOn(squareAfterTurn(pairs[p][0]), squareAfterTurn(pairs[p][1]))] = before[p];
        }
    }

    int force(int s, int place) {
        if (!within(place, 23) || !within(s, 15) || !touches(place, s)) {
            return -1;
        }
        int changed = 0;
        for (int p = 0; p < 24; p++) {
            if (p != place && touches(p, s)) {
                changed += weights[p] == 0 ? 0 : 1;
                weights[p] = 0;
            }
        }
        return changed;
    }

    int weightOf(int place) {
        return within(place, 23) ? weights[place] : -1;
    }

    private int worth(List<Integer> tiling) {
        int product = 1;
        for (int p : tiling) {
            product *= weights[p];
        }
        return product;
    }

    int total() {
        return tilings.stream().mapToInt(this::worth).sum();
    }

    int totalWith(int place) {
        return totalWithBoth(place, place);
    }

    int totalWithBoth(int a, int b) {
        if (!within(a, 23) || !within(b, 23)) {
            return -1;
        }
        return tilings.stream().filter(t -> t.contains(a) && t.contains(b)).mapToInt(this::worth).sum();
    }

    int possible() {
        return (int) tilings.stream().filter(t -> worth(t) > 0).count();
    }

    boolean canUse(int place) {
        return tilings.stream().anyMatch(t -> worth(t) > 0 && t.contains(place));
    }

    int settled() {
        int count = 0;
        for (int p = 0; p < 24; p++) {
            int place = p;
            count += tilings.stream().allMatch(t -> worth(t) == 0 || t.contains(place)) ? 1 : 0;
        }
        return count;
    }

    int acrossTotal() {
        return tilings.stream().mapToInt(t -> worth(t) * (int) t.stream().filter(p -> p < 12).count()).sum();
    }
}
