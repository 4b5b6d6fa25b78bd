/**
 * Tilings of a board of four rows and four columns by dominoes, with weights.
 *
 * A set of squares or of places is held as the bits of an int, so that a tiling is one number.
 */
public final class DimerCounter {
    public static final int BAD_PLACE = -1;
    public static final int BAD_WEIGHT = -2;

    private static final int SIDE = 4;
    private static final int SQUARES = 16;
    private static final int PLACES = 24;
    private static final int ALL_PLACES = (1 << PLACES) - 1;
    private static final int ACROSS_PLACES = 12;
    private static final int ACROSS_IN_A_ROW = 3;
    private static final int GREATEST_WEIGHT = 4;
    private static final int TILINGS = 36;
    private static final int CHOICES = 256;
    private static final int NO_PLACE = -1;
    private static final int NO_TILING = 0;

    private final int[] weights = new int[PLACES];
    private final int[] turned = new int[PLACES];
    private final int[] tilings = new int[TILINGS];

    public DimerCounter() {
        setEveryWeight(1);
        findTilings();
    }

    public int weight(int place, int weight) {
        if (!isPlace(place)) {
            return BAD_PLACE;
        }
        if (!isWeight(weight)) {
            return BAD_WEIGHT;
        }
        int old = weights[place];
        weights[place] = weight;
        return old;
    }

    public int all(int weight) {
        if (!isWeight(weight)) {
            return BAD_WEIGHT;
        }
        setEveryWeight(weight);
        return 0;
    }

    public void turn() {
        // Two passes, since a place's weight is still to be read when another one lands on it.
        for (int place = 0; place < PLACES; place++) {
            int target = placeAfterTurn(place);
            turned[target] = weights[place];
        }
        for (int place = 0; place < PLACES; place++) {
            weights[place] = turned[place];
        }
    }

    public int force(int s, int place) {
        if (!isPlace(place) || !isSquare(s) || !covers(place, s)) {
            return BAD_PLACE;
        }
        int changed = 0;
        for (int other = 0; other < PLACES; other++) {
            // A weight that is 0 already does not count as changed.
            if (other != place && weights[other] != 0 && covers(other, s)) {
                weights[other] = 0;
                changed++;
            }
        }
        return changed;
    }

    public int weightOf(int place) {
        if (!isPlace(place)) {
            return BAD_PLACE;
        }
        return weights[place];
    }

    public int total() {
        return sumOfWorths(0);
    }

    public int totalWith(int place) {
        if (!isPlace(place)) {
            return BAD_PLACE;
        }
        return sumOfWorths(1 << place);
    }

    public int totalWithBoth(int a, int b) {
        if (!isPlace(a) || !isPlace(b)) {
            return BAD_PLACE;
        }
        return sumOfWorths(1 << a | 1 << b);
    }

    public int possible() {
        int count = 0;
        for (int i = 0; i < TILINGS; i++) {
            if (worth(tilings[i]) > 0) {
                count++;
            }
        }
        return count;
    }

    public boolean canUse(int place) {
        if (!isPlace(place)) {
            return false;
        }
        // No worth is below 0, so the sum is above 0 just when one of them is.
        return sumOfWorths(1 << place) > 0;
    }

    public int settled() {
        // Starting from all places gives the 24 that is due when no tiling narrows them down.
        int common = ALL_PLACES;
        for (int i = 0; i < TILINGS; i++) {
            if (worth(tilings[i]) > 0) {
                common &= tilings[i];
            }
        }
        return countOfPlaces(common);
    }

    public int acrossTotal() {
        // A tiling's worth is added once for each of its places that lies across.
        int sum = 0;
        for (int place = 0; place < ACROSS_PLACES; place++) {
            sum += sumOfWorths(1 << place);
        }
        return sum;
    }

    private static boolean isPlace(int place) {
        return place >= 0 && place < PLACES;
    }

    private static boolean isSquare(int s) {
        return s >= 0 && s < SQUARES;
    }

    private static boolean isWeight(int weight) {
        return weight >= 0 && weight <= GREATEST_WEIGHT;
    }

    private static boolean contains(int set, int member) {
        return (set >> member & 1) == 1;
    }

    private static int countOfPlaces(int places) {
        int count = 0;
        for (int place = 0; place < PLACES; place++) {
            if (contains(places, place)) {
                count++;
            }
        }
        return count;
    }

    private static int acrossFrom(int s) {
        int row = s / SIDE;
        int column = s % SIDE;
        return column < SIDE - 1 ? row * ACROSS_IN_A_ROW + column : NO_PLACE;
    }

    private static int uprightFrom(int s) {
        return s < SQUARES - SIDE ? ACROSS_PLACES + s : NO_PLACE;
    }

    private static int squaresOf(int place) {
        if (place < ACROSS_PLACES) {
            int left = place / ACROSS_IN_A_ROW * SIDE + place % ACROSS_IN_A_ROW;
            return 1 << left | 1 << left + 1;
        }
        int upper = place - ACROSS_PLACES;
        return 1 << upper | 1 << upper + SIDE;
    }

    private static boolean covers(int place, int s) {
        int squares = squaresOf(place);
        return contains(squares, s);
    }

    private static int placeAfterTurn(int place) {
        if (place < ACROSS_PLACES) {
            // The left square (r, c) becomes the upper one, at (c, 3 - r).
            int row = place / ACROSS_IN_A_ROW;
            int column = place % ACROSS_IN_A_ROW;
            return ACROSS_PLACES + column * SIDE + (SIDE - 1 - row);
        }
        // The lower square (r + 1, c) becomes the left one, at (c, 2 - r).
        int row = (place - ACROSS_PLACES) / SIDE;
        int column = (place - ACROSS_PLACES) % SIDE;
        return column * ACROSS_IN_A_ROW + (SIDE - 2 - row);
    }

    private void setEveryWeight(int weight) {
        for (int place = 0; place < PLACES; place++) {
            weights[place] = weight;
        }
    }

    private void findTilings() {
        int found = 0;
        for (int choices = 0; choices < CHOICES && found < TILINGS; choices++) {
            int tiling = tilingOfChoices(choices);
            if (tiling != NO_TILING) {
                tilings[found] = tiling;
                found++;
            }
        }
    }

    /**
     * The first free square is covered either across or upright, eight times over: so each
     * tiling comes from just one number of eight bits, and no search has to go back.
     */
    private static int tilingOfChoices(int choices) {
        int left = choices;
        int covered = 0;
        int tiling = 0;
        for (int s = 0; s < SQUARES; s++) {
            if (contains(covered, s)) {
                continue;
            }
            int place = contains(left, 0) ? uprightFrom(s) : acrossFrom(s);
            left >>= 1;
            if (place == NO_PLACE) {
                return NO_TILING;
            }
            int squares = squaresOf(place);
            if ((covered & squares) != 0) {
                return NO_TILING;
            }
            covered |= squares;
            tiling |= 1 << place;
        }
        return tiling;
    }

    private int worth(int tiling) {
        int product = 1;
        for (int place = 0; place < PLACES; place++) {
            if (contains(tiling, place)) {
                product *= weights[place];
            }
        }
        return product;
    }

    private int sumOfWorths(int needed) {
        int sum = 0;
        for (int i = 0; i < TILINGS; i++) {
            if ((tilings[i] & needed) == needed) {
                sum += worth(tilings[i]);
            }
        }
        return sum;
    }
}
