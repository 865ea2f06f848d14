public final class PackageAuction {
    public static final int BAD = -1;
    public static final int FULL = -2;
    public static final int NONE = -1;

    private static final int ITEMS = 8;
    private static final int ALL_ITEMS = 255;
    private static final int BIDDERS = 4;
    private static final int BIDS = 8;
    private static final int SETS_OF_BIDS = 256;
    private static final int MOST_AMOUNT = 50;
    private static final int NO_AMOUNT_WINS = 51;

    private final int[] bundleOf = new int[BIDS];
    private final int[] bidderOf = new int[BIDS];
    private final int[] amountOf = new int[BIDS];
    private int present = 0;
    private int held = 0;

    public PackageAuction() {
    }

    public int bid(int bundle, int bidder, int amount) {
        if (bundle < 1 || bundle > ALL_ITEMS || !isBidder(bidder) || !isAmount(amount)) {
            return BAD;
        }
        for (int b = 0; b < BIDS; b++) {
            if (!isBid(b)) {
                bundleOf[b] = bundle;
                bidderOf[b] = bidder;
                amountOf[b] = amount;
                present |= 1 << b;
                return b;
            }
        }
        return FULL;
    }

    public boolean retract(int b) {
        if (!isBid(b)) {
            return false;
        }
        present &= ~(1 << b);
        return true;
    }

    public boolean raise(int b, int amount) {
        if (!isBid(b) || !isAmount(amount)) {
            return false;
        }
        amountOf[b] = amount;
        return true;
    }

    public boolean withhold(int i, boolean on) {
        if (!isItem(i)) {
            return false;
        }
        if (on) {
            held |= 1 << i;
        } else {
            held &= ~(1 << i);
        }
        return true;
    }

    public int bids() {
        return present;
    }

    public int withheld() {
        return held;
    }

    public int winners() {
        return bestAllocation(0, 0, held);
    }

    public int revenue() {
        int won = winners();
        return sumOfAmounts(won);
    }

    public int sold() {
        int won = winners();
        int items = 0;
        for (int b = 0; b < BIDS; b++) {
            if (contains(won, b)) {
                items |= bundleOf[b];
            }
        }
        return items;
    }

    public int revenueWithout(int bidder) {
        if (!isBidder(bidder)) {
            return NONE;
        }
        int barred = bidsOf(bidder);
        int best = bestAllocation(0, barred, held);
        return sumOfAmounts(best);
    }

    public int payment(int bidder) {
        if (!isBidder(bidder)) {
            return NONE;
        }
        int won = winners();
        int own = won & bidsOf(bidder);
        if (own == 0) {
            return 0;
        }
        int others = won & ~own;
        return revenueWithout(bidder) - sumOfAmounts(others);
    }

    // The amount of bid b changes neither which is the best of the allocations
    // that have b nor which is the best of those that have it not, so it is
    // enough to ask which amount lets the one go before the other.
    public int threshold(int b) {
        if (!isBid(b)) {
            return NONE;
        }
        int bit = 1 << b;
        int with = bestAllocation(bit, 0, held);
        if (with == NONE) {
            return NO_AMOUNT_WINS;
        }
        int without = bestAllocation(0, bit, held);
        int partners = with & ~bit;
        int least = sumOfAmounts(without) - sumOfAmounts(partners);
        if (!goesBefore(with, without)) {
            least++;
        }
        if (least < 1) {
            return 1;
        }
        return least > MOST_AMOUNT ? NO_AMOUNT_WINS : least;
    }

    public int revenueWith(int b) {
        if (!isBid(b)) {
            return NONE;
        }
        int best = bestAllocation(1 << b, 0, held);
        return best == NONE ? NONE : sumOfAmounts(best);
    }

    public int price(int i) {
        if (!isItem(i)) {
            return NONE;
        }
        int now = bestAllocation(0, 0, held);
        int then = bestAllocation(0, 0, held | 1 << i);
        return sumOfAmounts(now) - sumOfAmounts(then);
    }

    public boolean allocation(int set) {
        return isAllocation(set, held);
    }

    private boolean isItem(int i) {
        return i >= 0 && i < ITEMS;
    }

    private boolean isBidder(int bidder) {
        return bidder >= 0 && bidder < BIDDERS;
    }

    private boolean isAmount(int amount) {
        return amount >= 1 && amount <= MOST_AMOUNT;
    }

    // A shift takes its distance modulo 32, so the range is looked at first.
    private boolean isBid(int b) {
        return b >= 0 && b < BIDS && contains(present, b);
    }

    private boolean contains(int set, int member) {
        return (set & 1 << member) != 0;
    }

    private int bidsOf(int bidder) {
        int set = 0;
        for (int b = 0; b < BIDS; b++) {
            if (contains(present, b) && bidderOf[b] == bidder) {
                set |= 1 << b;
            }
        }
        return set;
    }

    private int sumOfAmounts(int set) {
        int sum = 0;
        for (int b = 0; b < BIDS; b++) {
            if (contains(set, b)) {
                sum += amountOf[b];
            }
        }
        return sum;
    }

    private boolean isAllocation(int set, int blockedItems) {
        if ((set & ~present) != 0) {
            return false;
        }
        int taken = blockedItems;
        int served = 0;
        for (int b = 0; b < BIDS; b++) {
            if (contains(set, b)) {
                if ((taken & bundleOf[b]) != 0 || contains(served, bidderOf[b])) {
                    return false;
                }
                taken |= bundleOf[b];
                served |= 1 << bidderOf[b];
            }
        }
        return true;
    }

    private boolean goesBefore(int set, int other) {
        int differing = set ^ other;
        int least = differing & -differing;
        return (set & least) != 0;
    }

    private int bestAllocation(int required, int barred, int blockedItems) {
        int best = NONE;
        int bestSum = -1;
        for (int set = 0; set < SETS_OF_BIDS; set++) {
            boolean asked = (set & required) == required && (set & barred) == 0;
            if (asked && isAllocation(set, blockedItems)) {
                int sum = sumOfAmounts(set);
                if (sum > bestSum || sum == bestSum && goesBefore(set, best)) {
                    best = set;
                    bestSum = sum;
                }
            }
        }
        return best;
    }
}
