import java.util.ArrayList;
import java.util.Comparator;
import java.util.HashSet;
import java.util.List;
import java.util.Set;
import java.util.TreeMap;
import java.util.TreeSet;

/**
 * The document told once more, as plainly as the Java library allows and by other
 * means than the program: sets of numbers in place of bits, threshold by trying
 * every amount, price by withholding the item on a copy.
 */
final class ReferenceAuction {
    private record Bid(int bundle, int bidder, int amount) {
    }

    private final TreeMap<Integer, Bid> bids = new TreeMap<>();
    private final TreeSet<Integer> withheld = new TreeSet<>();

    private ReferenceAuction copy() {
        ReferenceAuction copy = new ReferenceAuction();
        copy.bids.putAll(bids);
        copy.withheld.addAll(withheld);
        return copy;
    }

    int bid(int bundle, int bidder, int amount) {
        if (bundle < 1 || bundle > 255 || bidder < 0 || bidder > 3 || amount < 1 || amount > 50) {
            return -1;
        }
        if (bids.size() == 8) {
            return -2;
        }
        int number = 0;
        while (bids.containsKey(number)) {
            number++;
        }
        bids.put(number, new Bid(bundle, bidder, amount));
        return number;
    }

    boolean retract(int b) {
        return bids.remove(b) != null;
    }

    boolean raise(int b, int amount) {
        Bid old = bids.get(b);
        if (old == null || amount < 1 || amount > 50) {
            return false;
        }
        bids.put(b, new Bid(old.bundle(), old.bidder(), amount));
        return true;
    }

    boolean withhold(int i, boolean on) {
        if (i < 0 || i > 7) {
            return false;
        }
        if (on) {
            withheld.add(i);
        } else {
            withheld.remove(i);
        }
        return true;
    }

    int bids() {
        return bits(bids.keySet());
    }

    int withheld() {
        return bits(withheld);
    }

    int winners() {
        return bits(theWinners());
    }

    int revenue() {
        return sum(theWinners());
    }

    int sold() {
        Set<Integer> items = new HashSet<>();
        for (int b : theWinners()) {
            items.addAll(itemsOf(b));
        }
        return bits(items);
    }

    int revenueWithout(int bidder) {
        if (bidder < 0 || bidder > 3) {
            return -1;
        }
        ReferenceAuction others = copy();
        others.bids.values().removeIf(bid -> bid.bidder() == bidder);
        return others.revenue();
    }

    int payment(int bidder) {
        if (bidder < 0 || bidder > 3) {
            return -1;
        }
        for (int b : theWinners()) {
            if (bids.get(b).bidder() == bidder) {
                return revenueWithout(bidder) - (revenue() - bids.get(b).amount());
            }
        }
        return 0;
    }

    int threshold(int b) {
        if (!bids.containsKey(b)) {
            return -1;
        }
        ReferenceAuction trial = copy();
        for (int amount = 1; amount <= 50; amount++) {
            trial.raise(b, amount);
            if (trial.theWinners().contains(b)) {
                return amount;
            }
        }
        return 51;
    }

    int revenueWith(int b) {
        int most = -1;
        for (TreeSet<Integer> allocation : allocations()) {
            if (allocation.contains(b) && sum(allocation) > most) {
                most = sum(allocation);
            }
        }
        return most;
    }

    int price(int i) {
        if (i < 0 || i > 7) {
            return -1;
        }
        ReferenceAuction less = copy();
        less.withhold(i, true);
        return revenue() - less.revenue();
    }

    boolean allocation(int set) {
        TreeSet<Integer> numbers = new TreeSet<>();
        for (int b = 0; b < 32; b++) {
            if ((set >>> b) % 2 != 0) {
                numbers.add(b);
            }
        }
        return allocations().contains(numbers);
    }

    private TreeSet<Integer> theWinners() {
        Comparator<TreeSet<Integer>> order = Comparator.comparing((TreeSet<Integer> set) -> -sum(set));
        return allocations().stream().min(order.thenComparing(ReferenceAuction::byLeastDiffering)).orElseThrow();
    }

    private static int byLeastDiffering(TreeSet<Integer> one, TreeSet<Integer> other) {
        for (int b = 0; b < 8; b++) {
            if (one.contains(b) != other.contains(b)) {
                return one.contains(b) ? -1 : 1;
            }
        }
        return 0;
    }

    /** Grown bid by bid: each allocation so far, with and, where it goes, the next bid. */
    private List<TreeSet<Integer>> allocations() {
        List<TreeSet<Integer>> all = new ArrayList<>();
        all.add(new TreeSet<>());
        for (int b : bids.keySet()) {
            List<TreeSet<Integer>> larger = new ArrayList<>();
            for (TreeSet<Integer> allocation : all) {
                if (goesWith(b, allocation)) {
                    TreeSet<Integer> more = new TreeSet<>(allocation);
                    more.add(b);
                    larger.add(more);
                }
            }
            all.addAll(larger);
        }
        return all;
    }

    private boolean goesWith(int b, Set<Integer> allocation) {
        Set<Integer> gone = new HashSet<>(withheld);
        for (int other : allocation) {
            if (bids.get(other).bidder() == bids.get(b).bidder()) {
                return false;
            }
            gone.addAll(itemsOf(other));
        }
        gone.retainAll(itemsOf(b));
        return gone.isEmpty();
    }

    private Set<Integer> itemsOf(int b) {
        Set<Integer> items = new HashSet<>();
        int rest = bids.get(b).bundle();
        for (int i = 0; i < 8; i++) {
            if (rest % 2 == 1) {
                items.add(i);
            }
            rest /= 2;
        }
        return items;
    }

    private int sum(Set<Integer> numbers) {
        int sum = 0;
        for (int b : numbers) {
            sum += bids.get(b).amount();
        }
        return sum;
    }

    private static int bits(Set<Integer> numbers) {
        int bits = 0;
        for (int number : numbers) {
            bits += 1 << number;
        }
        return bits;
    }
}
