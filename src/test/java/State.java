import java.util.function.Consumer;
import java.util.function.Supplier;

/** Looks at an auction from outside, by calls alone. */
final class State {
    private State() {
    }

    /**
     * What the asking methods answer, for all bids, items and bidders, and for
     * the sets of one and two bids, which tell all the others: 73 calls.
     */
    static String look(PackageAuction x) {
        StringBuilder seen = new StringBuilder();
        seen.append("bids ").append(x.bids()).append(", withheld ").append(x.withheld());
        seen.append(", winners ").append(x.winners()).append(", revenue ").append(x.revenue());
        seen.append(", sold ").append(x.sold());
        for (int k = 0; k < 4; k++) {
            seen.append("; bidder ").append(k).append(' ').append(x.revenueWithout(k));
            seen.append(' ').append(x.payment(k));
        }
        for (int n = 0; n < 8; n++) {
            seen.append("; ").append(n).append(' ').append(x.threshold(n));
            seen.append(' ').append(x.revenueWith(n)).append(' ').append(x.price(n)).append(' ');
            for (int m = 0; m <= n; m++) {
                seen.append(x.allocation(1 << n | 1 << m) ? 'y' : 'n');
            }
        }
        return seen.toString();
    }

    /**
     * The bids with package, bidder and amount, and the withheld items, for
     * instance "{0: 3 0 10, 2: 1 1 4} withheld 2". Reads them off what changes
     * when items are withheld and amounts raised, so the auction is of no more
     * use afterwards: at most 162 calls.
     */
    static String takenApart(PackageAuction x) {
        int bids = x.bids();
        int withheld = x.withheld();
        for (int i = 0; i < 8; i++) {
            x.withhold(i, false);
        }
        int[] packages = packages(x);
        int[] amounts = amounts(x, bids);
        StringBuilder parts = new StringBuilder();
        for (int b = 0; b < 8; b++) {
            if ((bids >> b & 1) != 0) {
                parts.append(parts.length() == 0 ? "" : ", ").append(b).append(": ").append(packages[b]);
                parts.append(' ').append(bidder(x, b)).append(' ').append(amounts[b]);
            }
        }
        return "{" + parts + "} withheld " + withheld;
    }

    private static int[] packages(PackageAuction x) {
        int[] packages = new int[8];
        for (int i = 0; i < 8; i++) {
            x.withhold(i, true);
            for (int b = 0; b < 8; b++) {
                packages[b] |= x.allocation(1 << b) ? 0 : 1 << i;
            }
            x.withhold(i, false);
        }
        return packages;
    }

    /** Leaves every bid with amount 1. */
    private static int[] amounts(PackageAuction x, int bids) {
        int[] amounts = new int[8];
        for (int b = 0; b < 8; b++) {
            if ((bids >> b & 1) != 0) {
                int before = x.revenueWith(b);
                x.raise(b, 1);
                amounts[b] = before - x.revenueWith(b) + 1;
            }
        }
        return amounts;
    }

    /** The others have amount 1, so bid b with 50 wins, except where its bidder is left out. */
    private static int bidder(PackageAuction x, int b) {
        int found = -1;
        x.raise(b, 50);
        for (int bidder = 0; bidder < 4; bidder++) {
            if (x.revenueWithout(bidder) < 50) {
                found = bidder;
            }
        }
        x.raise(b, 1);
        return found;
    }

    /** Looks before and after the call, and takes both the auction and one without the call apart. */
    static void staysAfter(String what, Supplier<PackageAuction> maker, Consumer<PackageAuction> call) {
        PackageAuction x = maker.get();
        String before = look(x);
        call.accept(x);
        Due.is(what + ", state after", look(x), before);
        Due.is(what + ", bids after", takenApart(x), takenApart(maker.get()));
    }
}
