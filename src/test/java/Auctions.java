import java.util.LinkedHashMap;
import java.util.Map;
import java.util.function.Supplier;

/** Auctions that tests begin with; each call makes a new one. */
final class Auctions {
    private Auctions() {
    }

    /** An auction with these bids, each given as bundle, bidder, amount. */
    static PackageAuction with(int... bids) {
        PackageAuction x = new PackageAuction();
        for (int k = 0; k < bids.length; k += 3) {
            Due.is("bid " + k / 3 + " of a new object", x.bid(bids[k], bids[k + 1], bids[k + 2]), k / 3);
        }
        return x;
    }

    /** Eight bids, bid b on item b alone with amount b + 1, two for each bidder. */
    static PackageAuction full() {
        return with(1, 0, 1, 2, 1, 2, 4, 2, 3, 8, 3, 4, 16, 0, 5, 32, 1, 6, 64, 2, 7, 128, 3, 8);
    }

    /** As full, but bids 0, 3 and 7 are taken back and items 2 and 5 are withheld. */
    static PackageAuction withGaps() {
        PackageAuction x = full();
        Due.is("retract(0)", x.retract(0), true);
        Due.is("retract(3)", x.retract(3), true);
        Due.is("retract(7)", x.retract(7), true);
        Due.is("withhold(2, true)", x.withhold(2, true), true);
        Due.is("withhold(5, true)", x.withhold(5, true), true);
        return x;
    }

    /** Eight bids, no two of which go together, with all the edges of package, bidder and amount. */
    static PackageAuction clashing() {
        return with(255, 0, 50, 255, 3, 1, 129, 1, 49, 1, 2, 2, 255, 0, 50, 129, 3, 1, 1, 1, 50, 3, 2, 25);
    }

    /** As full, but every item is withheld. */
    static PackageAuction allWithheld() {
        PackageAuction x = full();
        for (int i = 0; i < 8; i++) {
            Due.is("withhold(" + i + ", true)", x.withhold(i, true), true);
        }
        return x;
    }

    /** Makers of the auctions, from an empty one to full ones, by name. */
    static Map<String, Supplier<PackageAuction>> all() {
        Map<String, Supplier<PackageAuction>> all = new LinkedHashMap<>();
        all.put("empty", PackageAuction::new);
        all.put("one bid", () -> with(255, 3, 50));
        all.put("full", Auctions::full);
        all.put("with gaps", Auctions::withGaps);
        all.put("clashing", Auctions::clashing);
        all.put("all withheld", Auctions::allWithheld);
        return all;
    }
}
