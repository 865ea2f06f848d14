/** Long runs of calls, the same on every run, on the program and on ReferenceAuction. */
public final class ReferenceTest {
    private static final int RUNS = 120;
    private static final int CALLS = 512;
    private static final int[] ODD = {Integer.MIN_VALUE, -33, -32, -1, 8, 31, 32, 256, 257, Integer.MAX_VALUE};

    private final PackageAuction x = new PackageAuction();
    private final ReferenceAuction y = new ReferenceAuction();
    private final int mostAmount;
    private final int mostItems;
    private long seed;

    private ReferenceTest(int run) {
        seed = run * 7919L + 17;
        // Few different amounts make many ties; small packages make large allocations.
        mostAmount = new int[] {2, 4, 10, 50}[run % 4];
        mostItems = new int[] {1, 2, 3, 8}[run / 4 % 4];
    }

    public static void main(String[] args) {
        for (int run = 0; run < RUNS && Due.wrongSoFar() < 20; run++) {
            ReferenceTest test = new ReferenceTest(run);
            for (int call = 1; call <= CALLS && Due.wrongSoFar() < 20; call++) {
                test.oneCall("run " + run + ", call " + call + ": ");
            }
        }
        Due.end("ReferenceTest");
    }

    private int below(int bound) {
        seed = seed * 6364136223846793005L + 1442695040888963407L;
        return (int) ((seed >>> 33) % bound);
    }

    /** Mostly a number from 0 up to below the bound; now and then one outside. */
    private int argument(int bound) {
        int kind = below(40);
        if (kind == 0) {
            return ODD[below(ODD.length)];
        }
        return kind == 1 ? bound : below(bound);
    }

    private int amount() {
        int kind = below(40);
        if (kind == 0) {
            return below(2) * 51;
        }
        return kind == 1 ? 50 : 1 + below(mostAmount);
    }

    private int bundle() {
        if (below(40) == 0) {
            return ODD[below(ODD.length)];
        }
        int bundle = 0;
        int items = 1 + below(mostItems);
        for (int k = 0; k < items; k++) {
            bundle |= 1 << below(8);
        }
        return bundle;
    }

    private void oneCall(String at) {
        int kind = below(24);
        if (kind < 10) {
            change(at, kind);
        } else {
            ask(at, kind);
        }
    }

    private void change(String at, int kind) {
        if (kind < 5) {
            int bundle = bundle();
            int bidder = argument(4);
            int amount = amount();
            Due.is(at + "bid(" + bundle + ", " + bidder + ", " + amount + ")",
                    x.bid(bundle, bidder, amount), y.bid(bundle, bidder, amount));
        } else if (kind < 7) {
            int b = argument(8);
            Due.is(at + "retract(" + b + ")", x.retract(b), y.retract(b));
        } else if (kind < 9) {
            int b = argument(8);
            int amount = amount();
            Due.is(at + "raise(" + b + ", " + amount + ")", x.raise(b, amount), y.raise(b, amount));
        } else {
            int i = argument(8);
            boolean on = below(4) == 0;
            Due.is(at + "withhold(" + i + ", " + on + ")", x.withhold(i, on), y.withhold(i, on));
        }
    }

    private void ask(String at, int kind) {
        int of4 = argument(4);
        int of8 = argument(8);
        int set = below(8) == 0 ? argument(1 << 30) : below(256) & below(256);
        switch (kind) {
            case 10 -> Due.is(at + "bids()", x.bids(), y.bids());
            case 11 -> Due.is(at + "withheld()", x.withheld(), y.withheld());
            case 12 -> Due.is(at + "revenue()", x.revenue(), y.revenue());
            case 13 -> Due.is(at + "sold()", x.sold(), y.sold());
            case 14 -> Due.is(at + "revenueWithout(" + of4 + ")", x.revenueWithout(of4), y.revenueWithout(of4));
            case 15 -> Due.is(at + "payment(" + of4 + ")", x.payment(of4), y.payment(of4));
            case 16, 17 -> Due.is(at + "threshold(" + of8 + ")", x.threshold(of8), y.threshold(of8));
            case 18 -> Due.is(at + "revenueWith(" + of8 + ")", x.revenueWith(of8), y.revenueWith(of8));
            case 19 -> Due.is(at + "price(" + of8 + ")", x.price(of8), y.price(of8));
            case 20, 21 -> Due.is(at + "allocation(" + set + ")", x.allocation(set), y.allocation(set));
            default -> Due.is(at + "winners()", x.winners(), y.winners());
        }
    }
}
