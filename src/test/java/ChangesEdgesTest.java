import java.util.function.Supplier;

/** The boundary cases of the new object and of the calls that change it: promises 1 to 5 and 17. */
public final class ChangesEdgesTest {
    private ChangesEdgesTest() {
    }

    public static void main(String[] args) {
        newObjectIsEmpty();
        newObjectsAreApart();
        bidBundleIs1To255();
        bidBidderIs0To3();
        bidAmountIs1To50();
        bidIsFullWithEight();
        bidGetsTheLeastFreeNumber();
        bidLeavesNothingOfTheOldOne();
        bidOnAWithheldItem();
        badGoesBeforeFull();
        retractTakesOnlyThatBid();
        retractWithoutBid();
        raiseGivesOnlyThatBidAnotherAmount();
        raiseWithoutBid();
        raiseAmountIs1To50();
        withholdChangesOnlyThatItem();
        withholdTwice();
        withholdWithoutItem();
        Due.end("ChangesEdgesTest");
    }

    private static void newObjectIsEmpty() {
        PackageAuction x = new PackageAuction();
        Due.is("new object", State.look(x), "bids 0, withheld 0, winners 0, revenue 0, sold 0"
                + "; bidder 0 0 0; bidder 1 0 0; bidder 2 0 0; bidder 3 0 0"
                + "; 0 -1 -1 0 n; 1 -1 -1 0 nn; 2 -1 -1 0 nnn; 3 -1 -1 0 nnnn; 4 -1 -1 0 nnnnn"
                + "; 5 -1 -1 0 nnnnnn; 6 -1 -1 0 nnnnnnn; 7 -1 -1 0 nnnnnnnn");
        Due.is("new object, allocation(0)", x.allocation(0), true);
        Due.is("new object, taken apart", State.takenApart(x), "{} withheld 0");
        Due.is("new object, first bid", new PackageAuction().bid(1, 0, 1), 0);
    }

    private static void newObjectsAreApart() {
        PackageAuction x = new PackageAuction();
        PackageAuction other = Auctions.allWithheld();
        Due.is("new object beside a full one", State.takenApart(x), "{} withheld 0");
        Due.is("made after a full one", State.takenApart(new PackageAuction()), "{} withheld 0");
        Due.is("the full one", State.takenApart(other), FULL_BIDS + " withheld 255");
    }

    private static final String FULL_BIDS = "{0: 1 0 1, 1: 2 1 2, 2: 4 2 3, 3: 8 3 4, "
            + "4: 16 0 5, 5: 32 1 6, 6: 64 2 7, 7: 128 3 8}";

    private static void isBad(int bundle, int bidder, int amount) {
        String call = "bid(" + bundle + ", " + bidder + ", " + amount + ")";
        Auctions.all().forEach((name, maker) -> State.staysAfter(name + ", " + call, maker, x ->
                Due.is(name + ", " + call, x.bid(bundle, bidder, amount), PackageAuction.BAD)));
    }

    private static void bidBundleIs1To255() {
        for (int bundle : Edges.notBundles()) {
            isBad(bundle, 0, 5);
        }
        for (int bundle : new int[] {1, 2, 127, 128, 254, 255}) {
            PackageAuction x = Auctions.withGaps();
            Due.is("bundle " + bundle, x.bid(bundle, 3, 50), 0);
            Due.is("bundle " + bundle + ", taken apart", State.takenApart(x),
                    "{0: " + bundle + " 3 50, 1: 2 1 2, 2: 4 2 3, 4: 16 0 5, 5: 32 1 6, 6: 64 2 7} withheld 36");
        }
    }

    private static void bidBidderIs0To3() {
        for (int bidder : Edges.notBidders()) {
            isBad(1, bidder, 5);
        }
        for (int bidder = 0; bidder <= 3; bidder++) {
            PackageAuction x = Auctions.withGaps();
            Due.is("bidder " + bidder, x.bid(9, bidder, 1), 0);
            Due.is("bidder " + bidder + ", taken apart", State.takenApart(x), "{0: 9 " + bidder
                    + " 1, 1: 2 1 2, 2: 4 2 3, 4: 16 0 5, 5: 32 1 6, 6: 64 2 7} withheld 36");
        }
    }

    private static void bidAmountIs1To50() {
        for (int amount : Edges.notAmounts()) {
            isBad(1, 0, amount);
        }
        for (int amount : new int[] {1, 2, 49, 50}) {
            PackageAuction x = Auctions.withGaps();
            Due.is("amount " + amount, x.bid(255, 2, amount), 0);
            Due.is("amount " + amount + ", taken apart", State.takenApart(x), "{0: 255 2 " + amount
                    + ", 1: 2 1 2, 2: 4 2 3, 4: 16 0 5, 5: 32 1 6, 6: 64 2 7} withheld 36");
        }
    }

    private static void isFull(String name, Supplier<PackageAuction> maker) {
        int[][] good = {{1, 0, 1}, {255, 3, 50}, {128, 0, 25}};
        for (int[] bid : good) {
            String call = name + ", bid(" + bid[0] + ", " + bid[1] + ", " + bid[2] + ")";
            State.staysAfter(call, maker, x ->
                    Due.is(call, x.bid(bid[0], bid[1], bid[2]), PackageAuction.FULL));
        }
    }

    private static void bidIsFullWithEight() {
        isFull("full", Auctions::full);
        isFull("clashing", Auctions::clashing);
        isFull("all withheld", Auctions::allWithheld);
        PackageAuction x = new PackageAuction();
        for (int b = 0; b < 8; b++) {
            Due.is("bid with " + b + " there", x.bid(1, 0, 1), b);
        }
        Due.is("bid with eight there", x.bid(1, 0, 1), PackageAuction.FULL);
        x.retract(4);
        Due.is("bid with seven there", x.bid(1, 0, 1), 4);
        Due.is("bid with eight there again", x.bid(1, 0, 1), PackageAuction.FULL);
    }

    private static void bidGetsTheLeastFreeNumber() {
        for (int kept = 0; kept < 256; kept++) {
            PackageAuction x = Auctions.full();
            for (int b = 7; b >= 0; b--) {
                if ((kept >> b & 1) == 0) {
                    x.retract(b);
                }
            }
            for (int b = 0; b < 8; b++) {
                if ((kept >> b & 1) == 0) {
                    Due.is("the least number free beside " + kept, x.bid(3, 1, 9), b);
                }
            }
            Due.is("all numbers taken", x.bids(), 255);
            Due.is("no number free", x.bid(3, 1, 9), PackageAuction.FULL);
        }
    }

    private static void bidLeavesNothingOfTheOldOne() {
        for (int b = 0; b < 8; b++) {
            PackageAuction x = new PackageAuction();
            for (int n = 0; n < 8; n++) {
                x.bid(255, 3, 50);
            }
            x.retract(b);
            Due.is("number " + b + " again", x.bid(1, 0, 1), b);
            StringBuilder due = new StringBuilder();
            for (int n = 0; n < 8; n++) {
                due.append(n == 0 ? "{" : ", ").append(n).append(n == b ? ": 1 0 1" : ": 255 3 50");
            }
            Due.is("the new bid " + b, State.takenApart(x), due + "} withheld 0");
        }
    }

    private static void bidOnAWithheldItem() {
        for (int i = 0; i < 8; i++) {
            PackageAuction x = new PackageAuction();
            x.withhold(i, true);
            Due.is("bid on item " + i + " withheld", x.bid(1 << i, 0, 5), 0);
            Due.is("bid on item " + i + " withheld, winners", x.winners(), 0);
            x.withhold(i, false);
            Due.is("bid on item " + i + " offered again, winners", x.winners(), 1);
        }
    }

    private static void badGoesBeforeFull() {
        int[][] bad = {{0, 0, 1}, {256, 0, 1}, {1, -1, 1}, {1, 4, 1}, {1, 0, 0}, {1, 0, 51}, {0, 4, 51},
            {Integer.MIN_VALUE, 0, 1}, {Integer.MAX_VALUE, 0, 1}, {1, Integer.MIN_VALUE, 1},
            {1, Integer.MAX_VALUE, 1}, {1, 0, Integer.MIN_VALUE}, {1, 0, Integer.MAX_VALUE}};
        for (int[] bid : bad) {
            String call = "full, bid(" + bid[0] + ", " + bid[1] + ", " + bid[2] + ")";
            State.staysAfter(call, Auctions::full, x ->
                    Due.is(call, x.bid(bid[0], bid[1], bid[2]), PackageAuction.BAD));
        }
        Due.is("full, bid(1, 0, 1)", Auctions.full().bid(1, 0, 1), PackageAuction.FULL);
        Due.is("full, bid(255, 3, 50)", Auctions.full().bid(255, 3, 50), PackageAuction.FULL);
    }

    private static void retractTakesOnlyThatBid() {
        for (int b = 0; b < 8; b++) {
            PackageAuction x = Auctions.full();
            x.withhold(6, true);
            Due.is("retract(" + b + ")", x.retract(b), true);
            String part = b + ": " + (1 << b) + " " + b % 4 + " " + (b + 1);
            String due = FULL_BIDS.replace(b == 7 ? ", " + part : part + ", ", "");
            Due.is("retract(" + b + "), taken apart", State.takenApart(x), due + " withheld 64");
        }
        PackageAuction last = Auctions.with(255, 3, 50);
        Due.is("retract(0), the only bid", last.retract(0), true);
        Due.is("nothing left", State.takenApart(last), "{} withheld 0");
    }

    private static void retractFails(String name, Supplier<PackageAuction> maker, int b) {
        String call = name + ", retract(" + b + ")";
        State.staysAfter(call, maker, x -> Due.is(call, x.retract(b), false));
    }

    private static void retractWithoutBid() {
        for (int b : Edges.notBidNumbers()) {
            Auctions.all().forEach((name, maker) -> retractFails(name, maker, b));
        }
        for (int b = 0; b < 8; b++) {
            retractFails("empty", PackageAuction::new, b);
        }
        for (int b : new int[] {0, 3, 7}) {
            retractFails("with gaps", Auctions::withGaps, b);
        }
        retractFails("one bid", () -> Auctions.with(255, 3, 50), 1);
        PackageAuction x = Auctions.full();
        for (int b = 0; b < 8; b++) {
            Due.is("retract(" + b + ") once", x.retract(b), true);
            Due.is("retract(" + b + ") twice", x.retract(b), false);
        }
    }

    private static void raiseGivesOnlyThatBidAnotherAmount() {
        for (int b = 0; b < 8; b++) {
            for (int amount : new int[] {1, 2, b + 1, 49, 50}) {
                PackageAuction x = Auctions.full();
                x.withhold(6, true);
                Due.is("raise(" + b + ", " + amount + ")", x.raise(b, amount), true);
                String part = b + ": " + (1 << b) + " " + b % 4 + " ";
                String due = FULL_BIDS.replace(part + (b + 1), part + amount);
                Due.is("raise(" + b + ", " + amount + "), taken apart", State.takenApart(x), due + " withheld 64");
            }
        }
    }

    private static void raiseFails(String name, Supplier<PackageAuction> maker, int b, int amount) {
        String call = name + ", raise(" + b + ", " + amount + ")";
        State.staysAfter(call, maker, x -> Due.is(call, x.raise(b, amount), false));
    }

    private static void raiseWithoutBid() {
        for (int b : Edges.notBidNumbers()) {
            Auctions.all().forEach((name, maker) -> raiseFails(name, maker, b, 50));
            raiseFails("full", Auctions::full, b, 0);
        }
        for (int b = 0; b < 8; b++) {
            raiseFails("empty", PackageAuction::new, b, 1);
        }
        for (int b : new int[] {0, 3, 7}) {
            raiseFails("with gaps", Auctions::withGaps, b, 1);
            raiseFails("with gaps", Auctions::withGaps, b, 51);
        }
        PackageAuction x = Auctions.with(1, 0, 5);
        x.retract(0);
        Due.is("raise(0, 50), taken back", x.raise(0, 50), false);
        x.bid(1, 0, 6);
        Due.is("the next bid 0 has its own amount", x.revenue(), 6);
    }

    private static void raiseAmountIs1To50() {
        for (int amount : Edges.notAmounts()) {
            raiseFails("full", Auctions::full, 0, amount);
            raiseFails("full", Auctions::full, 7, amount);
            raiseFails("with gaps", Auctions::withGaps, 4, amount);
            raiseFails("clashing", Auctions::clashing, 0, amount);
            raiseFails("all withheld", Auctions::allWithheld, 3, amount);
            raiseFails("empty", PackageAuction::new, 0, amount);
        }
        PackageAuction x = Auctions.with(1, 0, 5);
        for (int amount = 1; amount <= 50; amount++) {
            Due.is("raise(0, " + amount + ")", x.raise(0, amount), true);
            Due.is("raise(0, " + amount + "), revenue", x.revenue(), amount);
        }
    }

    private static void withholdChangesOnlyThatItem() {
        for (int i = 0; i < 8; i++) {
            PackageAuction x = Auctions.full();
            Due.is("withhold(" + i + ", true)", x.withhold(i, true), true);
            Due.is("withhold(" + i + ", true), taken apart", State.takenApart(x), FULL_BIDS + " withheld " + (1 << i));
            PackageAuction y = Auctions.allWithheld();
            Due.is("withhold(" + i + ", false)", y.withhold(i, false), true);
            Due.is("withhold(" + i + ", false), taken apart", State.takenApart(y),
                    FULL_BIDS + " withheld " + (255 - (1 << i)));
        }
    }

    private static void withholdTwice() {
        for (int i = 0; i < 8; i++) {
            int item = i;
            State.staysAfter("all withheld, withhold(" + i + ", true)", Auctions::allWithheld, x ->
                    Due.is("withhold(" + item + ", true), withheld already", x.withhold(item, true), true));
            State.staysAfter("full, withhold(" + i + ", false)", Auctions::full, x ->
                    Due.is("withhold(" + item + ", false), not withheld", x.withhold(item, false), true));
        }
    }

    private static void withholdWithoutItem() {
        for (int i : Edges.notItems()) {
            for (boolean on : new boolean[] {true, false}) {
                Auctions.all().forEach((name, maker) -> {
                    String call = name + ", withhold(" + i + ", " + on + ")";
                    State.staysAfter(call, maker, x -> Due.is(call, x.withhold(i, on), false));
                });
            }
        }
    }
}
