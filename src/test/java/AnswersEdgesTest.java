/** The boundary cases of the calls that ask: promises 6 to 16, and the last of the 512 calls. */
public final class AnswersEdgesTest {
    private static final int NONE = PackageAuction.NONE;

    private AnswersEdgesTest() {
    }

    public static void main(String[] args) {
        askingChangesNothing();
        bidsFromNoneToEight();
        withheldFromNoneToAll();
        winnersRevenueAndSoldOfNothing();
        winnersRevenueAndSoldAtMost();
        revenueWithoutBidder0To3();
        revenueWithoutABidderWithoutBids();
        revenueWithoutTheOnlyBidder();
        paymentBidder0To3();
        paymentWhenNoneWins();
        paymentLeastAndMost();
        thresholdIsTheLeastThatWins();
        thresholdIsAtLeast1();
        thresholdIsAtMost50();
        thresholdOfAWithheldItem();
        thresholdWithoutBid();
        revenueWithAWithheldItem();
        revenueWithNoSuchBid();
        revenueWithLeastAndMost();
        priceOfAWithheldItem();
        priceWithoutItem();
        priceLeastAndMost();
        allocationBits0To31();
        allocationOfBidsNotThere();
        call512();
        Due.end("AnswersEdgesTest");
    }

    private static void askingChangesNothing() {
        Auctions.all().forEach((name, maker) ->
                State.staysAfter(name + ", asked all there is", maker, State::look));
    }

    private static void bidsFromNoneToEight() {
        PackageAuction x = new PackageAuction();
        Due.is("bids, none", x.bids(), 0);
        for (int b = 0; b < 8; b++) {
            x.bid(255, 0, 1);
            Due.is("bids 0 .. " + b, x.bids(), (2 << b) - 1);
        }
        x.bid(255, 0, 1);
        Due.is("bids, a ninth refused", x.bids(), 255);
        for (int b = 0; b < 8; b++) {
            x.retract(b);
            Due.is("bids " + (b + 1) + " .. 7", x.bids(), 255 & -2 << b);
        }
        Due.is("bids, all withheld", Auctions.allWithheld().bids(), 255);
    }

    private static void withheldFromNoneToAll() {
        PackageAuction x = new PackageAuction();
        Due.is("withheld, none", x.withheld(), 0);
        for (int i = 0; i < 8; i++) {
            x.withhold(i, true);
            Due.is("withheld 0 .. " + i, x.withheld(), (2 << i) - 1);
        }
        for (int i = 0; i < 8; i++) {
            x.withhold(i, false);
            Due.is("withheld " + (i + 1) + " .. 7", x.withheld(), 255 & -2 << i);
        }
    }

    private static void nothingWins(String what, PackageAuction x) {
        Due.is(what + ", winners", x.winners(), 0);
        Due.is(what + ", revenue", x.revenue(), 0);
        Due.is(what + ", sold", x.sold(), 0);
    }

    private static void winnersRevenueAndSoldOfNothing() {
        nothingWins("new object", new PackageAuction());
        nothingWins("every item withheld", Auctions.allWithheld());
        PackageAuction x = Auctions.with(255, 3, 50);
        x.withhold(7, true);
        nothingWins("the only bid holds a withheld item", x);
        x.withhold(7, false);
        x.retract(0);
        nothingWins("the only bid taken back", x);
    }

    private static void winnersRevenueAndSoldAtMost() {
        PackageAuction x = Auctions.with(1, 0, 1, 1, 1, 1, 1, 2, 1, 1, 3, 1,
                3, 0, 50, 12, 1, 50, 48, 2, 50, 192, 3, 50);
        Due.is("four bids with 50, winners", x.winners(), 240);
        Due.is("four bids with 50, revenue", x.revenue(), 200);
        Due.is("four bids with 50, sold", x.sold(), 255);
        Due.is("one bid on all items, sold", Auctions.with(255, 3, 1).sold(), 255);
        Due.is("one bid on item 7, sold", Auctions.with(128, 3, 1).sold(), 128);
    }

    private static void revenueWithoutBidder0To3() {
        PackageAuction x = Auctions.full();
        Due.is("revenueWithout(0)", x.revenueWithout(0), 21);
        Due.is("revenueWithout(1)", x.revenueWithout(1), 20);
        Due.is("revenueWithout(2)", x.revenueWithout(2), 19);
        Due.is("revenueWithout(3)", x.revenueWithout(3), 18);
        for (int bidder : Edges.notBidders()) {
            Auctions.all().forEach((name, maker) -> Due.is(name + ", revenueWithout(" + bidder + ")",
                    maker.get().revenueWithout(bidder), NONE));
        }
    }

    private static void revenueWithoutABidderWithoutBids() {
        for (int bidder = 0; bidder <= 3; bidder++) {
            Due.is("empty, revenueWithout(" + bidder + ")", new PackageAuction().revenueWithout(bidder), 0);
            PackageAuction x = Auctions.full();
            x.retract(bidder);
            x.retract(bidder + 4);
            Due.is("both bids taken back, revenueWithout(" + bidder + ")", x.revenueWithout(bidder),
                    26 - (bidder + 5));
        }
    }

    private static void revenueWithoutTheOnlyBidder() {
        for (int bidder = 0; bidder <= 3; bidder++) {
            PackageAuction x = Auctions.with(1, bidder, 50, 128, bidder, 50);
            for (int other = 0; other <= 3; other++) {
                Due.is("bidder " + bidder + " alone, revenueWithout(" + other + ")",
                        x.revenueWithout(other), other == bidder ? 0 : 50);
            }
        }
    }

    private static void paymentBidder0To3() {
        PackageAuction x = Auctions.with(1, 0, 9, 2, 1, 9, 4, 2, 9, 8, 3, 9, 1, 3, 2, 2, 0, 3, 4, 1, 4, 8, 2, 5);
        Due.is("payment(0)", x.payment(0), 0);
        Due.is("payment(3)", x.payment(3), 0);
        PackageAuction y = Auctions.with(3, 0, 10, 12, 3, 20, 1, 1, 4, 8, 2, 5);
        Due.is("payment(0), a rival with 4", y.payment(0), 4);
        Due.is("payment(3), a rival with 5", y.payment(3), 5);
        for (int bidder : Edges.notBidders()) {
            Auctions.all().forEach((name, maker) -> Due.is(name + ", payment(" + bidder + ")",
                    maker.get().payment(bidder), NONE));
        }
    }

    private static void paymentWhenNoneWins() {
        for (int bidder = 0; bidder <= 3; bidder++) {
            Due.is("no bids, payment(" + bidder + ")", new PackageAuction().payment(bidder), 0);
            Due.is("all withheld, payment(" + bidder + ")", Auctions.allWithheld().payment(bidder), 0);
            int rival = 3 - bidder;
            PackageAuction x = Auctions.with(255, rival, 50, 1, bidder, 49, 128, bidder, 49);
            Due.is("two bids lose, payment(" + bidder + ")", x.payment(bidder), 0);
            PackageAuction y = Auctions.with(255, rival, 50, 255, bidder, 50);
            Due.is("loses a tie, payment(" + bidder + ")", y.payment(bidder), 0);
            y.retract(1);
            Due.is("taken back, payment(" + bidder + ")", y.payment(bidder), 0);
        }
    }

    private static void paymentLeastAndMost() {
        Due.is("no rival", Auctions.with(255, 0, 50).payment(0), 0);
        Due.is("a rival with 1", Auctions.with(255, 0, 50, 1, 1, 1).payment(0), 1);
        Due.is("a rival with 49", Auctions.with(255, 0, 50, 1, 1, 49).payment(0), 49);
        Due.is("wins a tie with 50", Auctions.with(255, 0, 50, 1, 1, 50).payment(0), 50);
        Due.is("wins a tie with 1", Auctions.with(255, 0, 1, 1, 1, 1).payment(0), 1);
        Due.is("three rivals together", Auctions.with(7, 0, 50, 1, 1, 16, 2, 2, 16, 4, 3, 17).payment(0), 49);
        PackageAuction withheld = Auctions.with(3, 0, 50, 7, 1, 49, 1, 2, 20);
        Due.is("the best rival", withheld.payment(0), 49);
        withheld.withhold(2, true);
        Due.is("the best rival's item withheld", withheld.payment(0), 20);
    }

    /** Raises bid b to every amount in turn; the auction is of no more use afterwards. */
    private static int leastThatWins(PackageAuction x, int b) {
        for (int amount = 1; amount <= 50; amount++) {
            x.raise(b, amount);
            if ((x.winners() >> b & 1) != 0) {
                return amount;
            }
        }
        return 51;
    }

    private static void thresholdIsTheLeastThatWins() {
        Auctions.all().forEach((name, maker) -> {
            for (int b = 0; b < 8; b++) {
                PackageAuction x = maker.get();
                if ((x.bids() >> b & 1) != 0) {
                    int threshold = x.threshold(b);
                    Due.is(name + ", threshold(" + b + ")", threshold, leastThatWins(x, b));
                    Due.is(name + ", once more", x.threshold(b), threshold);
                }
            }
        });
    }

    private static void thresholdIsAtLeast1() {
        Due.is("alone with 1", Auctions.with(255, 0, 1).threshold(0), 1);
        Due.is("alone with 50", Auctions.with(255, 0, 50).threshold(0), 1);
        Due.is("a rival with 1, wins the tie", Auctions.with(1, 0, 9, 1, 1, 1).threshold(0), 1);
        Due.is("a rival with 1, loses the tie", Auctions.with(1, 0, 1, 1, 1, 9).threshold(1), 2);
        Due.is("a rival with 2, wins the tie", Auctions.with(1, 0, 9, 1, 1, 2).threshold(0), 2);
        Due.is("partner 10, rival 10", Auctions.with(2, 0, 9, 1, 1, 10, 3, 2, 10).threshold(0), 1);
        Due.is("partner 10, rival 9", Auctions.with(2, 0, 9, 1, 1, 10, 3, 2, 9).threshold(0), 1);
        Due.is("partner 10, rival 11, wins the tie", Auctions.with(2, 0, 9, 1, 1, 10, 3, 2, 11).threshold(0), 1);
        Due.is("partner 10, rival 11, loses the tie", Auctions.with(3, 2, 11, 1, 1, 10, 2, 0, 9).threshold(2), 2);
        Due.is("partner 10, rival 10 goes before", Auctions.with(3, 2, 10, 1, 1, 10, 2, 0, 9).threshold(2), 1);
        Due.is("three partners with 50", Auctions.with(1, 0, 50, 2, 1, 50, 4, 2, 50, 8, 3, 1).threshold(3), 1);
    }

    private static void thresholdIsAtMost50() {
        Due.is("a rival with 50, wins the tie", Auctions.with(1, 0, 9, 1, 1, 50).threshold(0), 50);
        Due.is("a rival with 49, loses the tie", Auctions.with(1, 0, 49, 1, 1, 9).threshold(1), 50);
        Due.is("a rival with 50, loses the tie", Auctions.with(1, 0, 50, 1, 1, 9).threshold(1), 51);
        Due.is("has 50, and loses the tie", Auctions.with(1, 0, 50, 1, 1, 50).threshold(1), 51);
        Due.is("rivals 25 + 25, wins the tie", Auctions.with(3, 0, 9, 1, 1, 25, 2, 2, 25).threshold(0), 50);
        Due.is("rivals 25 + 26", Auctions.with(3, 0, 9, 1, 1, 25, 2, 2, 26).threshold(0), 51);
        Due.is("rivals 24 + 25, loses the tie", Auctions.with(1, 1, 24, 2, 2, 25, 3, 0, 9).threshold(2), 50);
        Due.is("rivals 25 + 25, loses the tie", Auctions.with(1, 1, 25, 2, 2, 25, 3, 0, 9).threshold(2), 51);
        Due.is("rivals 3 * 50", Auctions.with(7, 0, 9, 1, 1, 50, 2, 2, 50, 4, 3, 50).threshold(0), 51);
        Due.is("the bidder's own bid with 50 before", Auctions.with(1, 0, 50, 2, 0, 9).threshold(1), 51);
        Due.is("the bidder's own bid with 50 after", Auctions.with(1, 0, 9, 2, 0, 50).threshold(0), 50);
    }

    private static void thresholdOfAWithheldItem() {
        for (int i = 0; i < 8; i++) {
            PackageAuction x = Auctions.with(1 << i, 0, 50, 255, 0, 50, 255 - (1 << i), 0, 1);
            x.withhold(i, true);
            Due.is("item " + i + " withheld, that item alone", x.threshold(0), 51);
            Due.is("item " + i + " withheld, all items", x.threshold(1), 51);
            Due.is("item " + i + " withheld, all but that item", x.threshold(2), 1);
            x.withhold(i, false);
            Due.is("item " + i + " offered again, that item alone", x.threshold(0), 50);
            Due.is("item " + i + " offered again, all items", x.threshold(1), 51);
        }
    }

    private static void thresholdWithoutBid() {
        for (int b : Edges.notBidNumbers()) {
            Auctions.all().forEach((name, maker) -> Due.is(name + ", threshold(" + b + ")",
                    maker.get().threshold(b), NONE));
        }
        for (int b = 0; b < 8; b++) {
            Due.is("empty, threshold(" + b + ")", new PackageAuction().threshold(b), NONE);
            PackageAuction x = Auctions.allWithheld();
            x.retract(b);
            Due.is("taken back and withheld, threshold(" + b + ")", x.threshold(b), NONE);
        }
    }

    private static void revenueWithAWithheldItem() {
        for (int i = 0; i < 8; i++) {
            PackageAuction x = Auctions.with(1 << i, 0, 50, 255, 1, 49, 255 - (1 << i), 2, 1);
            x.withhold(i, true);
            Due.is("item " + i + " withheld, that item alone", x.revenueWith(0), NONE);
            Due.is("item " + i + " withheld, all items", x.revenueWith(1), NONE);
            Due.is("item " + i + " withheld, all but that item", x.revenueWith(2), 1);
            x.withhold(i, false);
            Due.is("item " + i + " offered again, that item alone", x.revenueWith(0), 51);
            Due.is("item " + i + " offered again, all items", x.revenueWith(1), 49);
        }
        for (int b = 0; b < 8; b++) {
            Due.is("all withheld, revenueWith(" + b + ")", Auctions.allWithheld().revenueWith(b), NONE);
        }
    }

    private static void revenueWithNoSuchBid() {
        for (int b : Edges.notBidNumbers()) {
            Auctions.all().forEach((name, maker) -> Due.is(name + ", revenueWith(" + b + ")",
                    maker.get().revenueWith(b), NONE));
        }
        for (int b = 0; b < 8; b++) {
            Due.is("empty, revenueWith(" + b + ")", new PackageAuction().revenueWith(b), NONE);
            PackageAuction x = Auctions.full();
            x.retract(b);
            Due.is("taken back, revenueWith(" + b + ")", x.revenueWith(b), NONE);
        }
    }

    private static void revenueWithLeastAndMost() {
        Due.is("alone with 1", Auctions.with(255, 0, 1).revenueWith(0), 1);
        Due.is("a loser with 1", Auctions.with(255, 0, 1, 255, 1, 50).revenueWith(0), 1);
        PackageAuction x = Auctions.with(1, 0, 50, 2, 1, 50, 4, 2, 50, 8, 3, 50, 16, 0, 50);
        for (int b = 0; b < 5; b++) {
            Due.is("200 with bid " + b, x.revenueWith(b), 200);
        }
        Due.is("full, revenueWith(0)", Auctions.full().revenueWith(0), 1 + 6 + 7 + 8);
        Due.is("full, revenueWith(7)", Auctions.full().revenueWith(7), 26);
    }

    private static void priceOfAWithheldItem() {
        for (int i = 0; i < 8; i++) {
            PackageAuction x = Auctions.with(1 << i, 0, 50, 255, 1, 40);
            Due.is("price(" + i + ")", x.price(i), 50);
            x.withhold(i, true);
            Due.is("price(" + i + "), withheld already", x.price(i), 0);
            Due.is("price(" + i + ") leaves it withheld", x.withheld(), 1 << i);
            x.withhold(i, false);
            Due.is("price(" + i + "), offered again", x.price(i), 50);
            Due.is("price(" + i + ") leaves it offered", x.withheld(), 0);
        }
        PackageAuction y = Auctions.with(1, 0, 9, 2, 1, 8);
        y.withhold(0, true);
        Due.is("price(0), withheld already, another sold", y.price(0), 0);
        Due.is("price(1), another withheld", y.price(1), 8);
    }

    private static void priceWithoutItem() {
        for (int i : Edges.notItems()) {
            Auctions.all().forEach((name, maker) -> Due.is(name + ", price(" + i + ")",
                    maker.get().price(i), NONE));
        }
        for (int i = 0; i < 8; i++) {
            Due.is("empty, price(" + i + ")", new PackageAuction().price(i), 0);
        }
    }

    private static void priceLeastAndMost() {
        Due.is("nobody wants it", Auctions.with(127, 0, 50).price(7), 0);
        Due.is("only a loser wants it", Auctions.with(255, 0, 49, 127, 1, 50).price(7), 0);
        Due.is("an equal bid without it", Auctions.with(1, 0, 9, 2, 0, 9).price(0), 0);
        Due.is("a bid with one less without it", Auctions.with(1, 0, 9, 2, 0, 8).price(0), 1);
        Due.is("one bid with 50 on all", Auctions.with(255, 0, 50).price(7), 50);
        PackageAuction x = Auctions.with(1, 0, 50, 2, 1, 50, 4, 2, 50, 8, 3, 50);
        Due.is("one of four with 50", x.price(3), 50);
    }

    private static void allocationBits0To31() {
        for (int set = 0; set < 256; set++) {
            PackageAuction x = Auctions.with(1, 0, 5, 2, 1, 5, 4, 2, 5, 8, 3, 5);
            Due.is("allocation(" + set + ")", x.allocation(set), set < 16);
            for (int bit = 8; bit < 32; bit++) {
                Due.is("allocation(" + set + " and bit " + bit + ")", x.allocation(set | 1 << bit), false);
            }
        }
        int[] far = {-1, -2, Integer.MIN_VALUE, Integer.MIN_VALUE + 1, Integer.MAX_VALUE, 256, 257, -256, -255};
        for (int set : far) {
            Auctions.all().forEach((name, maker) -> Due.is(name + ", allocation(" + set + ")",
                    maker.get().allocation(set), false));
        }
    }

    private static void allocationOfBidsNotThere() {
        for (int b = 0; b < 8; b++) {
            Due.is("empty, {" + b + "}", new PackageAuction().allocation(1 << b), false);
            PackageAuction x = Auctions.full();
            int other = b ^ 1;
            Due.is("{" + b + "}", x.allocation(1 << b), true);
            Due.is("{" + b + ", " + other + "}", x.allocation(1 << b | 1 << other), true);
            x.retract(b);
            Due.is("taken back, {" + b + "}", x.allocation(1 << b), false);
            Due.is("taken back, {" + b + ", " + other + "}", x.allocation(1 << b | 1 << other), false);
            Due.is("{" + other + "} alone", x.allocation(1 << other), true);
            Due.is("taken back, {}", x.allocation(0), true);
        }
    }

    /** The auction full after 511 calls. */
    private static PackageAuction after511Calls() {
        PackageAuction x = Auctions.full();
        for (int call = 8; call < 508; call += 2) {
            x.withhold(7, true);
            x.withhold(7, false);
        }
        x.raise(7, 50);
        x.bid(1, 0, 1);
        x.raise(7, 8);
        return x;
    }

    private static void call512() {
        Due.is("call 512: bid", after511Calls().bid(1, 0, 1), PackageAuction.FULL);
        Due.is("call 512: bid", after511Calls().bid(0, 0, 1), PackageAuction.BAD);
        Due.is("call 512: retract", after511Calls().retract(7), true);
        Due.is("call 512: raise", after511Calls().raise(7, 9), true);
        Due.is("call 512: withhold", after511Calls().withhold(7, true), true);
        Due.is("call 512: bids", after511Calls().bids(), 255);
        Due.is("call 512: withheld", after511Calls().withheld(), 0);
        Due.is("call 512: winners", after511Calls().winners(), 240);
        Due.is("call 512: revenue", after511Calls().revenue(), 26);
        Due.is("call 512: sold", after511Calls().sold(), 240);
        Due.is("call 512: revenueWithout", after511Calls().revenueWithout(3), 18);
        Due.is("call 512: payment", after511Calls().payment(3), 0);
        Due.is("call 512: threshold", after511Calls().threshold(7), 5);
        Due.is("call 512: revenueWith", after511Calls().revenueWith(0), 22);
        Due.is("call 512: price", after511Calls().price(7), 4);
        Due.is("call 512: allocation", after511Calls().allocation(240), true);
    }
}
