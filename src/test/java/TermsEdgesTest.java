/** The boundary cases that the document's "Terms" name. */
public final class TermsEdgesTest {
    private TermsEdgesTest() {
    }

    public static void main(String[] args) {
        itemsAre0To7();
        numbersAre0To7();
        packageIsNotEmpty();
        biddersAre0To3();
        amountsAre1To50();
        bidderMayHaveSeveralBids();
        allocationHasNoItemInCommon();
        allocationHasNoBidderTwice();
        allocationMayBeEmpty();
        revenueIsTheSum();
        tieOfTwoBids();
        tieOfSeveralAllocations();
        tieGoesByTheLeastNumberThatDiffers();
        tieGoesByTheNumberNotByTheTime();
        noAllocationHoldsAWithheldItem();
        everyItemWithheld();
        Due.end("TermsEdgesTest");
    }

    private static void itemsAre0To7() {
        for (int i = 0; i < 8; i++) {
            PackageAuction x = Auctions.with(1 << i, 0, 7);
            Due.is("item " + i + " sold", x.sold(), 1 << i);
            for (int j = 0; j < 8; j++) {
                Due.is("item " + i + " sold, price(" + j + ")", x.price(j), i == j ? 7 : 0);
            }
        }
        Due.is("there is no item 8", new PackageAuction().bid(256, 0, 7), PackageAuction.BAD);
        Due.is("there is no item 8 beside item 0", new PackageAuction().bid(257, 0, 7), PackageAuction.BAD);
        Due.is("there is no item 31", new PackageAuction().bid(1 << 31, 0, 7), PackageAuction.BAD);
    }

    private static void numbersAre0To7() {
        PackageAuction x = Auctions.full();
        for (int b = 0; b < 8; b++) {
            Due.is("there is bid " + b, x.revenueWith(b) != PackageAuction.NONE, true);
        }
        for (int b : Edges.notBidNumbers()) {
            Due.is("there is no bid " + b, x.revenueWith(b), PackageAuction.NONE);
        }
    }

    private static void packageIsNotEmpty() {
        Due.is("an empty package", new PackageAuction().bid(0, 0, 7), PackageAuction.BAD);
        for (int bundle = 1; bundle <= 255; bundle++) {
            PackageAuction x = Auctions.with(bundle, 0, 7);
            Due.is("package " + bundle, State.takenApart(x), "{0: " + bundle + " 0 7} withheld 0");
        }
    }

    private static void biddersAre0To3() {
        for (int bidder = 0; bidder <= 3; bidder++) {
            PackageAuction x = Auctions.with(5, bidder, 7);
            Due.is("bidder " + bidder, State.takenApart(x), "{0: 5 " + bidder + " 7} withheld 0");
        }
        for (int bidder : Edges.notBidders()) {
            Due.is("there is no bidder " + bidder, new PackageAuction().bid(5, bidder, 7), PackageAuction.BAD);
        }
    }

    private static void amountsAre1To50() {
        for (int amount = 1; amount <= 50; amount++) {
            Due.is("amount " + amount, Auctions.with(5, 0, amount).revenue(), amount);
        }
        for (int amount : Edges.notAmounts()) {
            Due.is("there is no amount " + amount, new PackageAuction().bid(5, 0, amount), PackageAuction.BAD);
        }
    }

    private static void bidderMayHaveSeveralBids() {
        for (int bidder = 0; bidder <= 3; bidder++) {
            PackageAuction x = new PackageAuction();
            for (int b = 0; b < 8; b++) {
                Due.is("bidder " + bidder + ", bid " + b, x.bid(1 << b, bidder, 9), b);
            }
            Due.is("eight bids of bidder " + bidder + ", one wins", x.winners(), 1);
            x.raise(7, 10);
            Due.is("eight bids of bidder " + bidder + ", the best wins", x.winners(), 128);
            Due.is("eight bids of bidder " + bidder + ", without them", x.revenueWithout(bidder), 0);
        }
        Due.is("the same bid twice", Auctions.with(3, 1, 9, 3, 1, 9).winners(), 1);
    }

    private static void allocationHasNoItemInCommon() {
        for (int i = 0; i < 8; i++) {
            int upToI = (2 << i) - 1;
            int fromI = 255 & -1 << i;
            PackageAuction x = Auctions.with(upToI, 0, 5, fromI, 1, 5);
            Due.is("item " + i + " alone in common", x.allocation(3), false);
            Due.is("item " + i + " alone in common, winners", x.winners(), 1);
        }
        for (int i = 0; i < 7; i++) {
            int upToI = (2 << i) - 1;
            PackageAuction x = Auctions.with(upToI, 0, 5, 255 - upToI, 1, 5);
            Due.is("apart after item " + i, x.allocation(3), true);
            Due.is("apart after item " + i + ", winners", x.winners(), 3);
            Due.is("apart after item " + i + ", sold", x.sold(), 255);
        }
    }

    private static void allocationHasNoBidderTwice() {
        for (int one = 0; one < 4; one++) {
            for (int other = 0; other < 4; other++) {
                PackageAuction x = Auctions.with(1, one, 5, 128, other, 5);
                String what = "bidders " + one + " and " + other;
                Due.is(what, x.allocation(3), one != other);
                Due.is(what + ", winners", x.winners(), one == other ? 1 : 3);
            }
        }
        PackageAuction far = Auctions.with(1, 3, 5, 2, 2, 5, 4, 1, 5, 8, 0, 5, 16, 3, 5);
        Due.is("four bidders", far.allocation(15), true);
        Due.is("the first and the last of five have one bidder", far.allocation(31), false);
    }

    private static void allocationMayBeEmpty() {
        Due.is("no bids there", new PackageAuction().allocation(0), true);
        Due.is("bids there", Auctions.full().allocation(0), true);
        Due.is("every item withheld", Auctions.allWithheld().allocation(0), true);
        Due.is("its revenue", Auctions.allWithheld().revenue(), 0);
    }

    private static void revenueIsTheSum() {
        PackageAuction x = Auctions.with(1, 0, 50, 2, 1, 50, 4, 2, 50, 8, 3, 50, 16, 0, 50);
        Due.is("the greatest sum there is", x.revenue(), 200);
        Due.is("the least sum but nothing", Auctions.with(255, 3, 1).revenue(), 1);
        Due.is("nothing", new PackageAuction().revenue(), 0);
    }

    private static void tieOfTwoBids() {
        for (int p = 0; p < 8; p++) {
            for (int q = p + 1; q < 8; q++) {
                PackageAuction x = new PackageAuction();
                for (int b = 0; b < 8; b++) {
                    x.bid(255, b % 4, 1);
                }
                x.raise(p, 7);
                x.raise(q, 7);
                Due.is("tie of " + p + " and " + q, x.winners(), 1 << p);
                x.raise(q, 8);
                Due.is(p + " one less than " + q, x.winners(), 1 << q);
                x.raise(p, 8);
                Due.is("tie of " + p + " and " + q + " with 8", x.winners(), 1 << p);
                x.raise(q, 7);
                Due.is(p + " one more than " + q, x.winners(), 1 << p);
            }
        }
    }

    /** {0}, {1, 2} and {3, 4, 5} have revenue 9, and no other has more than 8. */
    private static PackageAuction threeWithNine() {
        return Auctions.with(7, 0, 9, 3, 1, 5, 4, 2, 4, 1, 1, 3, 2, 2, 3, 4, 3, 3);
    }

    private static void tieOfSeveralAllocations() {
        PackageAuction x = threeWithNine();
        Due.is("{0}, {1, 2}, {3, 4, 5}", x.winners(), 1);
        x.raise(0, 8);
        Due.is("{1, 2}, {3, 4, 5}", x.winners(), 6);
        x.raise(1, 4);
        Due.is("{3, 4, 5} alone", x.winners(), 56);
        x.raise(1, 5);
        Due.is("{1, 2}, {3, 4, 5} again", x.winners(), 6);
        x.raise(0, 9);
        Due.is("{0}, {1, 2}, {3, 4, 5} again", x.winners(), 1);
        x.raise(5, 4);
        Due.is("{3, 4, 5} has more", x.winners(), 56);
    }

    private static void tieGoesByTheLeastNumberThatDiffers() {
        Due.is("{0, 3} and {1, 2}: 0", Auctions.with(1, 0, 5, 1, 1, 5, 2, 0, 5, 2, 1, 5).winners(), 9);
        Due.is("{0, 1} and {0, 2}: 1", Auctions.with(1, 0, 5, 2, 1, 5, 2, 2, 5).winners(), 3);
        Due.is("{0, 1} and {2}: 0", Auctions.with(1, 1, 5, 2, 2, 5, 3, 0, 10).winners(), 3);
        Due.is("{1, 2} and {0}: 0", Auctions.with(3, 0, 10, 1, 1, 5, 2, 2, 5).winners(), 1);
        Due.is("{0, 1, 2, 6} and {0, 1, 2, 7}: 6", Auctions.with(1, 0, 5, 2, 1, 5, 4, 2, 5,
                255, 3, 1, 255, 3, 1, 255, 3, 1, 8, 3, 5, 8, 3, 5).winners(), 71);
        Due.is("sixteen with one of 0 1, 2 5, 3 6 and 4 7: the lesser of each", Auctions.with(1, 0, 5, 1, 0, 5,
                2, 1, 5, 4, 2, 5, 8, 3, 6, 2, 1, 5, 4, 2, 5, 8, 3, 6).winners(), 1 + 4 + 8 + 16);
    }

    private static void tieGoesByTheNumberNotByTheTime() {
        PackageAuction x = Auctions.with(1, 0, 5, 1, 1, 5, 1, 2, 5);
        x.retract(0);
        Due.is("0 is gone", x.winners(), 2);
        Due.is("the last one placed", x.bid(1, 3, 5), 0);
        Due.is("the last one placed has number 0", x.winners(), 1);
        x.raise(0, 4);
        x.raise(0, 5);
        Due.is("the last one raised has number 0", x.winners(), 1);
    }

    private static void noAllocationHoldsAWithheldItem() {
        for (int i = 0; i < 8; i++) {
            PackageAuction x = Auctions.with(255, 0, 50, 1 << i, 1, 40, 255 - (1 << i), 2, 1);
            x.withhold(i, true);
            String what = "item " + i + " withheld, ";
            Due.is(what + "all items", x.allocation(1), false);
            Due.is(what + "that item alone", x.allocation(2), false);
            Due.is(what + "all but that item", x.allocation(4), true);
            Due.is(what + "winners", x.winners(), 4);
            Due.is(what + "sold", x.sold(), 255 - (1 << i));
            x.withhold(i, false);
            Due.is("item " + i + " offered again, winners", x.winners(), 1);
        }
    }

    private static void everyItemWithheld() {
        PackageAuction x = Auctions.allWithheld();
        Due.is("every item withheld, bids", x.bids(), 255);
        Due.is("every item withheld, winners", x.winners(), 0);
        Due.is("every item withheld, sold", x.sold(), 0);
        for (int b = 0; b < 8; b++) {
            Due.is("every item withheld, {" + b + "}", x.allocation(1 << b), false);
        }
        x.withhold(0, false);
        Due.is("every item but 0 withheld, winners", x.winners(), 1);
    }
}
