/** One method for each promise of the document, with answers worked out by hand. */
public final class PromisesTest {
    private PromisesTest() {
    }

    public static void main(String[] args) {
        promise1NewObject();
        promise2Bid();
        promise3Retract();
        promise4Raise();
        promise5Withhold();
        promise6Bids();
        promise7Withheld();
        promise8Winners();
        promise8Ties();
        promise9Revenue();
        promise10Sold();
        promise11RevenueWithout();
        promise12Payment();
        promise13Threshold();
        promise13Ties();
        promise14RevenueWith();
        promise15Price();
        promise16Allocation();
        promise17OrderAndLimits();
        lastOf512Calls();
        Due.end("PromisesTest");
    }

    private static void promise1NewObject() {
        PackageAuction x = new PackageAuction();
        Due.is("1: bids", x.bids(), 0);
        Due.is("1: withheld", x.withheld(), 0);
        Due.is("1: winners", x.winners(), 0);
        Due.is("1: revenue", x.revenue(), 0);
        Due.is("1: sold", x.sold(), 0);
        Due.is("1: allocation(0)", x.allocation(0), true);
        PackageAuction other = Auctions.with(1, 0, 5);
        other.withhold(3, true);
        Due.is("1: bids, another object has one", x.bids(), 0);
        Due.is("1: withheld, another object has one", x.withheld(), 0);
    }

    private static void promise2Bid() {
        PackageAuction x = new PackageAuction();
        for (int bundle : Edges.notBundles()) {
            Due.is("2: bid with bundle " + bundle, x.bid(bundle, 0, 5), PackageAuction.BAD);
        }
        for (int bidder : Edges.notBidders()) {
            Due.is("2: bid with bidder " + bidder, x.bid(1, bidder, 5), PackageAuction.BAD);
        }
        for (int amount : Edges.notAmounts()) {
            Due.is("2: bid with amount " + amount, x.bid(1, 0, amount), PackageAuction.BAD);
        }
        Due.is("2: bids after wrong ones", x.bids(), 0);
        Due.is("2: least bundle, bidder, amount", x.bid(1, 0, 1), 0);
        Due.is("2: greatest bundle, bidder, amount", x.bid(255, 3, 50), 1);
        Due.is("2: revenue", x.revenue(), 50);
        Due.is("2: sold", x.sold(), 255);
        for (int b = 2; b < 8; b++) {
            Due.is("2: the same bid again", x.bid(255, 3, 50), b);
        }
        Due.is("2: ninth bid", x.bid(1, 0, 1), PackageAuction.FULL);
        Due.is("2: bids when full", x.bids(), 255);
        x.retract(5);
        x.retract(2);
        Due.is("2: least free number", x.bid(1, 1, 1), 2);
        Due.is("2: next free number", x.bid(1, 1, 1), 5);
        Due.is("2: full again", x.bid(1, 1, 1), PackageAuction.FULL);
    }

    private static void promise3Retract() {
        PackageAuction x = Auctions.with(1, 0, 5, 2, 1, 7, 4, 2, 9);
        Due.is("3: retract(3), no such bid", x.retract(3), false);
        for (int b : Edges.notBidNumbers()) {
            Due.is("3: retract(" + b + ")", x.retract(b), false);
        }
        Due.is("3: bids unchanged", x.bids(), 7);
        Due.is("3: retract(1)", x.retract(1), true);
        Due.is("3: bids", x.bids(), 5);
        Due.is("3: revenue", x.revenue(), 14);
        Due.is("3: retract(1) again", x.retract(1), false);
        Due.is("3: bids unchanged again", x.bids(), 5);
        Due.is("3: the number is used again", x.bid(8, 3, 1), 1);
        Due.is("3: sold, of the new bid 1", x.sold(), 13);
        Due.is("3: revenue, of the new bid 1", x.revenue(), 15);
        PackageAuction all = Auctions.full();
        Due.is("3: retract(7)", all.retract(7), true);
        Due.is("3: retract(0)", all.retract(0), true);
        Due.is("3: bids of eight", all.bids(), 126);
    }

    private static void promise4Raise() {
        PackageAuction x = Auctions.with(1, 0, 5, 2, 1, 7);
        Due.is("4: raise(0, 50)", x.raise(0, 50), true);
        Due.is("4: revenue", x.revenue(), 57);
        Due.is("4: raise(0, 1), which is less", x.raise(0, 1), true);
        Due.is("4: revenue", x.revenue(), 8);
        Due.is("4: raise(0, 1), the same", x.raise(0, 1), true);
        for (int amount : Edges.notAmounts()) {
            Due.is("4: raise(0, " + amount + ")", x.raise(0, amount), false);
        }
        for (int b : Edges.notBidNumbers()) {
            Due.is("4: raise(" + b + ", 9)", x.raise(b, 9), false);
        }
        Due.is("4: raise(2, 9), no such bid", x.raise(2, 9), false);
        Due.is("4: bids unchanged", x.bids(), 3);
        Due.is("4: revenue unchanged", x.revenue(), 8);
        x.retract(1);
        Due.is("4: raise(1, 9), taken back", x.raise(1, 9), false);
        Due.is("4: bids after that", x.bids(), 1);
        Due.is("4: sold, package as before", x.sold(), 1);
        Due.is("4: revenueWithout(0), bidder as before", x.revenueWithout(0), 0);
    }

    private static void promise5Withhold() {
        PackageAuction x = Auctions.with(3, 0, 5, 6, 1, 7);
        for (int i : Edges.notItems()) {
            Due.is("5: withhold(" + i + ", true)", x.withhold(i, true), false);
        }
        Due.is("5: withheld unchanged", x.withheld(), 0);
        Due.is("5: withhold(2, true)", x.withhold(2, true), true);
        Due.is("5: winners", x.winners(), 1);
        Due.is("5: withhold(2, true) again", x.withhold(2, true), true);
        Due.is("5: withheld", x.withheld(), 4);
        Due.is("5: withhold(0, true)", x.withhold(0, true), true);
        Due.is("5: winners, none left", x.winners(), 0);
        Due.is("5: bids stay", x.bids(), 3);
        for (int i : Edges.notItems()) {
            Due.is("5: withhold(" + i + ", false)", x.withhold(i, false), false);
        }
        Due.is("5: withheld unchanged", x.withheld(), 5);
        Due.is("5: withhold(2, false)", x.withhold(2, false), true);
        Due.is("5: winners", x.winners(), 2);
        Due.is("5: withhold(2, false) again", x.withhold(2, false), true);
        Due.is("5: withheld", x.withheld(), 1);
    }

    private static void promise6Bids() {
        PackageAuction x = Auctions.full();
        Due.is("6: bids", x.bids(), 255);
        for (int b = 0; b < 8; b++) {
            x.retract(b);
            Due.is("6: bids without 0 .. " + b, x.bids(), 255 & -2 << b);
        }
        x.bid(7, 1, 5);
        x.withhold(0, true);
        Due.is("6: bids, the one that can't win too", x.bids(), 1);
    }

    private static void promise7Withheld() {
        PackageAuction x = new PackageAuction();
        for (int i = 0; i < 8; i++) {
            x.withhold(i, true);
            Due.is("7: withheld 0 .. " + i, x.withheld(), (2 << i) - 1);
        }
        for (int i = 7; i >= 0; i--) {
            x.withhold(i, false);
            Due.is("7: withheld below " + i, x.withheld(), (1 << i) - 1);
        }
    }

    private static void promise8Winners() {
        Due.is("8: one bid", Auctions.with(255, 2, 1).winners(), 1);
        Due.is("8: packages apart, bidders differ", Auctions.with(1, 0, 5, 2, 1, 5).winners(), 3);
        Due.is("8: an item in common", Auctions.with(3, 0, 5, 6, 1, 6).winners(), 2);
        Due.is("8: one bidder", Auctions.with(1, 0, 5, 2, 0, 6).winners(), 2);
        Due.is("8: two small ones before a large one", Auctions.with(255, 0, 9, 15, 1, 5, 240, 2, 5).winners(), 6);
        Due.is("8: a large one before two small ones", Auctions.with(255, 0, 11, 15, 1, 5, 240, 2, 5).winners(), 1);
        Due.is("8: eight bids, each bidder's better one", Auctions.full().winners(), 240);
        Due.is("8: four bidders with 50", Auctions.with(3, 0, 50, 12, 1, 50, 48, 2, 50, 192, 3, 50).winners(), 15);
        PackageAuction x = Auctions.full();
        x.withhold(7, true);
        Due.is("8: bid 7 withheld", x.winners(), 8 + 16 + 32 + 64);
    }

    private static void promise8Ties() {
        Due.is("8: {0} before {1}", Auctions.with(1, 0, 5, 1, 1, 5).winners(), 1);
        Due.is("8: {0} before {1, 2}", Auctions.with(3, 0, 10, 1, 1, 5, 2, 2, 5).winners(), 1);
        Due.is("8: {0, 1} before {2}", Auctions.with(1, 1, 5, 2, 2, 5, 3, 0, 10).winners(), 3);
        Due.is("8: {0, 3} before {1, 2}", Auctions.with(1, 0, 5, 1, 1, 5, 2, 0, 5, 2, 1, 5).winners(), 9);
        Due.is("8: {0, 2} before {1, 3}, one bidder each",
                Auctions.with(1, 0, 5, 1, 0, 5, 2, 1, 5, 2, 1, 5).winners(), 5);
        Due.is("8: {0, 1} before {0, 2}", Auctions.with(1, 0, 5, 2, 1, 5, 2, 2, 5).winners(), 3);
        Due.is("8: {0, 3} before {0, 4, 5}",
                Auctions.with(1, 0, 5, 1, 0, 1, 1, 0, 1, 6, 1, 8, 2, 2, 4, 4, 3, 4).winners(), 9);
    }

    private static void promise9Revenue() {
        Due.is("9: greatest", Auctions.with(1, 0, 50, 2, 1, 50, 4, 2, 50, 8, 3, 50).revenue(), 200);
        Due.is("9: eight bids", Auctions.full().revenue(), 26);
        PackageAuction x = Auctions.with(3, 0, 5, 6, 1, 6);
        Due.is("9: the better one", x.revenue(), 6);
        x.withhold(2, true);
        Due.is("9: the other one", x.revenue(), 5);
        x.withhold(1, true);
        Due.is("9: none", x.revenue(), 0);
    }

    private static void promise10Sold() {
        Due.is("10: eight bids", Auctions.full().sold(), 240);
        Due.is("10: the loser's items aren't sold", Auctions.with(3, 0, 5, 6, 1, 6).sold(), 6);
        Due.is("10: two packages", Auctions.with(129, 0, 5, 6, 1, 6).sold(), 135);
        PackageAuction x = Auctions.with(129, 0, 5, 6, 1, 6);
        x.withhold(7, true);
        Due.is("10: item 7 withheld", x.sold(), 6);
        x.retract(1);
        Due.is("10: nothing", x.sold(), 0);
    }

    private static void promise11RevenueWithout() {
        PackageAuction x = Auctions.full();
        Due.is("11: revenueWithout(0)", x.revenueWithout(0), 21);
        Due.is("11: revenueWithout(3)", x.revenueWithout(3), 18);
        for (int bidder : Edges.notBidders()) {
            Due.is("11: revenueWithout(" + bidder + ")", x.revenueWithout(bidder), PackageAuction.NONE);
        }
        x.withhold(5, true);
        Due.is("11: revenueWithout(0), item 5 withheld", x.revenueWithout(0), 17);
        PackageAuction y = Auctions.with(3, 0, 10, 1, 1, 4, 2, 2, 5, 2, 0, 7);
        Due.is("11: all of the bidder's bids are out", y.revenueWithout(0), 9);
        Due.is("11: a loser", y.revenueWithout(2), 11);
        Due.is("11: a bidder without bids", y.revenueWithout(3), 11);
        y.retract(1);
        Due.is("11: after retract", y.revenueWithout(0), 5);
        Due.is("11: nothing else", Auctions.with(1, 2, 5).revenueWithout(2), 0);
    }

    private static void promise12Payment() {
        PackageAuction x = Auctions.with(3, 0, 10, 1, 1, 4, 2, 2, 5);
        Due.is("12: the winner pays what the others would bring", x.payment(0), 9);
        Due.is("12: a loser", x.payment(1), 0);
        Due.is("12: a bidder without bids", x.payment(3), 0);
        for (int bidder : Edges.notBidders()) {
            Due.is("12: payment(" + bidder + ")", x.payment(bidder), PackageAuction.NONE);
        }
        x.raise(0, 6);
        Due.is("12: payment(1)", x.payment(1), 1);
        Due.is("12: payment(2)", x.payment(2), 2);
        Due.is("12: payment(0), now a loser", x.payment(0), 0);
        x.withhold(0, true);
        Due.is("12: payment(2), alone", x.payment(2), 0);
        Due.is("12: payment(1), withheld", x.payment(1), 0);
        Due.is("12: the bidder's other bid doesn't count", Auctions.with(1, 0, 9, 1, 0, 8, 1, 1, 3).payment(0), 3);
        Due.is("12: equal amounts", Auctions.with(1, 0, 9, 1, 1, 9).payment(0), 9);
    }

    private static void promise13Threshold() {
        PackageAuction x = Auctions.with(3, 0, 10, 1, 1, 4, 2, 2, 5);
        Due.is("13: a winner, first in ties", x.threshold(0), 9);
        Due.is("13: a loser, after in ties", x.threshold(1), 6);
        Due.is("13: the other loser", x.threshold(2), 7);
        Due.is("13: the amount stays", x.revenue(), 10);
        Due.is("13: no bid 3", x.threshold(3), PackageAuction.NONE);
        for (int b : Edges.notBidNumbers()) {
            Due.is("13: threshold(" + b + ")", x.threshold(b), PackageAuction.NONE);
        }
        x.withhold(1, true);
        Due.is("13: withheld", x.threshold(0), 51);
        Due.is("13: withheld too", x.threshold(2), 51);
        Due.is("13: without rivals", x.threshold(1), 1);
        x.retract(1);
        Due.is("13: taken back", x.threshold(1), PackageAuction.NONE);
        Due.is("13: wins with any amount", Auctions.with(1, 0, 30, 2, 1, 50, 3, 2, 9).threshold(0), 1);
        Due.is("13: the bidder's own other bid is a rival", Auctions.with(1, 0, 9, 2, 0, 7).threshold(1), 10);
    }

    private static void promise13Ties() {
        Due.is("13: 50, first in ties", Auctions.with(1, 0, 9, 1, 1, 50).threshold(0), 50);
        Due.is("13: 51, after in ties", Auctions.with(1, 0, 50, 1, 1, 9).threshold(1), 51);
        Due.is("13: 50, after in ties", Auctions.with(1, 0, 49, 1, 1, 9).threshold(1), 50);
        Due.is("13: far above 50", Auctions.with(7, 0, 9, 1, 1, 50, 2, 2, 50, 4, 3, 50).threshold(0), 51);
        Due.is("13: a partner is the least that differs", Auctions.with(1, 1, 5, 3, 2, 12, 2, 0, 9).threshold(2), 7);
        Due.is("13: the rival is the least that differs", Auctions.with(3, 2, 12, 1, 1, 5, 2, 0, 9).threshold(2), 8);
        Due.is("13: 1, just first in a tie", Auctions.with(1, 1, 5, 3, 2, 6, 2, 0, 9).threshold(2), 1);
        Due.is("13: 2, just after in a tie", Auctions.with(3, 2, 6, 1, 1, 5, 2, 0, 9).threshold(2), 2);
        Due.is("13: 1, just after in a tie with nothing", Auctions.with(3, 2, 5, 1, 1, 5, 2, 0, 9).threshold(2), 1);
    }

    private static void promise14RevenueWith() {
        PackageAuction x = Auctions.with(3, 0, 10, 1, 1, 4, 2, 2, 5, 4, 1, 20);
        Due.is("14: a winner", x.revenueWith(0), 30);
        Due.is("14: a loser, its bidder's better bid is out", x.revenueWith(1), 9);
        Due.is("14: a loser with a partner", x.revenueWith(2), 25);
        Due.is("14: no bid 4", x.revenueWith(4), PackageAuction.NONE);
        for (int b : Edges.notBidNumbers()) {
            Due.is("14: revenueWith(" + b + ")", x.revenueWith(b), PackageAuction.NONE);
        }
        x.withhold(1, true);
        Due.is("14: withheld", x.revenueWith(0), PackageAuction.NONE);
        Due.is("14: withheld too", x.revenueWith(2), PackageAuction.NONE);
        Due.is("14: alone, as its partner is withheld", x.revenueWith(1), 4);
        x.retract(1);
        Due.is("14: taken back", x.revenueWith(1), PackageAuction.NONE);
    }

    private static void promise15Price() {
        PackageAuction x = Auctions.with(3, 0, 10, 1, 1, 4, 2, 2, 5);
        Due.is("15: price(0)", x.price(0), 5);
        Due.is("15: price(1)", x.price(1), 6);
        Due.is("15: nobody wants item 7", x.price(7), 0);
        for (int i : Edges.notItems()) {
            Due.is("15: price(" + i + ")", x.price(i), PackageAuction.NONE);
        }
        Due.is("15: nothing gets withheld", x.withheld(), 0);
        x.withhold(1, true);
        Due.is("15: already withheld", x.price(1), 0);
        Due.is("15: price(0), item 1 withheld", x.price(0), 4);
        Due.is("15: item 1 stays withheld", x.withheld(), 2);
        Due.is("15: item 7", Auctions.with(128, 0, 50).price(7), 50);
        Due.is("15: an equal rival takes another item", Auctions.with(1, 0, 9, 2, 0, 9).price(0), 0);
    }

    private static void promise16Allocation() {
        PackageAuction x = Auctions.with(3, 0, 10, 12, 1, 4, 2, 2, 5, 48, 0, 20);
        Due.is("16: no bids", x.allocation(0), true);
        Due.is("16: {0}", x.allocation(1), true);
        Due.is("16: {0, 1}", x.allocation(3), true);
        Due.is("16: {0, 2}, item 1 in common", x.allocation(5), false);
        Due.is("16: {0, 3}, one bidder", x.allocation(9), false);
        Due.is("16: {1, 2, 3}", x.allocation(14), true);
        Due.is("16: {4}, not there", x.allocation(16), false);
        Due.is("16: {1, 4}, one not there", x.allocation(18), false);
        for (int bit = 8; bit < 32; bit++) {
            Due.is("16: {" + bit + "}", x.allocation(1 << bit), false);
            Due.is("16: {0, " + bit + "}", x.allocation(1 | 1 << bit), false);
        }
        Due.is("16: all", x.allocation(-1), false);
        x.withhold(4, true);
        Due.is("16: {3}, withheld", x.allocation(8), false);
        Due.is("16: {1, 2}", x.allocation(6), true);
        Due.is("16: no bids, item 4 withheld", x.allocation(0), true);
        x.retract(1);
        Due.is("16: {1}, taken back", x.allocation(2), false);
    }

    private static void promise17OrderAndLimits() {
        PackageAuction x = Auctions.full();
        Due.is("17: wrong bundle when full", x.bid(0, 0, 5), PackageAuction.BAD);
        Due.is("17: wrong bundle when full", x.bid(256, 0, 5), PackageAuction.BAD);
        Due.is("17: wrong bidder when full", x.bid(1, -1, 5), PackageAuction.BAD);
        Due.is("17: wrong bidder when full", x.bid(1, 4, 5), PackageAuction.BAD);
        Due.is("17: wrong amount when full", x.bid(1, 0, 0), PackageAuction.BAD);
        Due.is("17: wrong amount when full", x.bid(1, 0, 51), PackageAuction.BAD);
        Due.is("17: a good bid when full", x.bid(1, 0, 5), PackageAuction.FULL);
        Due.is("17: nothing changed", x.revenue(), 26);
    }

    private static void lastOf512Calls() {
        PackageAuction x = new PackageAuction();
        for (int call = 0; call < 510; call += 2) {
            Due.is("call " + call + " of 512: bid", x.bid(1, 0, 5), 0);
            Due.is("call " + call + " of 512: retract", x.retract(0), true);
        }
        Due.is("call 511 of 512: bid", x.bid(1, 0, 5), 0);
        Due.is("call 512 of 512: winners", x.winners(), 1);
    }
}
