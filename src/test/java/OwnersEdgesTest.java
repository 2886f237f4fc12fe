/** Each sentence on owners that names an edge: promises 16 to 20, and what the terms say of SALES, BILLS, INTEREST. */
final class OwnersEdgesTest {
    private static final Edges EDGES = new Edges();

    private OwnersEdgesTest() {
    }

    public static void main(String[] args) {
        saleNumbers();
        saleDays();
        twentySales();
        ownerNumbers();
        ownerFromThatDayOn();
        likeSalesTheLatestTold();
        paymentNumbers();
        twentyPayments();
        accountNumbers();
        emptyAccount();
        billOfCostsKnownByThen();
        billByTheDayOfTheCost();
        paidOnDaysUpTo();
        interestUntilTheDayAhead();
        graceAtFirst();
        graceLeastAndMost();
        paidInTime();
        paidAheadAndLate();
        interestRestAway();
        rateLeastAndMost();
        greatestAccount();
        askedNumbers();
        askedOfLikeOnes();
        askedAsKnownThen();
        EDGES.end("OwnersEdgesTest");
    }

    /** 16: "NUMBER: there is no such FLAT, OWNER, or DAY". */
    private static void saleNumbers() {
        EDGES.bounds("16 flat", States::richWithTape, 0, 2, (x, v) -> x.sell(v, 0, 0), ShareHouse.NUMBER);
        EDGES.bounds("16 owner", States::richWithTape, 0, 7, (x, v) -> x.sell(0, v, 0), ShareHouse.NUMBER);
        EDGES.bounds("16 day", States::richWithTape, 0, 50, (x, v) -> x.sell(0, 0, v), ShareHouse.NUMBER);
        EDGES.refused("16 no flats", States::empty, x -> x.sell(0, 0, 0), ShareHouse.NUMBER);
    }

    /** Terms: "a FLAT is an OWNER's from a DAY (0 to TODAY) on". */
    private static void saleDays() {
        Edges.State on0 = x -> x.flat(0, 1, false);
        Edges.State on900 = x -> {
            x.flat(0, 1, false);
            States.pass(x, 900);
        };
        EDGES.bounds("16 today 0", on0, 0, 0, (x, v) -> x.sell(0, 0, v), ShareHouse.NUMBER);
        EDGES.bounds("16 today 900", on900, 0, 900, (x, v) -> x.sell(0, 0, v), ShareHouse.NUMBER);
    }

    /** Terms: "SALES, 20 at most"; FULL behind NUMBER. */
    private static void twentySales() {
        EDGES.room("16 twenty sales", x -> x.flat(0, 1, false), 20, 1, x -> x.sell(0, 7, 0));
        EDGES.room("16 twenty sales in a rich house", States::richWithTape, 17, 4, x -> x.sell(2, 0, 50));
        EDGES.refused("16 full", States::full, x -> x.sell(0, 7, 50), ShareHouse.FULL);
        EDGES.refused("16 full, no flat", States::full, x -> x.sell(8, 0, 0), ShareHouse.NUMBER);
        EDGES.refused("16 full, no owner", States::full, x -> x.sell(0, 8, 0), ShareHouse.NUMBER);
        EDGES.refused("16 full, no day", States::full, x -> x.sell(0, 0, 51), ShareHouse.NUMBER);
        ShareHouse x = new ShareHouse();
        x.flat(0, 1, false);
        for (int i = 0; i < 20; i++) {
            x.sell(0, i == 19 ? 7 : 0, 0);
        }
        EDGES.due("17 the twentieth counts", x.owner(0, 0), 7);
    }

    /** 17: "on a DAY (0 to 900). NUMBER: there is no such FLAT, DAY; NONE: the LANDLORD". */
    private static void ownerNumbers() {
        EDGES.bounds("17 flat", States::richWithTape, 0, 2, (x, v) -> x.owner(v, 0), ShareHouse.NUMBER);
        EDGES.bounds("17 day", States::richWithTape, 0, 900, (x, v) -> x.owner(0, v), ShareHouse.NUMBER);
        EDGES.bounds("17 day, today 0", x -> x.flat(0, 1, false), 0, 900, (x, v) -> x.owner(0, v), ShareHouse.NUMBER);
        EDGES.refused("17 the landlord", States::richWithTape, x -> x.owner(2, 900), ShareHouse.NONE);
        EDGES.refused("17 the landlord's, no day", States::richWithTape, x -> x.owner(2, 901), ShareHouse.NUMBER);
        EDGES.refused("17 no flat", States::richWithTape, x -> x.owner(3, 0), ShareHouse.NUMBER);
    }

    /** Terms: "on a DAY it is that of the SALE with the greatest DAY that isn't behind it; the LANDLORD's without". */
    private static void ownerFromThatDayOn() {
        ShareHouse x = new ShareHouse();
        x.flat(0, 1, false);
        x.flat(0, 1, false);
        States.pass(x, 900);
        x.sell(0, 7, 900);
        x.sell(0, 0, 1);
        x.sell(0, 3, 500);
        EDGES.due("17 ahead of the first", x.owner(0, 0), ShareHouse.NONE);
        EDGES.due("17 on the first", x.owner(0, 1), 0);
        EDGES.due("17 ahead of the second", x.owner(0, 499), 0);
        EDGES.due("17 on the second", x.owner(0, 500), 3);
        EDGES.due("17 ahead of the last", x.owner(0, 899), 3);
        EDGES.due("17 on the last", x.owner(0, 900), 7);
        EDGES.due("17 another flat", x.owner(1, 900), ShareHouse.NONE);
        x.sell(0, 5, 0);
        EDGES.due("17 from day 0", x.owner(0, 0), 5);
        EDGES.due("17 a lesser day told later", x.owner(0, 1), 0);
    }

    /** Terms: "of like ones the latest told". */
    private static void likeSalesTheLatestTold() {
        ShareHouse x = new ShareHouse();
        x.flat(0, 1, false);
        x.days(5);
        x.sell(0, 6, 5);
        x.sell(0, 1, 5);
        EDGES.due("17 the second", x.owner(0, 5), 1);
        x.sell(0, 4, 5);
        x.sell(0, 2, 4);
        EDGES.due("17 the third", x.owner(0, 5), 4);
        EDGES.due("17 the third on 900", x.owner(0, 900), 4);
        x.sell(0, 0, 4);
        EDGES.due("17 of like ones on 4", x.owner(0, 4), 0);
    }

    /** 18: "NUMBER: there is no such OWNER, or pence aren't as told"; "(PENCE 1 to 99999)". */
    private static void paymentNumbers() {
        EDGES.bounds("18 owner", States::richWithTape, 0, 7, (x, v) -> x.pay(v, 1), ShareHouse.NUMBER);
        EDGES.bounds("18 pence", States::richWithTape, 1, 99999, (x, v) -> x.pay(0, v), ShareHouse.NUMBER);
    }

    /** Terms: "PAYMENTS, 20 at most"; FULL behind NUMBER. */
    private static void twentyPayments() {
        EDGES.room("18 twenty payments", States::empty, 20, 1, x -> x.pay(7, 99999));
        EDGES.room("18 twenty payments in a rich house", States::richWithTape, 18, 3, x -> x.pay(0, 1));
        EDGES.refused("18 full", States::full, x -> x.pay(0, 1), ShareHouse.FULL);
        EDGES.refused("18 full, no owner", States::full, x -> x.pay(8, 1), ShareHouse.NUMBER);
        EDGES.refused("18 full, no pence", States::full, x -> x.pay(0, 0), ShareHouse.NUMBER);
        ShareHouse x = new ShareHouse();
        for (int i = 0; i < 20; i++) {
            x.pay(7, 99999);
        }
        EDGES.due("19 twenty of the most", x.account(7, 0, 1), 20 * 99999);
        EDGES.due("19 their balance", x.account(7, 0, 2), -20 * 99999);
    }

    /** 19: "NOTHING: there is no such OWNER, DAY (0 to TODAY), what". */
    private static void accountNumbers() {
        for (int i = 0; i < 4; i++) {
            int what = i;
            EDGES.bounds("19 owner", States::richWithTape, 0, 7, (x, v) -> x.account(v, 50, what), ShareHouse.NOTHING);
            EDGES.bounds("19 day", States::richWithTape, 0, 50, (x, v) -> x.account(3, v, what), ShareHouse.NOTHING);
        }
        EDGES.bounds("19 what", States::richWithTape, 0, 3, (x, v) -> x.account(3, 50, v), ShareHouse.NOTHING);
        EDGES.bounds("19 today 0", States::empty, 0, 0, (x, v) -> x.account(0, v, 0), ShareHouse.NOTHING);
        EDGES.bounds("19 today 900", x -> States.pass(x, 900), 0, 900, (x, v) -> x.account(0, v, 3),
                ShareHouse.NOTHING);
    }

    /** Who has no FLATS and paid nothing has a BILL, PAID, BALANCE and INTEREST of 0. */
    private static void emptyAccount() {
        for (int i = 0; i < 4; i++) {
            int what = i;
            EDGES.answers("19 nothing", States::rich, x -> x.account(7, 50, what), 0);
            EDGES.answers("19 nothing, on day 0", States::empty, x -> x.account(7, 0, what), 0);
        }
    }

    /** One FLAT that pays all, its OWNER 2 from DAY 0 on. */
    private static ShareHouse owned() {
        ShareHouse x = new ShareHouse();
        x.flat(0, 1, false);
        Checks.lease(x, 0, "all pays 1 of 1;");
        x.sell(0, 2, 0);
        return x;
    }

    /** Terms: BILL "as KNOWN on a DAY k: PARTS of all COSTS KNOWN by then". */
    private static void billOfCostsKnownByThen() {
        ShareHouse x = owned();
        x.days(10);
        x.cost(0, 0, 100);
        x.days(10);
        x.right(0, 70);
        EDGES.due("19 a day ahead", x.account(2, 9, 0), 0);
        EDGES.due("19 that day", x.account(2, 10, 0), 100);
        EDGES.due("19 a day ahead of what is right", x.account(2, 19, 0), 100);
        EDGES.due("19 the day of what is right", x.account(2, 20, 0), 70);
    }

    /** Terms: "of FLATS that are theirs on the DAY of the COST (by SALES as they are now)". */
    private static void billByTheDayOfTheCost() {
        ShareHouse x = owned();
        x.days(20);
        x.cost(0, 9, 1);
        x.cost(0, 10, 10);
        x.cost(0, 11, 100);
        EDGES.due("19 all", x.account(2, 20, 0), 111);
        x.sell(0, 6, 10);
        EDGES.due("19 who sold", x.account(2, 20, 0), 1);
        EDGES.due("19 who bought", x.account(6, 20, 0), 110);
    }

    /** Terms: PAID, "those told on DAYS up to k". */
    private static void paidOnDaysUpTo() {
        ShareHouse x = new ShareHouse();
        x.pay(0, 1);
        x.days(5);
        x.pay(0, 10);
        x.pay(0, 20);
        x.pay(1, 500);
        x.days(1);
        EDGES.due("19 paid on day 0", x.account(0, 0, 1), 1);
        EDGES.due("19 paid a day ahead", x.account(0, 4, 1), 1);
        EDGES.due("19 paid that day", x.account(0, 5, 1), 31);
        EDGES.due("19 paid a day behind", x.account(0, 6, 1), 31);
        EDGES.due("19 balance that day", x.account(0, 5, 2), -31);
        EDGES.due("19 balance a day ahead", x.account(0, 4, 2), -1);
        EDGES.due("20 last that day", x.asked(7, 5), 1);
        EDGES.due("20 last a day ahead", x.asked(7, 4), 0);
    }

    /** A debt of so many pence from DAY 0 on, TODAY as told: each DAY's interest is as much as its pence. */
    private static ShareHouse debt(int pence, int grace, int today) {
        ShareHouse x = owned();
        x.cost(0, 0, pence);
        if (grace >= 0) {
            x.rule(2, grace);
        }
        States.pass(x, today);
        return x;
    }

    /** Terms: INTEREST as KNOWN on k "for each DAY d from 0 to k less 1". */
    private static void interestUntilTheDayAhead() {
        for (int k : new int[] {0, 1, 2, 899, 900}) {
            EDGES.due("19 interest on " + k, debt(5000, 0, k).account(2, k, 3), k);
            EDGES.due("19 interest on " + k + ", asked on 900", debt(5000, 0, 900).account(2, k, 3), k);
        }
    }

    /** Terms: "what of the BILL is of COSTS of DAYS up to d less GRACE (.. 30 at first)". */
    private static void graceAtFirst() {
        EDGES.due("19 grace at first, on 30", debt(5000, -1, 30).account(2, 30, 3), 0);
        EDGES.due("19 grace at first, on 31", debt(5000, -1, 31).account(2, 31, 3), 1);
        ShareHouse x = owned();
        x.days(50);
        x.cost(0, 20, 5000);
        x.days(2);
        EDGES.due("19 of day 20, on 50", x.account(2, 50, 3), 0);
        EDGES.due("19 of day 20, on 51", x.account(2, 51, 3), 1);
    }

    /** Terms: "GRACE (0 to 90)". */
    private static void graceLeastAndMost() {
        EDGES.due("19 grace 0, on 0", debt(5000, 0, 0).account(2, 0, 3), 0);
        EDGES.due("19 grace 0, on 1", debt(5000, 0, 1).account(2, 1, 3), 1);
        EDGES.due("19 grace 1, on 1", debt(5000, 1, 1).account(2, 1, 3), 0);
        EDGES.due("19 grace 90, on 90", debt(5000, 90, 90).account(2, 90, 3), 0);
        EDGES.due("19 grace 90, on 91", debt(5000, 90, 91).account(2, 91, 3), 1);
        EDGES.due("19 grace 90, on 900", debt(5000, 90, 900).account(2, 900, 3), 810);
        ShareHouse x = owned();
        States.pass(x, 900);
        x.rule(2, 90);
        x.cost(0, 900, 5000);
        x.cost(0, 810, 5000);
        EDGES.due("19 grace behind the last day", x.account(2, 900, 3), 0);
    }

    /** Terms: "less what was PAID on DAYS up to d, if that is above 0". */
    private static void paidInTime() {
        ShareHouse x = debt(5000, 0, 0);
        x.pay(2, 5000);
        x.days(100);
        EDGES.due("19 paid on the day", x.account(2, 100, 3), 0);
        ShareHouse y = debt(5000, 0, 1);
        y.pay(2, 5000);
        y.days(99);
        EDGES.due("19 paid a day behind", y.account(2, 100, 3), 1);
        EDGES.due("19 paid on the day, known a day behind", x.account(2, 1, 3), 0);
        ShareHouse last = debt(5000, 0, 900);
        last.pay(2, 5000);
        EDGES.due("19 paid on the last day of all", last.account(2, 900, 3), 900);
        ShareHouse other = debt(5000, 0, 0);
        other.pay(1, 5000);
        other.days(1);
        EDGES.due("19 another owner paid", other.account(2, 1, 3), 1);
        ShareHouse z = debt(10000, 0, 0);
        z.pay(2, 5000);
        z.days(3);
        EDGES.due("19 half is paid", z.account(2, 3, 3), 3);
    }

    /** Terms: a DAY on which more was PAID than is late counts as 0, and takes nothing off other DAYS. */
    private static void paidAheadAndLate() {
        ShareHouse x = owned();
        x.rule(2, 0);
        x.pay(2, 5000);
        x.days(10);
        x.cost(0, 10, 10000);
        x.days(2);
        EDGES.due("19 paid ahead", x.account(2, 12, 3), 2);
        ShareHouse y = debt(5000, 0, 2);
        y.pay(2, 99999);
        y.days(98);
        EDGES.due("19 paid far too much", y.account(2, 100, 3), 2);
        EDGES.due("19 its balance", y.account(2, 100, 2), 5000 - 99999);
    }

    /** Terms: "all these together times RATE (.. 20 at first), by 100000, the rest away". */
    private static void interestRestAway() {
        EDGES.due("19 just a penny", debt(5000, 0, 1).account(2, 1, 3), 1);
        EDGES.due("19 just no penny", debt(4999, 0, 1).account(2, 1, 3), 0);
        EDGES.due("19 the rest of all days together", debt(2500, 0, 2).account(2, 2, 3), 1);
        EDGES.due("19 just no penny of two days", debt(2499, 0, 2).account(2, 2, 3), 0);
        EDGES.due("19 the least debt", debt(1, 0, 900).account(2, 900, 3), 0);
        EDGES.due("19 no debt", debt(0, 0, 900).account(2, 900, 3), 0);
        ShareHouse x = debt(4999, 0, 1);
        x.pay(2, 4999);
        States.pass(x, 899);
        EDGES.due("19 days without debt", x.account(2, 900, 3), 0);
    }

    /** Terms: "RATE (0 to 99)". */
    private static void rateLeastAndMost() {
        ShareHouse x = debt(50000, 0, 100);
        x.rule(3, 0);
        EDGES.due("19 rate 0", x.account(2, 100, 3), 0);
        x.rule(3, 1);
        EDGES.due("19 rate 1", x.account(2, 100, 3), 50);
        x.rule(3, 99);
        EDGES.due("19 rate 99", x.account(2, 100, 3), 4950);
    }

    /** The greatest of all: 8 FLATS that each pay all of 20 COSTS of the most PENCE, for 900 DAYS at the greatest RATE. */
    private static void greatestAccount() {
        ShareHouse x = new ShareHouse();
        for (int i = 0; i < 8; i++) {
            x.flat(0, 1, false);
            Checks.lease(x, i, "all pays 1 of 1;");
            x.sell(i, 7, 0);
        }
        for (int i = 0; i < 20; i++) {
            x.cost(0, 0, 99999);
        }
        x.rule(2, 0);
        x.rule(3, 99);
        States.pass(x, 900);
        EDGES.due("19 the greatest bill", x.account(7, 900, 0), 15999840);
        EDGES.due("19 the greatest balance", x.account(7, 900, 2), 15999840);
        EDGES.due("19 the greatest interest", x.account(7, 900, 3), 14255857);
        EDGES.due("20 who owes it", x.asked(0, 900), 7);
    }

    /** On DAY 1 OWNER 2 owes 5000 since DAY 0, and OWNER 0 so many pence since DAY 1. */
    private static ShareHouse twoDebts(int pence) {
        ShareHouse x = debt(5000, 0, 1);
        Checks.lease(x, 0, "roof pays 1 of 1;");
        x.flat(0, 1, false);
        Checks.lease(x, 1, "lift pays 1 of 1;");
        x.sell(1, 0, 0);
        x.cost(1, 1, pence);
        return x;
    }

    /** 20: "NUMBER: i isn't 0 to 7, or there is no such DAY (0 to TODAY)". */
    private static void askedNumbers() {
        EDGES.bounds("20 i", States::richWithTape, 0, 7, (x, v) -> x.asked(v, 50), ShareHouse.NUMBER);
        EDGES.bounds("20 day", States::richWithTape, 0, 50, (x, v) -> x.asked(0, v), ShareHouse.NUMBER);
        EDGES.bounds("20 today 0", States::empty, 0, 0, (x, v) -> x.asked(7, v), ShareHouse.NUMBER);
        EDGES.bounds("20 today 900", x -> States.pass(x, 900), 0, 900, (x, v) -> x.asked(7, v), ShareHouse.NUMBER);
    }

    /** Terms: "OWNERS by BALANCE and INTEREST together, the most first, of several the least". */
    private static void askedOfLikeOnes() {
        ShareHouse x = new ShareHouse();
        x.pay(0, 1);
        x.pay(7, 1);
        x.pay(3, 2);
        int[] want = {1, 2, 4, 5, 6, 0, 7, 3};
        for (int i = 0; i < 8; i++) {
            EDGES.due("20 like ones, " + i, x.asked(i, 0), want[i]);
        }
        // a penny of interest is as much as a penny of balance
        ShareHouse y = twoDebts(5001);
        EDGES.due("20 like with interest, the least", y.asked(0, 1), 0);
        EDGES.due("20 like with interest, the other", y.asked(1, 1), 2);
        y.right(1, 5000);
        EDGES.due("20 a penny more by interest", y.asked(0, 1), 2);
        y.days(1);
        EDGES.due("20 a penny more, as known the day ahead", y.asked(0, 1), 2);
        y.right(1, 5001);
        EDGES.due("20 a penny each, as known today", y.asked(0, 2), 0);
        EDGES.due("20 a penny more, as known yesterday", y.asked(0, 1), 2);
        EDGES.due("20 as known on 0", y.asked(0, 0), 2);
        EDGES.due("20 as known on 0, the next", y.asked(1, 0), 0);
    }

    /** 20: "as KNOWN on a DAY": neither what was paid nor the interest that grew behind that DAY counts. */
    private static void askedAsKnownThen() {
        ShareHouse x = twoDebts(5002);
        x.days(1);
        x.pay(0, 5002);
        x.days(8);
        EDGES.due("20 5002 and 5001, as known on 1", x.asked(0, 1), 0);
        EDGES.due("20 the other, as known on 1", x.asked(1, 1), 2);
        EDGES.due("20 1 and 5010, as known on 10", x.asked(0, 10), 2);
        EDGES.due("20 the other, as known on 10", x.asked(1, 10), 0);
    }
}
