/** Promises 16 to 20: sales, owners by days, payments, accounts and who is asked first. */
final class OwnersTest {
    private static final Checks CHECKS = new Checks();
    private static final int NOTHING = -1000000000;

    private OwnersTest() {
    }

    public static void main(String[] args) {
        sales();
        limitOfSales();
        ownersByDays();
        payments();
        limitOfPayments();
        bills();
        interest();
        interestWithRights();
        greatestInterest();
        accountNumbers();
        askedFirst();
        CHECKS.end("OwnersTest");
    }

    private static void due(String call, long got, long want) {
        CHECKS.due(call, got, want);
    }

    private static ShareHouse two() {
        ShareHouse x = new ShareHouse();
        for (int i = 0; i < 2; i++) {
            x.flat(0, 10, false);
            Checks.lease(x, i, "all pays equal;");
        }
        return x;
    }

    private static void sales() {
        ShareHouse x = two();
        due("flat 2", x.sell(2, 0, 0), -1);
        due("flat -1", x.sell(-1, 0, 0), -1);
        due("owner 8", x.sell(0, 8, 0), -1);
        due("owner -1", x.sell(0, -1, 0), -1);
        due("day 1", x.sell(0, 0, 1), -1);
        due("day -1", x.sell(0, 0, -1), -1);
        due("many(4)", x.many(4), 0);
        due("first", x.sell(0, 7, 0), 1);
        x.days(3);
        due("second", x.sell(1, 0, 3), 2);
        due("day 4", x.sell(1, 0, 4), -1);
        due("many(4)", x.many(4), 2);
    }

    private static void limitOfSales() {
        ShareHouse x = two();
        for (int i = 1; i <= 20; i++) {
            due("sale", x.sell(0, i % 8, 0), i);
        }
        due("21st", x.sell(0, 0, 0), -2);
        due("21st, wrong", x.sell(0, 8, 0), -1);
        due("owner", x.owner(0, 0), 4);
    }

    private static void ownersByDays() {
        ShareHouse x = two();
        x.days(50);
        due("nobody's", x.owner(0, 0), -3);
        x.sell(0, 1, 20);
        x.sell(0, 2, 10);
        due("day 9", x.owner(0, 9), -3);
        due("day 10", x.owner(0, 10), 2);
        due("day 19", x.owner(0, 19), 2);
        due("day 20", x.owner(0, 20), 1);
        due("day 900", x.owner(0, 900), 1);
        due("the other flat", x.owner(1, 20), -3);
        x.sell(0, 3, 20);
        due("told later", x.owner(0, 20), 3);
        x.sell(0, 4, 20);
        x.sell(0, 5, 0);
        due("told latest", x.owner(0, 20), 4);
        due("day 0", x.owner(0, 0), 5);
        due("day 901", x.owner(0, 901), -1);
        due("day -1", x.owner(0, -1), -1);
        due("flat 2", x.owner(2, 0), -1);
        due("flat -1", x.owner(-1, 0), -1);
    }

    private static void payments() {
        ShareHouse x = new ShareHouse();
        due("owner 8", x.pay(8, 1), -1);
        due("owner -1", x.pay(-1, 1), -1);
        due("pence 0", x.pay(0, 0), -1);
        due("pence 100000", x.pay(0, 100000), -1);
        due("many(5)", x.many(5), 0);
        due("first", x.pay(0, 99999), 1);
        x.days(5);
        due("second", x.pay(0, 1), 2);
        due("third", x.pay(7, 3), 3);
        due("paid on 4", x.account(0, 4, 1), 99999);
        due("paid on 5", x.account(0, 5, 1), 100000);
        due("paid by 7 on 4", x.account(7, 4, 1), 0);
        due("paid by 7 on 5", x.account(7, 5, 1), 3);
        due("balance", x.account(0, 5, 2), -100000);
    }

    private static void limitOfPayments() {
        ShareHouse x = new ShareHouse();
        for (int i = 1; i <= 20; i++) {
            due("pay", x.pay(1, 99999), i);
        }
        due("21st", x.pay(1, 1), -2);
        due("21st, wrong", x.pay(1, 0), -1);
        due("paid", x.account(1, 0, 1), 20 * 99999);
        due("many(5)", x.many(5), 20);
    }

    private static void bills() {
        ShareHouse x = two();
        x.days(10);
        x.cost(0, 0, 100);
        x.cost(0, 5, 300);
        x.days(10);
        x.cost(0, 5, 1000);
        x.right(0, 200);
        due("the landlord's", x.account(0, 20, 0), 0);
        x.sell(0, 0, 0);
        x.sell(1, 0, 5);
        due("on 9 nothing is known", x.account(0, 9, 0), 0);
        due("on 10", x.account(0, 10, 0), 50 + 300);
        due("on 20", x.account(0, 20, 0), 100 + 300 + 1000);
        x.sell(0, 1, 3);
        due("on 20, sold", x.account(0, 20, 0), 100 + 150 + 500);
        due("on 20, bought", x.account(1, 20, 0), 150 + 500);
        due("on 10, sold (as sales are now)", x.account(0, 10, 0), 50 + 150);
        x.pay(1, 700);
        due("balance", x.account(1, 20, 2), -50);
        due("balance on 10", x.account(1, 10, 2), 150);
        x.law(0, 0);
        x.rule(1, 0);
        due("no cap on plain costs", x.account(1, 20, 0), 650);
    }

    private static void interest() {
        ShareHouse x = two();
        x.sell(0, 2, 0);
        x.cost(0, 0, 20000);
        x.days(30);
        due("on 30", x.account(2, 30, 3), 0);
        x.days(1);
        // only day 30: 10000 * 20 / 100000
        due("on 31", x.account(2, 31, 3), 2);
        x.pay(2, 10000);
        x.days(9);
        due("on 40", x.account(2, 40, 3), 2);
        x.rule(2, 29);
        due("days 29 and 30", x.account(2, 40, 3), 4);
        x.rule(2, 0);
        due("days 0 to 30", x.account(2, 40, 3), 62);
        due("as known on 10", x.account(2, 10, 3), 20);
        due("as known on 0", x.account(2, 0, 3), 0);
        x.rule(2, 90);
        due("grace 90", x.account(2, 40, 3), 0);
        x.rule(2, 0);
        x.rule(3, 0);
        due("rate 0", x.account(2, 40, 3), 0);
        x.rule(3, 99);
        due("rate 99", x.account(2, 40, 3), 31 * 99 / 10);
        due("another owner", x.account(3, 40, 3), 0);
        x.pay(3, 99999);
        x.days(1);
        due("another's payment", x.account(2, 41, 3), 31 * 99 / 10);
        ShareHouse y = two();
        y.rule(2, 0);
        y.sell(0, 0, 0);
        y.sell(1, 1, 0);
        y.cost(0, 0, 9999);
        y.days(1);
        due("5000 a day", y.account(0, 1, 3), 1);
        due("4999 a day", y.account(1, 1, 3), 0);
        y.pay(0, 5000);
        y.days(1);
        due("paid on the last day", y.account(0, 2, 3), 1);
        due("not paid", y.account(1, 2, 3), 1);
        ShareHouse z = two();
        z.rule(2, 0);
        z.sell(0, 0, 0);
        z.cost(0, 0, 9998);
        z.days(1);
        z.pay(0, 4999);
        z.days(100);
        due("days on which nothing is late", z.account(0, 101, 3), 0);
    }

    private static void interestWithRights() {
        ShareHouse x = two();
        x.rule(2, 0);
        x.sell(0, 0, 0);
        x.pay(0, 1000);
        x.days(10);
        x.cost(0, 0, 4000);
        x.days(10);
        x.right(0, 8000);
        x.cost(0, 15, 1000);
        x.days(1);
        // as known on 20: (4000 - 1000) on days 0 to 14, 3500 on 15 to 19
        due("on 20", x.account(0, 20, 3), (15 * 3000 + 5 * 3500) * 20 / 100000);
        due("on 19", x.account(0, 19, 3), 19 * 1000 * 20 / 100000);
        // what is paid too much one day lessens nothing but that day
        x.pay(0, 99999);
        x.days(10);
        due("on 31", x.account(0, 31, 3), (15 * 3000 + 6 * 3500) * 20 / 100000);
    }

    private static void greatestInterest() {
        ShareHouse x = new ShareHouse();
        for (int i = 0; i < 8; i++) {
            x.flat(0, 1, false);
            Checks.lease(x, i, "all pays 1 of 1;");
            x.sell(i, 6, 0);
        }
        for (int i = 0; i < 20; i++) {
            x.cost(0, 0, 99999);
        }
        for (int i = 0; i < 9; i++) {
            x.days(100);
        }
        x.rule(2, 0);
        x.rule(3, 99);
        due("bill", x.account(6, 900, 0), 160 * 99999);
        due("interest", x.account(6, 900, 3), 160L * 99999 * 900 * 99 / 100000);
        due("asked", x.asked(0, 900), 6);
    }

    private static void accountNumbers() {
        ShareHouse x = two();
        x.days(1);
        for (int what = 0; what < 4; what++) {
            due("what " + what, x.account(0, 1, what), 0);
            due("owner 8", x.account(8, 1, what), NOTHING);
            due("owner -1", x.account(-1, 1, what), NOTHING);
            due("day 2", x.account(0, 2, what), NOTHING);
            due("day -1", x.account(0, -1, what), NOTHING);
        }
        due("what 4", x.account(0, 1, 4), NOTHING);
        due("what -1", x.account(0, 1, -1), NOTHING);
    }

    private static void askedFirst() {
        ShareHouse x = two();
        for (int i = 0; i < 8; i++) {
            due("nobody owes", x.asked(i, 0), i);
        }
        x.rule(2, 0);
        x.rule(3, 99);
        x.sell(0, 5, 0);
        x.cost(0, 0, 20000);
        x.days(10);
        x.sell(1, 2, 10);
        x.cost(0, 10, 20000);
        // owner 5: 20000, and 10 days of 10000; owner 2: 10000
        x.pay(1, 1);
        x.pay(5, 10000);
        x.days(10);
        int[] want = {5, 2, 0, 3, 4, 6, 7, 1};
        for (int i = 0; i < 8; i++) {
            due("asked(" + i + ", 20)", x.asked(i, 20), want[i]);
        }
        // the same balance; interest alone tells them apart
        due("balance of 5", x.account(5, 20, 2), 10000);
        due("balance of 2", x.account(2, 20, 2), 10000);
        x.rule(3, 0);
        due("alike, the least", x.asked(0, 20), 2);
        due("alike, the other", x.asked(1, 20), 5);
        due("as known on 9", x.asked(0, 9), 5);
        x.sell(0, 0, 0);
        due("the first owner owes the most", x.asked(0, 20), 0);
        due("and who has paid the most is last", x.asked(7, 20), 5);
        due("asked(8)", x.asked(8, 20), -1);
        due("asked(-1)", x.asked(-1, 20), -1);
        due("day 21", x.asked(0, 21), -1);
        due("day -1", x.asked(0, -1), -1);
    }
}
