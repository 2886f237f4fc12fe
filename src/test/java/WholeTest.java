/** Promises 37 to 40: buyers, how many there are, what is kept. */
final class WholeTest {
    private static final Checks CHECKS = new Checks();

    private WholeTest() {
    }

    public static void main(String[] args) {
        buyers();
        buyersToday();
        many();
        keepAndBack();
        keptStays();
        tapeAndRowsAreNotKept();
        placesAreCleanAfterBack();
        keepAllParts();
        CHECKS.end("WholeTest");
    }

    private static void due(String call, long got, long want) {
        CHECKS.due(call, got, want);
    }

    private static void buyers() {
        ShareHouse x = new ShareHouse();
        due("no flats", x.buyers(), -3);
        int[] areas = {50, 50, 60, 40, 30, 70};
        for (int area : areas) {
            x.flat(0, area, false);
        }
        due("the landlord's", x.buyers(), -3);
        x.sell(0, 0, 0);
        x.sell(1, 1, 0);
        x.sell(3, 1, 0);
        due("under half", x.buyers(), -3);
        x.sell(4, 3, 0);
        due("170 of 300", x.buyers(), 11);
        x.sell(2, 2, 0);
        // 90 + 60 is just half; 90 + 50 less: three are needed, the least bits first
        due("just half is not enough", x.buyers(), 7);
        x.sell(5, 7, 0);
        // 70 + 90 = 160
        due("two", x.buyers(), 130);
        x.sell(5, 2, 0);
        // 60 + 70 = 130; with 50: 180, with 90: 220, with 30: 160
        due("two, the least", x.buyers(), 5);
        x.sell(4, 2, 0);
        due("one", x.buyers(), 4);
        ShareHouse y = new ShareHouse();
        y.flat(0, 1, false);
        y.sell(0, 0, 0);
        due("the first one alone", y.buyers(), 1);
    }

    private static void buyersToday() {
        ShareHouse x = new ShareHouse();
        x.flat(0, 10, false);
        x.days(10);
        x.sell(0, 4, 10);
        x.sell(0, 5, 3);
        due("today", x.buyers(), 16);
        x.days(1);
        due("a day later", x.buyers(), 16);
        ShareHouse y = new ShareHouse();
        y.flat(0, 11, false);
        y.flat(0, 10, false);
        y.sell(0, 7, 0);
        due("11 of 21", y.buyers(), 128);
        y.flat(0, 1, false);
        due("11 of 22", y.buyers(), -3);
        y.sell(1, 0, 0);
        due("21 of 22", y.buyers(), 129);
    }

    private static void many() {
        ShareHouse x = new ShareHouse();
        x.days(9);
        x.flat(0, 100, false);
        x.flat(0, 23, false);
        for (int i = 0; i < 3; i++) {
            x.cost(0, 0, 1);
        }
        for (int i = 0; i < 4; i++) {
            x.right(0, 1);
        }
        for (int i = 0; i < 5; i++) {
            x.sell(0, 0, 0);
        }
        for (int i = 0; i < 6; i++) {
            x.pay(0, 1);
        }
        x.work(0, 1);
        for (int i = 0; i < 8; i++) {
            x.like(i % 6, 1);
        }
        x.piece(2, 1, 0);
        x.piece(2, 1, 0);
        x.piece(2, 1, 0);
        x.worst(3);
        x.feed(0, 7);
        int[] want = {9, 2, 3, 4, 5, 6, 1, 8, 3, 8, 7, 123};
        for (int what = 0; what < 12; what++) {
            due("many(" + what + ")", x.many(what), want[what]);
        }
        due("many(12)", x.many(12), -1);
        due("many(-1)", x.many(-1), -1);
        due("many(min)", x.many(Integer.MIN_VALUE), -1);
    }

    private static void keepAndBack() {
        ShareHouse x = new ShareHouse();
        due("back", x.back(), -3);
        due("keep", x.keep(), 1);
        x.flat(0, 1, false);
        due("back", x.back(), 1);
        due("no flats", x.many(1), 0);
        x.flat(0, 2, false);
        due("keep again", x.keep(), 1);
        x.flat(0, 3, false);
        x.days(1);
        due("back", x.back(), 1);
        due("areas", x.many(11), 2);
        due("today", x.many(0), 0);
    }

    private static void keptStays() {
        ShareHouse x = new ShareHouse();
        x.flat(0, 1, false);
        Checks.lease(x, 0, "all pays 1 of 2;");
        x.keep();
        for (int i = 0; i < 3; i++) {
            Checks.lease(x, 0, "all pays area;roof pays nothing;");
            x.rule(0, 7);
            x.law(0, 2);
            x.cost(0, 0, 9);
            due("back", x.back(), 1);
            due("clause", x.clause(0, 0, 3), 2);
            due("clause 1", x.clause(0, 1, 0), -1);
            due("rule", x.rule(0, 8), 540);
            due("law", x.law(0, 1), 0);
            due("costs", x.many(2), 0);
        }
    }

    private static void tapeAndRowsAreNotKept() {
        ShareHouse x = new ShareHouse();
        x.flat(0, 1, false);
        x.piece(2, 5, 0);
        x.feed(0x20, 1);
        x.worst(1);
        x.keep();
        Checks.feed(x, "all pays area;");
        x.drop();
        x.alter(0, 1, 8);
        x.back();
        due("tape", x.many(10), 15);
        due("rows", x.many(9), 1);
        due("row", x.row(0, 1), 8);
        due("check", x.check(), 0);
        due("lease", x.lease(0), 1);
        x.alter(0, 1, 5);
        due("check", x.check(), 1);
        ShareHouse y = new ShareHouse();
        y.keep();
        y.worst(0);
        y.back();
        due("rows told behind keep", y.check(), -1);
    }

    private static void placesAreCleanAfterBack() {
        ShareHouse x = new ShareHouse();
        x.keep();
        x.flat(0, 1, true);
        Checks.lease(x, 0, "all pays area;");
        x.work(0, 5);
        x.letter(0);
        x.letter(0);
        x.price(0, 99);
        x.price(0, 99);
        x.done(0);
        x.right(0, 4);
        x.back();
        x.flat(0, 1, false);
        due("a lease of no clauses", x.clause(0, 0, 0), -1);
        due("share", x.share(0, 0, 0), 0);
        x.work(0, 5);
        due("no letters", x.letter(0), 1);
        due("no prices", x.price(0, 1), 1);
        x.cost(0, 0, 3);
        due("not capped", x.costOf(0, 5), 0);
        due("not put right", x.costOf(0, 2), 3);
        due("owner", x.owner(0, 0), -3);
    }

    private static void keepAllParts() {
        ShareHouse x = new ShareHouse();
        x.days(40);
        x.flat(3, 40, true);
        Checks.lease(x, 0, "all pays floor if shop;");
        x.law(0, 1);
        x.rule(1, 100);
        x.cost(0, 30, 1000);
        x.right(0, 900);
        x.sell(0, 3, 20);
        x.pay(3, 50);
        x.work(1, 70);
        x.letter(0);
        x.price(0, 70);
        x.like(0, 1);
        x.like(0, 2);
        x.like(0, 3);
        x.piece(4, 400, 3);
        String before = tellAll(x);
        x.keep();
        x.days(10);
        x.flat(1, 30, false);
        Checks.lease(x, 0, "all pays nothing;");
        x.law(0, 2);
        x.rule(1, 90);
        x.right(0, 800);
        x.sell(0, 4, 10);
        x.sell(0, 5, 20);
        x.pay(3, 10);
        x.letter(0);
        x.price(0, 71);
        x.done(0);
        x.like(0, 0);
        x.piece(2, 50, 0);
        x.back();
        String after = tellAll(x);
        due("all is back", before.equals(after) ? 1 : 0, 1);
        due("letters", x.letter(0), 2);
        due("prices", x.price(0, 1), 2);
        x.days(30);
        x.work(0, 80);
        x.letter(1);
        x.days(30);
        x.letter(1);
        x.days(30);
        x.price(1, 50);
        x.price(1, 79);
        x.keep();
        x.price(1, 80);
        due("dear enough", x.capped(1), 0);
        x.back();
        due("too dear again", x.capped(1), 5);
    }

    private static String tellAll(ShareHouse x) {
        StringBuilder all = new StringBuilder();
        for (int what = 0; what < 12; what++) {
            all.append(x.many(what)).append(' ');
        }
        for (int what = 0; what < 8; what++) {
            all.append(x.costOf(0, what)).append(' ');
        }
        for (int what = 0; what < 4; what++) {
            all.append(x.account(3, 40, what)).append(' ');
        }
        all.append(x.clause(0, 0, 1)).append(' ').append(x.share(0, 0, 0)).append(' ').append(x.part(0, 0, 40));
        all.append(' ').append(x.landlord(0, 40)).append(' ').append(x.owner(0, 20)).append(' ').append(x.owner(0, 10));
        all.append(' ').append(x.capped(0)).append(' ').append(x.fair(0)).append(' ').append(x.level(0, 0));
        all.append(' ').append(x.level(1, 0)).append(' ').append(x.buyers());
        return all.toString();
    }
}
