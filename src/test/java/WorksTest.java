/** Promises 21 to 28: works with letters and prices, likes, what is fair and what is cut. */
final class WorksTest {
    private static final Checks CHECKS = new Checks();

    private WorksTest() {
    }

    public static void main(String[] args) {
        works();
        letters();
        prices();
        whyCapped();
        done();
        doneWhenFull();
        likes();
        fair();
        cut();
        cutRefusals();
        CHECKS.end("WorksTest");
    }

    private static void due(String call, long got, long want) {
        CHECKS.due(call, got, want);
    }

    private static void works() {
        ShareHouse x = new ShareHouse();
        due("head 6", x.work(6, 1), -1);
        due("head -1", x.work(-1, 1), -1);
        due("pence 0", x.work(0, 0), -1);
        due("pence 100000", x.work(0, 100000), -1);
        due("many(6)", x.many(6), 0);
        for (int i = 0; i < 6; i++) {
            due("work", x.work(i, i == 0 ? 1 : 99999), i);
        }
        due("seventh", x.work(0, 1), -2);
        due("seventh, wrong", x.work(0, 0), -1);
        due("many(6)", x.many(6), 6);
    }

    private static void letters() {
        ShareHouse x = new ShareHouse();
        due("no work", x.letter(0), -1);
        x.work(0, 1);
        x.work(0, 1);
        due("letter(-1)", x.letter(-1), -1);
        due("letter(2)", x.letter(2), -1);
        due("first", x.letter(0), 1);
        due("second", x.letter(0), 2);
        due("third", x.letter(0), -2);
        due("of the other", x.letter(1), 1);
        x.done(0);
        due("done, and full", x.letter(0), -4);
        x.done(1);
        due("done", x.letter(1), -4);
    }

    private static void prices() {
        ShareHouse x = new ShareHouse();
        due("no work", x.price(0, 1), -1);
        x.work(0, 1);
        due("price(-1)", x.price(-1, 1), -1);
        due("v 0", x.price(0, 0), -1);
        due("v 100000", x.price(0, 100000), -1);
        for (int i = 1; i <= 4; i++) {
            due("price", x.price(0, i == 1 ? 99999 : 1), i);
        }
        due("fifth", x.price(0, 1), -2);
        x.done(0);
        due("done, and full", x.price(0, 1), -4);
        due("done, wrong v", x.price(0, 0), -1);
    }

    private static void whyCapped() {
        ShareHouse x = new ShareHouse();
        due("no work", x.capped(0), -1);
        x.work(2, 500);
        due("capped(-1)", x.capped(-1), -1);
        due("no letters", x.capped(0), 1);
        x.price(0, 500);
        x.letter(0);
        due("one letter", x.capped(0), 1);
        x.days(30);
        x.letter(0);
        due("second too late", x.capped(0), 3);
        x.days(29);
        due("second too late by a day", x.capped(0), 3);
        x.days(1);
        due("one price", x.capped(0), 4);
        x.price(0, 10);
        due("on the greatest", x.capped(0), 0);
        x.work(2, 501);
        x.letter(1);
        x.days(29);
        x.letter(1);
        due("too near, and late, and dear", x.capped(1), 2);
        x.days(30);
        due("too near", x.capped(1), 2);
        x.work(2, 501);
        x.letter(2);
        x.days(40);
        x.letter(2);
        x.days(40);
        x.price(2, 500);
        x.price(2, 500);
        due("too dear", x.capped(2), 5);
        x.price(2, 501);
        x.price(2, 1);
        due("not too dear", x.capped(2), 0);
        x.done(2);
        due("done", x.capped(2), -4);
    }

    private static void done() {
        ShareHouse x = new ShareHouse();
        due("no work", x.done(0), -1);
        x.cost(0, 0, 1);
        x.work(3, 700);
        x.work(4, 800);
        due("done(-1)", x.done(-1), -1);
        due("done(2)", x.done(2), -1);
        x.letter(0);
        x.days(30);
        x.letter(0);
        x.days(30);
        x.price(0, 700);
        x.price(0, 1);
        due("done", x.done(0), 1);
        due("done again", x.done(0), -4);
        due("the other", x.done(1), 2);
        int[] want = {3, 60, 700, 700, 60, 0, 0};
        int[] other = {4, 60, 800, 800, 60, 1, 0};
        for (int what = 0; what < 7; what++) {
            due("costOf(1, " + what + ")", x.costOf(1, what), want[what]);
            due("costOf(2, " + what + ")", x.costOf(2, what), other[what]);
        }
        due("many(2)", x.many(2), 3);
        due("many(6)", x.many(6), 2);
    }

    private static void doneWhenFull() {
        ShareHouse x = new ShareHouse();
        x.work(0, 5);
        x.work(0, 5);
        x.done(1);
        for (int i = 1; i < 20; i++) {
            x.cost(0, 0, 1);
        }
        due("full", x.done(0), -2);
        due("not done", x.letter(0), 1);
        due("done, and full", x.done(1), -4);
        due("no such", x.done(2), -1);
        due("many(2)", x.many(2), 20);
    }

    private static void likes() {
        ShareHouse x = new ShareHouse();
        due("head 6", x.like(6, 1), -1);
        due("head -1", x.like(-1, 1), -1);
        due("v -1", x.like(0, -1), -1);
        due("v 10000", x.like(0, 10000), -1);
        due("many(7)", x.many(7), 0);
        for (int i = 1; i <= 16; i++) {
            due("like", x.like(i % 6, i % 2 == 0 ? 0 : 9999), i);
        }
        due("17th", x.like(0, 1), -2);
        due("17th, wrong", x.like(0, -1), -1);
        due("many(7)", x.many(7), 16);
    }

    private static void fair() {
        ShareHouse x = new ShareHouse();
        due("head 6", x.fair(6), -1);
        due("head -1", x.fair(-1), -1);
        due("none", x.fair(0), -3);
        // the place is 3 n by 4: 2, 3, 3, 4, 5, 6
        int[] told = {50, 10, 40, 20, 30, 60, 40, 0};
        int[] want = {-3, -3, 50, 50, 40, 50, 50, 50};
        for (int i = 0; i < told.length; i++) {
            x.like(1, told[i]);
            x.like(2, 7);
            due("fair of " + (i + 1), x.fair(1), want[i]);
            due("fair of alike ones", x.fair(2), i < 2 ? -3 : 7);
        }
        due("another head", x.fair(0), -3);
        ShareHouse y = new ShareHouse();
        y.like(0, 0);
        y.like(0, 0);
        y.like(0, 0);
        due("fair 0", y.fair(0), 0);
    }

    private static ShareHouse withLikes() {
        ShareHouse x = new ShareHouse();
        x.flat(0, 60, false);
        x.flat(0, 75, false);
        x.like(1, 10);
        x.like(1, 33);
        x.like(1, 20);
        return x;
    }

    private static void cut() {
        ShareHouse x = withLikes();
        x.cost(1, 0, 45);
        x.cost(1, 0, 46);
        x.cost(1, 0, 99999);
        due("level 33", x.costOf(0, 7), 33);
        due("not above", x.cut(0), -4);
        due("level 34", x.costOf(1, 7), 34);
        due("above", x.cut(1), 33 * 135 / 100);
        due("pence", x.costOf(1, 2), 44);
        due("as it came", x.costOf(1, 3), 46);
        due("times", x.costOf(1, 6), 1);
        due("many(3)", x.many(3), 1);
        due("again", x.cut(1), -4);
        x.days(5);
        due("great", x.cut(2), 44);
        due("as known on 4", x.landlord(2, 4), 99999);
        due("as known on 5", x.landlord(2, 5), 44);
        x.right(2, 500);
        due("once more", x.cut(2), 44);
        ShareHouse y = new ShareHouse();
        y.flat(0, 300, false);
        y.flat(0, 300, false);
        y.cost(0, 0, 5);
        y.cost(0, 0, 6);
        y.like(0, 0);
        y.like(0, 0);
        y.like(0, 0);
        due("fair 0, level 0", y.cut(0), -4);
        due("fair 0, level 1", y.cut(1), 0);
        ShareHouse z = new ShareHouse();
        z.flat(0, 300, false);
        z.cost(0, 0, 99999);
        z.like(0, 9999);
        z.like(0, 9999);
        z.like(0, 9999);
        due("great fair", z.cut(0), 29997);
    }

    private static void cutRefusals() {
        ShareHouse x = new ShareHouse();
        due("no cost", x.cut(0), -1);
        x.cost(1, 0, 99999);
        x.like(1, 10);
        x.like(1, 10);
        x.like(1, 10);
        due("cut(-1)", x.cut(-1), -1);
        due("cut(1)", x.cut(1), -1);
        due("no flats", x.cut(0), -3);
        x.flat(0, 100, false);
        x.cost(2, 0, 99999);
        due("no fair", x.cut(1), -3);
        x.days(10);
        x.rule(0, 9);
        due("late", x.cut(0), -5);
        x.cost(1, 0, 10);
        due("late, and not above", x.cut(2), -4);
        x.rule(0, 10);
        for (int i = 0; i < 30; i++) {
            x.right(1, 5);
        }
        due("full", x.cut(0), -2);
        x.rule(0, 9);
        due("late, and full", x.cut(0), -5);
        due("stays", x.costOf(0, 2), 99999);
    }
}
