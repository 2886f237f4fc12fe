/** Promises 10 to 15: rules, costs, what is put right, parts and the landlord. */
final class CostsTest {
    private static final Checks CHECKS = new Checks();
    private static final int NOTHING = -1000000000;

    private CostsTest() {
    }

    public static void main(String[] args) {
        rules();
        costs();
        limitOfCosts();
        putRight();
        limitOfRights();
        lateAheadOfFull();
        costOf();
        partsByLaw();
        restsGoOut();
        partsKnown();
        caps();
        noFlats();
        greatestNumbers();
        leasesAsNow();
        CHECKS.end("CostsTest");
    }

    private static void due(String call, long got, long want) {
        CHECKS.due(call, got, want);
    }

    private static void rules() {
        int[] most = {900, 9999, 90, 99, 99999, 9999};
        int[] first = {540, 250, 30, 20, 0, 0};
        ShareHouse x = new ShareHouse();
        for (int what = 0; what < 6; what++) {
            due("above most", x.rule(what, most[what] + 1), -1);
            due("below 0", x.rule(what, -1), -1);
            due("most", x.rule(what, most[what]), first[what]);
            due("0", x.rule(what, 0), most[what]);
            due("1", x.rule(what, 1), 0);
        }
        due("rule(-1)", x.rule(-1, 0), -1);
        due("rule(6)", x.rule(6, 0), -1);
        due("rule(max)", x.rule(Integer.MAX_VALUE, 0), -1);
    }

    private static void costs() {
        ShareHouse x = new ShareHouse();
        due("head -1", x.cost(-1, 0, 0), -1);
        due("head 6", x.cost(6, 0, 0), -1);
        due("day -1", x.cost(0, -1, 0), -1);
        due("day 1", x.cost(0, 1, 0), -1);
        due("pence -1", x.cost(0, 0, -1), -1);
        due("pence 100000", x.cost(0, 0, 100000), -1);
        due("many(2)", x.many(2), 0);
        due("first", x.cost(0, 0, 0), 0);
        x.days(7);
        due("second", x.cost(5, 7, 99999), 1);
        due("third", x.cost(5, 8, 1), -1);
        due("third", x.cost(5, 3, 1), 2);
        due("many(2)", x.many(2), 3);
    }

    private static void limitOfCosts() {
        ShareHouse x = new ShareHouse();
        for (int i = 0; i < 20; i++) {
            due("cost", x.cost(i % 6, 0, i), i);
        }
        due("21st", x.cost(0, 0, 0), -2);
        due("21st, wrong", x.cost(0, 1, 0), -1);
        due("many(2)", x.many(2), 20);
        due("last", x.costOf(19, 2), 19);
    }

    private static void putRight() {
        ShareHouse x = new ShareHouse();
        x.days(100);
        x.cost(0, 40, 500);
        due("right", x.right(0, 0), 500);
        due("right", x.right(0, 99999), 0);
        due("right", x.right(0, 600), 99999);
        due("right(-1)", x.right(-1, 0), -1);
        due("right(1)", x.right(1, 0), -1);
        due("pence -1", x.right(0, -1), -1);
        due("pence 100000", x.right(0, 100000), -1);
        due("many(3)", x.many(3), 3);
        x.rule(0, 60);
        due("on the limit", x.right(0, 601), 600);
        x.rule(0, 59);
        due("behind the limit", x.right(0, 602), -5);
        due("wrong and late", x.right(0, -1), -1);
        due("stays", x.costOf(0, 2), 601);
        x.rule(0, 60);
        x.days(1);
        due("a day later", x.right(0, 602), -5);
        x.rule(0, 900);
        due("another limit", x.right(0, 602), 601);
    }

    private static void limitOfRights() {
        ShareHouse x = new ShareHouse();
        x.cost(0, 0, 0);
        x.cost(1, 0, 0);
        for (int i = 0; i < 30; i++) {
            due("right", x.right(i % 2, i), i < 2 ? 0 : i - 2);
        }
        due("31st", x.right(0, 1), -2);
        due("many(3)", x.many(3), 30);
        due("stays", x.costOf(0, 2), 28);
        due("stays", x.costOf(1, 2), 29);
        due("times", x.costOf(0, 6), 15);
        due("times", x.costOf(1, 6), 15);
    }

    private static void lateAheadOfFull() {
        ShareHouse x = new ShareHouse();
        x.cost(0, 0, 0);
        for (int i = 0; i < 30; i++) {
            x.right(0, 1);
        }
        x.days(5);
        x.rule(0, 4);
        due("late and full", x.right(0, 2), -5);
        due("wrong, late and full", x.right(0, 100000), -1);
        x.rule(0, 5);
        due("full", x.right(0, 2), -2);
    }

    private static void costOf() {
        ShareHouse x = new ShareHouse();
        x.days(10);
        x.cost(3, 4, 1234);
        due("level without flats", x.costOf(0, 7), -3);
        x.flat(0, 70, false);
        x.days(1);
        x.right(0, 777);
        int[] want = {3, 4, 777, 1234, 10, 0, 1, 1110};
        for (int what = 0; what < 8; what++) {
            due("costOf(0, " + what + ")", x.costOf(0, what), want[what]);
        }
        due("what 8", x.costOf(0, 8), -1);
        ShareHouse y = new ShareHouse();
        y.flat(0, 1, false);
        y.cost(0, 0, 99999);
        due("the greatest level", y.costOf(0, 7), 9999900);
        due("what -1", x.costOf(0, -1), -1);
        due("cost 1", x.costOf(1, 0), -1);
        due("cost -1", x.costOf(-1, 0), -1);
        due("cost max", x.costOf(Integer.MAX_VALUE, 7), -1);
    }

    private static ShareHouse three(String a, String b, String c) {
        ShareHouse x = new ShareHouse();
        String[] texts = {a, b, c};
        for (int i = 0; i < 3; i++) {
            x.flat(i, 10 * (i + 1), i == 0);
            Checks.lease(x, i, texts[i]);
        }
        return x;
    }

    private static void parts(ShareHouse x, int cost, int known, int[] want, int landlord) {
        for (int i = 0; i < want.length; i++) {
            due("part(" + cost + ", " + i + ", " + known + ")", x.part(cost, i, known), want[i]);
        }
        due("landlord(" + cost + ", " + known + ")", x.landlord(cost, known), landlord);
    }

    private static void partsByLaw() {
        // below 1 together: 1/4 + 1/4 + 1/3 = 5/6
        ShareHouse x = three("all pays 1 of 4;", "all pays 1 of 4;", "all pays 1 of 3;");
        x.cost(0, 0, 1000);
        parts(x, 0, 0, new int[] {250, 250, 333}, 167);
        x.law(0, 2);
        parts(x, 0, 0, new int[] {250, 250, 333}, 167);
        x.law(0, 1);
        parts(x, 0, 0, new int[] {300, 300, 400}, 0);
        // above 1 together: 1/2 + 1/2 + 1/3 = 4/3
        ShareHouse y = three("all pays 1 of 2;", "all pays 1 of 2;", "all pays 1 of 3;");
        y.cost(0, 0, 1000);
        parts(y, 0, 0, new int[] {500, 500, 333}, -333);
        y.law(1, 1);
        parts(y, 0, 0, new int[] {500, 500, 333}, -333);
        y.law(0, 2);
        parts(y, 0, 0, new int[] {375, 375, 250}, 0);
        y.law(0, 1);
        parts(y, 0, 0, new int[] {375, 375, 250}, 0);
        // nothing together
        ShareHouse z = three("", "all pays nothing;", "lift pays area;");
        z.cost(0, 0, 77);
        for (int law = 0; law < 3; law++) {
            z.law(0, law);
            parts(z, 0, 0, new int[] {0, 0, 0}, 77);
        }
        // 1 together
        ShareHouse w = three("all pays area;", "all pays area;", "all pays area;");
        w.cost(0, 0, 601);
        for (int law = 0; law < 3; law++) {
            w.law(0, law);
            parts(w, 0, 0, new int[] {100, 200, 301}, 0);
        }
    }

    private static void restsGoOut() {
        ShareHouse x = three("all pays equal;", "all pays equal;", "all pays equal;");
        x.cost(0, 0, 0);
        x.cost(0, 0, 1);
        x.cost(0, 0, 2);
        x.cost(0, 0, 3);
        parts(x, 0, 0, new int[] {0, 0, 0}, 0);
        parts(x, 1, 0, new int[] {1, 0, 0}, 0);
        parts(x, 2, 0, new int[] {1, 1, 0}, 0);
        parts(x, 3, 0, new int[] {1, 1, 1}, 0);
        // rests 1/6, 2/6, 3/6 of the pence
        ShareHouse y = three("all pays area;", "all pays area;", "all pays area;");
        y.cost(0, 0, 1);
        y.cost(0, 0, 5);
        parts(y, 0, 0, new int[] {0, 0, 1}, 0);
        // 5/6, 10/6, 15/6: the pence go to the rests 5/6 and 4/6
        parts(y, 1, 0, new int[] {1, 2, 2}, 0);
        // a share above the sum keeps no rest where all are not 1
        ShareHouse z = three("all pays 1 of 2;", "all pays 1 of 2;", "all pays 1 of 24;");
        z.cost(0, 0, 23);
        parts(z, 0, 0, new int[] {11, 11, 0}, 1);
        z.law(0, 2);
        parts(z, 0, 0, new int[] {11, 11, 1}, 0);
        // one flat bears nothing and gets no penny
        ShareHouse v = three("all pays nothing;", "all pays 1 of 2;", "all pays 1 of 2;");
        v.cost(0, 0, 3);
        parts(v, 0, 0, new int[] {0, 2, 1}, 0);
    }

    private static void partsKnown() {
        ShareHouse x = three("all pays equal;", "all pays equal;", "all pays equal;");
        x.days(10);
        x.cost(0, 2, 30);
        x.days(5);
        x.right(0, 60);
        x.right(0, 63);
        x.days(5);
        x.right(0, 90);
        due("not known", x.part(0, 0, 9), -3);
        due("not known", x.landlord(0, 9), NOTHING);
        due("known", x.part(0, 0, 10), 10);
        due("known", x.part(0, 0, 14), 10);
        due("right", x.part(0, 0, 15), 21);
        due("right", x.part(0, 0, 19), 21);
        due("right again", x.part(0, 0, 20), 30);
        due("day 21", x.part(0, 0, 21), -1);
        due("day -1", x.part(0, 0, -1), -1);
        due("flat 3", x.part(0, 3, 20), -1);
        due("flat -1", x.part(0, -1, 20), -1);
        due("cost 1", x.part(1, 0, 20), -1);
        due("cost -1", x.part(-1, 0, 20), -1);
        due("not known, no flat", x.part(0, 3, 0), -1);
        due("landlord, day 21", x.landlord(0, 21), NOTHING);
        due("landlord, day -1", x.landlord(0, -1), NOTHING);
        due("landlord, cost 1", x.landlord(1, 20), NOTHING);
        due("landlord, cost -1", x.landlord(-1, 20), NOTHING);
        due("landlord", x.landlord(0, 20), 0);
    }

    private static void caps() {
        ShareHouse x = three("all pays area;", "all pays area;", "all pays area;");
        x.work(0, 900);
        x.work(0, 99999);
        due("done", x.done(0), 0);
        due("done", x.done(1), 1);
        x.cost(0, 0, 900);
        parts(x, 0, 0, new int[] {150, 250, 250}, 250);
        parts(x, 1, 0, new int[] {250, 250, 250}, 99249);
        parts(x, 2, 0, new int[] {150, 300, 450}, 0);
        x.rule(1, 300);
        parts(x, 0, 0, new int[] {150, 300, 300}, 150);
        x.rule(1, 9999);
        parts(x, 0, 0, new int[] {150, 300, 450}, 0);
        x.rule(1, 0);
        parts(x, 0, 0, new int[] {0, 0, 0}, 900);
        // what the landlord gains falls away with what is cut off
        ShareHouse y = three("all pays 1 of 1;", "all pays 1 of 1;", "all pays 1 of 1;");
        y.work(0, 300);
        y.done(0);
        parts(y, 0, 0, new int[] {250, 250, 250}, -450);
    }

    private static void noFlats() {
        ShareHouse x = new ShareHouse();
        x.cost(0, 0, 55);
        x.law(0, 1);
        due("landlord", x.landlord(0, 0), 55);
        due("part", x.part(0, 0, 0), -1);
    }

    private static void greatestNumbers() {
        ShareHouse x = new ShareHouse();
        for (int i = 0; i < 8; i++) {
            x.flat(i == 0 ? 8 : 9, i == 7 ? 299 : 300, false);
        }
        int[] bottoms = {23, 22, 21, 19, 17, 13};
        for (int i = 0; i < 6; i++) {
            Checks.lease(x, i, "all pays " + (bottoms[i] - 1) + " of " + bottoms[i] + ";");
        }
        Checks.lease(x, 6, "all pays floor;");
        Checks.lease(x, 7, "all pays area;");
        x.cost(0, 0, 99999);
        int all = 0;
        for (int i = 0; i < 6; i++) {
            int part = 99999 * (bottoms[i] - 1) / bottoms[i];
            due("great part", x.part(0, i, 0), part);
            all += part;
        }
        due("great floor part", x.part(0, 6, 0), 99999 * 9 / 71);
        due("great area part", x.part(0, 7, 0), 99999 * 299 / 2399);
        all += 99999 * 9 / 71 + 99999 * 299 / 2399;
        due("great landlord", x.landlord(0, 0), 99999 - all);
        x.law(0, 1);
        due("great landlord, mended", x.landlord(0, 0), 0);
    }

    private static void leasesAsNow() {
        ShareHouse x = three("all pays equal;", "all pays equal;", "all pays equal;");
        x.cost(0, 0, 12);
        due("by three", x.part(0, 0, 0), 4);
        x.flat(0, 10, false);
        due("by four", x.part(0, 0, 0), 3);
        due("landlord for the fourth", x.landlord(0, 0), 3);
        Checks.lease(x, 0, "roof pays 1 of 2;");
        due("by another lease", x.part(0, 0, 0), 6);
    }
}
