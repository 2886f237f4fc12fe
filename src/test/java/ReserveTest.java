/** Promises 29 to 36: pieces, level pay, the worst of told cases, its rows and their reader. */
final class ReserveTest {
    private static final Checks CHECKS = new Checks();
    private static final int NOTHING = -1000000000;

    private ReserveTest() {
    }

    public static void main(String[] args) {
        pieces();
        noPieces();
        levels();
        sooner();
        lastYear();
        fundAndFloor();
        leftOver();
        levelNumbers();
        worstTies();
        worstByPieces();
        rows();
        rowsOfFullHouse();
        altered();
        dropped();
        toldAgain();
        CHECKS.end("ReserveTest");
    }

    private static void due(String call, long got, long want) {
        CHECKS.due(call, got, want);
    }

    private static void pieces() {
        ShareHouse x = new ShareHouse();
        due("life 1", x.piece(1, 1, 0), -1);
        due("life 21", x.piece(21, 1, 0), -1);
        due("price 0", x.piece(2, 0, 0), -1);
        due("price 100000", x.piece(2, 100000, 0), -1);
        due("next -1", x.piece(2, 1, -1), -1);
        due("next above life", x.piece(2, 1, 3), -1);
        due("next 21", x.piece(20, 1, 21), -1);
        due("many(8)", x.many(8), 0);
        due("first", x.piece(2, 1, 2), 0);
        due("second", x.piece(20, 99999, 20), 1);
        for (int i = 2; i < 7; i++) {
            due("piece", x.piece(5, 1, 0), i);
        }
        due("eighth", x.piece(5, 1, 0), -2);
        due("eighth, wrong", x.piece(5, 0, 0), -1);
        due("many(8)", x.many(8), 7);
    }

    private static void noPieces() {
        ShareHouse x = new ShareHouse();
        due("level", x.level(0, 0), 0);
        due("binds", x.level(0, 1), -3);
        due("left", x.left(0, 10, 29), 300);
        due("worst", x.worst(7), 0);
        due("rows", x.many(9), 1);
        x.rule(5, 5);
        due("floor 5", x.level(0, 0), 5);
        due("binds in 0", x.level(0, 1), 0);
    }

    private static void levels() {
        ShareHouse x = new ShareHouse();
        x.piece(10, 1000, 4);
        // in the years 4, 14, 24: 1000 by 5, 2000 by 15, 3000 by 25
        due("level", x.level(0, 0), 200);
        due("binds", x.level(0, 1), 4);
        due("left", x.left(0, 200, 4), 0);
        due("left", x.left(0, 199, 4), -5);
        due("left ahead", x.left(0, 199, 3), 796);
        due("left at the end", x.left(0, 200, 29), 3000);
        ShareHouse y = new ShareHouse();
        y.piece(2, 1, 1);
        // one penny each two years: rounded up at once, binding in the first year of all
        due("level", y.level(0, 0), 1);
        due("binds", y.level(0, 1), 1);
        ShareHouse z = new ShareHouse();
        z.piece(3, 300, 2);
        // 100 a year binds in the years 2, 5, ..
        due("level", z.level(0, 0), 100);
        due("binds first", z.level(0, 1), 2);
        ShareHouse w = new ShareHouse();
        w.piece(20, 100, 0);
        w.piece(20, 99, 1);
        // 100 at once, 199 by 2 rounded up is 100 too
        due("level", w.level(0, 0), 100);
        due("binds first", w.level(0, 1), 0);
    }

    private static void sooner() {
        ShareHouse x = new ShareHouse();
        x.piece(10, 1000, 4);
        due("sooner", x.level(1, 0), 250);
        due("binds", x.level(1, 1), 3);
        ShareHouse y = new ShareHouse();
        y.piece(3, 100, 0);
        // in the years 0, 3, 6 ..; sooner 0, 2, 5 ..
        due("left 1", y.left(1, 0, 1), -100);
        due("left 2", y.left(1, 0, 2), -200);
        due("left 4", y.left(1, 0, 4), -200);
        due("left 5", y.left(1, 0, 5), -300);
        due("plain left 2", y.left(0, 0, 2), -100);
        due("plain left 3", y.left(0, 0, 3), -200);
        ShareHouse z = new ShareHouse();
        z.piece(2, 100, 1);
        due("in year 0", z.left(1, 0, 0), -100);
        due("in year 1", z.left(1, 0, 1), -100);
        due("in year 2", z.left(1, 0, 2), -200);
    }

    private static void lastYear() {
        ShareHouse x = new ShareHouse();
        x.piece(15, 900, 15);
        // in 15 and 30: the latter comes into the years only if it is sooner
        due("plain", x.left(0, 0, 29), -900);
        due("sooner, 28", x.left(1, 0, 28), -900);
        due("sooner, 29", x.left(1, 0, 29), -1800);
        ShareHouse y = new ShareHouse();
        y.piece(2, 1, 2);
        due("fourteen", y.left(0, 0, 29), -14);
        due("fifteen", y.left(1, 0, 29), -15);
        ShareHouse z = new ShareHouse();
        z.piece(2, 1, 1);
        due("fifteen", z.left(0, 0, 29), -15);
        due("sooner, fifteen", z.left(1, 0, 29), -15);
    }

    private static void fundAndFloor() {
        ShareHouse x = new ShareHouse();
        x.piece(10, 1000, 4);
        x.rule(4, 500);
        due("fund 500", x.level(0, 0), 100);
        due("binds", x.level(0, 1), 4);
        x.rule(5, 400);
        // 900 by 5 is 180; 1900 by 15 less
        due("floor 400", x.level(0, 0), 180);
        due("left", x.left(0, 180, 4), 400);
        x.rule(5, 9999);
        due("floor above fund", x.level(0, 0), 9499);
        due("binds at once", x.level(0, 1), 0);
        x.rule(5, 0);
        x.rule(4, 3000);
        due("enough", x.level(0, 0), 0);
        due("binds never", x.level(0, 1), -3);
        x.rule(4, 2999);
        due("a penny short", x.level(0, 0), 1);
        due("binds late", x.level(0, 1), 24);
        ShareHouse y = new ShareHouse();
        y.piece(20, 30, 9);
        y.rule(4, 30);
        due("one a year", y.level(0, 0), 1);
        due("binds in the last year", y.level(0, 1), 29);
    }

    private static void leftOver() {
        ShareHouse x = new ShareHouse();
        for (int i = 0; i < 7; i++) {
            x.piece(2, 99999, 0);
        }
        due("the least", x.left(0, 0, 29), -7 * 15 * 99999);
        due("the least, sooner", x.left(127, 0, 29), -7 * 16 * 99999);
        due("the level", x.level(127, 0), 7 * 99999);
        x.rule(4, 99999);
        due("the most", x.left(0, 99999, 0), 2 * 99999 - 7 * 99999);
        due("pay -1", x.left(0, -1, 0), NOTHING);
        due("pay 100000", x.left(0, 100000, 0), NOTHING);
        due("year -1", x.left(0, 0, -1), NOTHING);
        due("year 30", x.left(0, 0, 30), NOTHING);
        due("set 128", x.left(128, 0, 0), NOTHING);
        due("set -1", x.left(-1, 0, 0), NOTHING);
    }

    private static void levelNumbers() {
        ShareHouse x = new ShareHouse();
        x.piece(2, 1, 0);
        x.piece(2, 1, 0);
        due("set 3", x.level(3, 0), 2);
        due("set 4", x.level(4, 0), -1);
        due("set -1", x.level(-1, 0), -1);
        due("set min", x.level(Integer.MIN_VALUE, 0), -1);
        due("what 2", x.level(0, 2), -1);
        due("what -1", x.level(0, -1), -1);
    }

    private static void worstTies() {
        ShareHouse x = new ShareHouse();
        x.piece(10, 100, 5);
        due("w 0", x.worst(0), 0);
        due("w 1", x.worst(1), 1);
        ShareHouse y = new ShareHouse();
        y.piece(20, 1000, 0);
        y.piece(20, 10, 9);
        y.piece(20, 10, 9);
        // the first piece binds in any case: no piece sooner is the fewest
        due("fewest", y.worst(3), 0);
        ShareHouse z = new ShareHouse();
        z.piece(20, 1, 20);
        z.piece(20, 600, 2);
        z.piece(20, 600, 2);
        z.piece(20, 600, 2);
        // none sooner: 1800 by 3; two: 1200 by 2, which is no more; three: 1800 by 2
        due("w 1", z.worst(1), 0);
        due("w 2", z.worst(2), 0);
        due("w 3", z.worst(3), 14);
        due("w 7", z.worst(7), 14);
    }

    private static void worstByPieces() {
        // {0, 3} needs 200 in year 0, {1, 2} 600 by 3 in year 2: that with piece 0 goes ahead, though its bits are more
        ShareHouse x = new ShareHouse();
        x.piece(20, 100, 1);
        x.piece(20, 200, 3);
        x.piece(20, 200, 3);
        x.piece(20, 100, 1);
        due("two sooner", x.level(6, 0), 200);
        due("two others sooner", x.level(9, 0), 200);
        due("a pair of both", x.level(3, 0), 150);
        due("the lesser piece first", x.worst(2), 9);
        due("no more with all", x.worst(7), 9);
        ShareHouse y = new ShareHouse();
        y.piece(20, 1000, 1);
        y.piece(20, 1000, 1);
        y.piece(20, 1000, 1);
        due("the least pieces", y.worst(2), 3);
        due("one is no more than none", y.worst(1), 0);
        // {0, 1} needs 200 in year 0, {2} 400 by 2 in year 1: the fewest
        ShareHouse v = new ShareHouse();
        v.piece(20, 100, 1);
        v.piece(20, 100, 1);
        v.piece(20, 200, 2);
        due("two", v.level(3, 0), 200);
        due("one", v.level(4, 0), 200);
        due("the fewest, told later", v.worst(3), 4);
        ShareHouse z = new ShareHouse();
        z.piece(20, 500, 20);
        z.piece(20, 900, 1);
        z.piece(20, 900, 1);
        // 0 and 1, 0 and 2, 1 and 2: only the last is more
        due("pairs", z.worst(2), 6);
        ShareHouse w = new ShareHouse();
        w.piece(4, 500, 4);
        w.piece(4, 300, 4);
        w.piece(4, 300, 4);
        w.piece(4, 100, 4);
        int best = 0;
        int bestPay = -1;
        for (int set = 0; set < 16; set++) {
            int pay = w.level(set, 0);
            if (Integer.bitCount(set) <= 2 && (pay > bestPay || pay == bestPay && ahead(set, best))) {
                best = set;
                bestPay = pay;
            }
        }
        due("as tried out", w.worst(2), best);
        due("w -1", w.worst(-1), -1);
        due("w 8", w.worst(8), -1);
        due("rows stay", w.many(9), 11);
    }

    private static boolean ahead(int set, int other) {
        if (Integer.bitCount(set) != Integer.bitCount(other)) {
            return Integer.bitCount(set) < Integer.bitCount(other);
        }
        return Integer.reverse(set) >>> 1 > Integer.reverse(other) >>> 1;
    }

    private static void rows() {
        ShareHouse x = new ShareHouse();
        x.piece(20, 100, 1);
        x.piece(20, 200, 3);
        x.piece(20, 30, 0);
        due("worst", x.worst(2), 1);
        // sets 0 to 6 without 7
        int[][] want = {{0, 83, 3}, {1, 130, 0}, {2, 110, 2}, {3, 130, 0}, {4, 83, 3}, {5, 130, 0}, {6, 110, 2}};
        for (int i = 0; i < 7; i++) {
            due("row set", x.row(i, 0), want[i][0]);
            due("row pay", x.row(i, 1), want[i][1]);
            due("row year", x.row(i, 2), want[i][2]);
        }
        due("row 7", x.row(7, 0), NOTHING);
        due("row -1", x.row(-1, 0), NOTHING);
        due("what 3", x.row(0, 3), NOTHING);
        due("what -1", x.row(1, -1), NOTHING);
        due("row max", x.row(Integer.MAX_VALUE, 0), NOTHING);
    }

    private static void rowsOfFullHouse() {
        ShareHouse x = new ShareHouse();
        for (int i = 0; i < 7; i++) {
            x.piece(2 + i, 1000 + i, i % 3);
        }
        int[] many = {1, 8, 29, 64, 99, 120, 127, 128};
        for (int w = 0; w <= 7; w++) {
            x.worst(w);
            due("rows for " + w, x.many(9), many[w]);
            due("the last set", x.row(many[w] - 1, 0), ((1 << w) - 1) << 7 - w);
            due("check", x.check(), -1);
        }
    }

    private static void altered() {
        ShareHouse x = new ShareHouse();
        x.piece(2, 10, 0);
        due("none yet", x.alter(0, 0, 0), NOTHING);
        x.worst(1);
        for (int i = 0; i < 2; i++) {
            for (int what = 0; what < 3; what++) {
                int was = x.row(i, what);
                due("alter", x.alter(i, what, Integer.MIN_VALUE), was);
                due("row", x.row(i, what), Integer.MIN_VALUE);
                due("check", x.check(), i);
                due("alter back", x.alter(i, what, was), Integer.MIN_VALUE);
                due("check", x.check(), -1);
            }
        }
        due("the same", x.alter(0, 1, x.row(0, 1)), 10);
        due("check", x.check(), -1);
        x.alter(1, 0, 77);
        x.alter(0, 2, 77);
        due("the first", x.check(), 0);
        due("row 2", x.alter(2, 0, 1), NOTHING);
        due("row -1", x.alter(-1, 0, 1), NOTHING);
        due("what 3", x.alter(0, 3, 1), NOTHING);
        due("what -1", x.alter(1, -1, 1), NOTHING);
    }

    private static void dropped() {
        ShareHouse x = new ShareHouse();
        x.piece(2, 10, 0);
        x.piece(2, 10, 0);
        due("none", x.drop(), -3);
        x.worst(2);
        due("drop", x.drop(), 3);
        due("fewer", x.check(), 3);
        due("gone", x.row(3, 0), NOTHING);
        due("gone", x.alter(3, 0, 0), NOTHING);
        due("drop", x.drop(), 2);
        x.alter(1, 1, 0);
        due("wrong, and fewer", x.check(), 1);
        due("drop", x.drop(), 1);
        due("fewer", x.check(), 1);
        due("drop", x.drop(), 0);
        due("all gone", x.check(), 0);
        due("none left", x.drop(), -3);
        due("many(9)", x.many(9), 0);
    }

    private static void toldAgain() {
        ShareHouse x = new ShareHouse();
        x.piece(2, 10, 0);
        x.worst(1);
        x.alter(0, 0, 5);
        x.drop();
        x.worst(0);
        due("told anew", x.check(), -1);
        due("rows", x.many(9), 1);
        // the reader holds the rows against what was told, not against what would be told now
        x.piece(2, 1000, 0);
        x.rule(5, 9999);
        due("as it was told", x.check(), -1);
        due("row", x.row(0, 1), 10);
        x.worst(8);
        due("a refusal tells nothing", x.row(0, 1), 10);
    }
}
