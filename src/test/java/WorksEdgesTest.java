/** Each sentence on works and likes that names an edge: promises 21 to 28, and what the terms say of WORKS, LIKES. */
final class WorksEdgesTest {
    private static final Edges EDGES = new Edges();

    private WorksEdgesTest() {
    }

    public static void main(String[] args) {
        workNumbers();
        sixWorks();
        letterNumbers();
        twoLetters();
        noLettersWhenDone();
        priceNumbers();
        fourPrices();
        noPricesWhenDone();
        doneNumbers();
        doneOnce();
        doneNeedsRoom();
        doneIsACostOfToday();
        cappedNumbers();
        fewerThanTwoLetters();
        lettersThirtyDaysApart();
        secondLetterThirtyDaysAhead();
        twoPricesOrMore();
        penceNotAboveTheGreatest();
        firstReasonIsTold();
        likeNumbers();
        sixteenLikes();
        fairNumbers();
        fairNeedsThree();
        fairPlaces();
        cutNumbers();
        cutIsNone();
        cutAboveFairAlone();
        cutInTimeAlone();
        cutWhenFull();
        orderOfCutRefusals();
        cutRestAway();
        EDGES.end("WorksEdgesTest");
    }

    /** 21: "NUMBER: there is no such HEAD, or pence aren't as told"; "PENCE (1 to 99999)". */
    private static void workNumbers() {
        EDGES.bounds("21 head", States::richWithTape, 0, 5, (x, v) -> x.work(v, 1), ShareHouse.NUMBER);
        EDGES.bounds("21 pence", States::richWithTape, 1, 99999, (x, v) -> x.work(0, v), ShareHouse.NUMBER);
    }

    /** Terms: "WORKS are numbered from 0 as they come, 6 at most"; FULL behind NUMBER. */
    private static void sixWorks() {
        EDGES.room("21 six works", States::empty, 6, 0, x -> x.work(5, 99999));
        EDGES.room("21 six works in a rich house", States::richWithTape, 3, 3, x -> x.work(0, 1));
        EDGES.refused("21 full", States::full, x -> x.work(0, 1), ShareHouse.FULL);
        EDGES.refused("21 full, no head", States::full, x -> x.work(6, 1), ShareHouse.NUMBER);
        EDGES.refused("21 full, no pence", States::full, x -> x.work(0, 0), ShareHouse.NUMBER);
    }

    /** 22: "NUMBER: there is no such WORK". */
    private static void letterNumbers() {
        EDGES.bounds("22 work", WorksEdgesTest::threeWorks, 0, 2, ShareHouse::letter, ShareHouse.NUMBER);
    }

    private static void threeWorks(ShareHouse x) {
        x.work(0, 1);
        x.work(1, 2);
        x.work(2, 3);
    }

    private static void workDone(ShareHouse x) {
        States.rich(x);
        x.done(0);
    }

    /** Terms: "A WORK has LETTERS, 2 at most"; FULL. */
    private static void twoLetters() {
        EDGES.room("22 two letters", WorksEdgesTest::threeWorks, 2, 1, x -> x.letter(2));
        EDGES.refused("22 full", States::full, x -> x.letter(5), ShareHouse.FULL);
        EDGES.answers("22 the first of another work", States::rich, x -> x.letter(1), 1);
        // a third letter that is refused does not become the second
        ShareHouse x = new ShareHouse();
        x.work(0, 1);
        x.letter(0);
        x.days(29);
        x.letter(0);
        x.days(1);
        EDGES.due("22 the third", x.letter(0), ShareHouse.FULL);
        EDGES.due("25 the two stay too near", x.capped(0), 2);
    }

    /** 22: "STATE: it is DONE"; ahead of FULL, behind NUMBER. */
    private static void noLettersWhenDone() {
        EDGES.refused("22 done", States::richWithTape, x -> x.letter(2), ShareHouse.STATE);
        EDGES.refused("22 done, and full", WorksEdgesTest::workDone, x -> x.letter(0), ShareHouse.STATE);
        EDGES.refused("22 no such work", WorksEdgesTest::workDone, x -> x.letter(3), ShareHouse.NUMBER);
    }

    /** 23: "NUMBER: there is no such WORK, or v isn't as told"; "PRICES (1 to 99999)". */
    private static void priceNumbers() {
        EDGES.bounds("23 work", WorksEdgesTest::threeWorks, 0, 2, (x, v) -> x.price(v, 1), ShareHouse.NUMBER);
        EDGES.bounds("23 price", States::richWithTape, 1, 99999, (x, v) -> x.price(0, v), ShareHouse.NUMBER);
    }

    /** Terms: "PRICES (..), 4 at most"; FULL. */
    private static void fourPrices() {
        EDGES.room("23 four prices", WorksEdgesTest::threeWorks, 4, 1, x -> x.price(2, 99999));
        EDGES.room("23 four prices in a rich house", States::richWithTape, 2, 3, x -> x.price(0, 1));
        EDGES.refused("23 full", States::full, x -> x.price(5, 99999), ShareHouse.FULL);
        EDGES.refused("23 full, no price", States::full, x -> x.price(5, 0), ShareHouse.NUMBER);
        EDGES.answers("23 the first of another work", States::rich, x -> x.price(1, 1), 1);
    }

    /** 23: "STATE: it is DONE"; ahead of FULL, behind NUMBER. */
    private static void noPricesWhenDone() {
        Edges.State doneAndFull = x -> {
            States.rich(x);
            x.price(0, 1);
            x.price(0, 1);
            x.done(0);
        };
        EDGES.refused("23 done", States::richWithTape, x -> x.price(2, 1), ShareHouse.STATE);
        EDGES.refused("23 done, and full", doneAndFull, x -> x.price(0, 1), ShareHouse.STATE);
        EDGES.refused("23 done, no price", doneAndFull, x -> x.price(0, 100000), ShareHouse.NUMBER);
        EDGES.refused("23 no such work", doneAndFull, x -> x.price(3, 1), ShareHouse.NUMBER);
    }

    /** 24: "NUMBER: there is no such WORK". */
    private static void doneNumbers() {
        EDGES.bounds("24 work", WorksEdgesTest::threeWorks, 0, 2, ShareHouse::done, ShareHouse.NUMBER);
        Edges.State six = x -> {
            threeWorks(x);
            threeWorks(x);
        };
        EDGES.bounds("24 the sixth", six, 0, 5, ShareHouse::done, ShareHouse.NUMBER);
    }

    /** 24: "STATE: it is DONE". */
    private static void doneOnce() {
        EDGES.refused("24 done again", States::richWithTape, x -> x.done(2), ShareHouse.STATE);
        EDGES.answers("24 another", States::richWithTape, x -> x.done(1), 4);
        Edges.State firstCost = x -> {
            threeWorks(x);
            x.done(1);
        };
        EDGES.answers("24 the first cost", firstCost, x -> x.many(2), 1);
        EDGES.refused("24 done again, as the first cost", firstCost, x -> x.done(1), ShareHouse.STATE);
    }

    private static void nineteenCosts(ShareHouse x) {
        threeWorks(x);
        for (int i = 0; i < 19; i++) {
            x.cost(0, 0, 1);
        }
    }

    private static void twentyCosts(ShareHouse x) {
        nineteenCosts(x);
        x.done(0);
    }

    /** 24: "FULL: there are 20 COSTS"; behind NUMBER and STATE; the WORK is not DONE then. */
    private static void doneNeedsRoom() {
        EDGES.answers("24 the twentieth cost", WorksEdgesTest::nineteenCosts, x -> x.done(0), 19);
        EDGES.refused("24 the 21st cost", WorksEdgesTest::twentyCosts, x -> x.done(1), ShareHouse.FULL);
        EDGES.refused("24 done, and full", WorksEdgesTest::twentyCosts, x -> x.done(0), ShareHouse.STATE);
        EDGES.refused("24 no such work, and full", WorksEdgesTest::twentyCosts, x -> x.done(3), ShareHouse.NUMBER);
        EDGES.refused("11 a cost behind that of a work", WorksEdgesTest::twentyCosts, x -> x.cost(0, 0, 0),
                ShareHouse.FULL);
        EDGES.refused("24 full of all", States::full, x -> x.done(5), ShareHouse.FULL);
    }

    /** Terms: "DONE it is a COST of TODAY"; the least and the greatest PENCE. */
    private static void doneIsACostOfToday() {
        ShareHouse x = new ShareHouse();
        x.work(0, 1);
        x.work(5, 99999);
        States.pass(x, 900);
        x.done(1);
        x.done(0);
        int[][] want = {{5, 900, 99999, 99999, 900, 1, 0}, {0, 900, 1, 1, 900, 1, 0}};
        for (int cost = 0; cost < 2; cost++) {
            for (int what = 0; what < 7; what++) {
                EDGES.due("24 costOf(" + cost + ", " + what + ")", x.costOf(cost, what), want[cost][what]);
            }
        }
        EDGES.due("15 not known the day ahead", x.landlord(0, 899), ShareHouse.NOTHING);
    }

    /** 25: "NUMBER: there is no such WORK; STATE: it is DONE". */
    private static void cappedNumbers() {
        EDGES.bounds("25 work", WorksEdgesTest::threeWorks, 0, 2, ShareHouse::capped, ShareHouse.NUMBER);
        EDGES.refused("25 done", States::richWithTape, x -> x.capped(2), ShareHouse.STATE);
        EDGES.refused("25 no such", States::richWithTape, x -> x.capped(3), ShareHouse.NUMBER);
    }

    /** A WORK of 500 with LETTERS so many DAYS apart, the second so many ahead of TODAY, and PRICES. */
    private static Edges.State offered(int apart, int ahead, int... prices) {
        return x -> {
            x.work(0, 500);
            x.letter(0);
            if (apart > 0) {
                x.days(apart);
            }
            x.letter(0);
            if (ahead > 0) {
                x.days(ahead);
            }
            for (int price : prices) {
                x.price(0, price);
            }
        };
    }

    /** What capped() answers is what done() does. */
    private static void why(String sentence, Edges.State state, int reason) {
        EDGES.answers("25 " + sentence, state, x -> x.capped(0), reason);
        EDGES.answers("24 " + sentence, state, x -> x.costOf(x.done(0), 5), reason == 0 ? 0 : 1);
        EDGES.changesNothing("25 " + sentence, state, x -> x.capped(0));
    }

    /** 25: "1 there are fewer than two LETTERS". */
    private static void fewerThanTwoLetters() {
        Edges.State none = x -> {
            x.work(0, 500);
            x.days(60);
            x.price(0, 500);
            x.price(0, 500);
        };
        Edges.State one = x -> {
            x.work(0, 500);
            x.letter(0);
            x.days(60);
            x.price(0, 500);
            x.price(0, 500);
        };
        why("no letter", none, 1);
        why("one letter", one, 1);
        why("two letters", offered(30, 30, 500, 500), 0);
    }

    /** Terms: "two LETTERS, 30 DAYS or more apart"; 25: "2 these are too near". */
    private static void lettersThirtyDaysApart() {
        why("0 apart", offered(0, 60, 500, 500), 2);
        why("29 apart", offered(29, 60, 500, 500), 2);
        why("30 apart", offered(30, 60, 500, 500), 0);
        why("31 apart", offered(31, 60, 500, 500), 0);
        Edges.State fromDay100 = x -> {
            x.days(100);
            offered(29, 60, 500, 500).build(x);
        };
        why("29 apart, from day 100 on", fromDay100, 2);
    }

    /** Terms: "the second 30 DAYS or more ahead of TODAY"; 25: "3 the second is too late". */
    private static void secondLetterThirtyDaysAhead() {
        why("0 ahead", offered(60, 0, 500, 500), 3);
        why("29 ahead", offered(60, 29, 500, 500), 3);
        why("30 ahead", offered(60, 30, 500, 500), 0);
        why("31 ahead", offered(60, 31, 500, 500), 0);
    }

    /** Terms: "two PRICES or more"; 25: "4 there are fewer than two PRICES". */
    private static void twoPricesOrMore() {
        why("no price", offered(30, 30), 4);
        why("one price", offered(30, 30, 99999), 4);
        why("two prices", offered(30, 30, 500, 1), 0);
        why("four prices", offered(30, 30, 1, 1, 1, 500), 0);
    }

    /** Terms: "PENCE not above the greatest"; 25: "5 PENCE are above the greatest". */
    private static void penceNotAboveTheGreatest() {
        why("a penny below", offered(30, 30, 499, 499), 5);
        why("the first is the greatest", offered(30, 30, 500, 499), 0);
        why("the last is the greatest", offered(30, 30, 499, 500), 0);
        why("the greatest of four", offered(30, 30, 1, 501, 2, 3), 0);
        why("the least price", offered(30, 30, 1, 1), 5);
        why("the greatest price", offered(30, 30, 99999, 1), 0);
    }

    /** 25: of several reasons the first is answered. */
    private static void firstReasonIsTold() {
        why("1 to 5", x -> x.work(0, 500), 1);
        why("2 to 5", offered(0, 0, 499), 2);
        why("3 to 5", offered(30, 0, 499), 3);
        why("4 and 5", offered(30, 30, 499), 4);
        why("5 alone", offered(30, 30, 499, 499), 5);
    }

    /** 26: "NUMBER: there is no such HEAD, or v isn't as told"; "(0 to 9999)". */
    private static void likeNumbers() {
        EDGES.bounds("26 head", States::richWithTape, 0, 5, (x, v) -> x.like(v, 1), ShareHouse.NUMBER);
        EDGES.bounds("26 like", States::richWithTape, 0, 9999, (x, v) -> x.like(0, v), ShareHouse.NUMBER);
    }

    /** Terms: "LIKES, 16 at most"; FULL behind NUMBER. */
    private static void sixteenLikes() {
        EDGES.room("26 sixteen likes of one head", States::empty, 16, 1, x -> x.like(5, 9999));
        EDGES.room("26 sixteen likes in all", States::richWithTape, 12, 5, x -> x.like(x.many(7) % 6, 0));
        EDGES.refused("26 full", States::full, x -> x.like(5, 0), ShareHouse.FULL);
        EDGES.refused("26 full, no head", States::full, x -> x.like(6, 0), ShareHouse.NUMBER);
        EDGES.refused("26 full, no like", States::full, x -> x.like(0, 10000), ShareHouse.NUMBER);
    }

    /** 27: "NUMBER: there is no such HEAD". */
    private static void fairNumbers() {
        EDGES.bounds("27 head", States::richWithTape, 0, 5, ShareHouse::fair, ShareHouse.NUMBER);
    }

    /** 27: "NONE: it has fewer than 3 LIKES". */
    private static void fairNeedsThree() {
        ShareHouse x = new ShareHouse();
        EDGES.due("27 of none", x.fair(4), ShareHouse.NONE);
        x.like(4, 5);
        EDGES.due("27 of one", x.fair(4), ShareHouse.NONE);
        x.like(4, 5);
        x.like(3, 5);
        EDGES.due("27 of two", x.fair(4), ShareHouse.NONE);
        x.like(4, 0);
        EDGES.due("27 of three", x.fair(4), 5);
        EDGES.due("27 of another head", x.fair(3), ShareHouse.NONE);
        EDGES.refused("27 none", States::richWithTape, y -> y.fair(1), ShareHouse.NONE);
    }

    /** Terms: "the LIKE at place (3 n by 4, the rest away) of all n, rising, from 0 on". */
    private static void fairPlaces() {
        for (int n = 3; n <= 16; n++) {
            ShareHouse rising = new ShareHouse();
            ShareHouse falling = new ShareHouse();
            ShareHouse alike = new ShareHouse();
            for (int i = 0; i < n; i++) {
                rising.like(0, 600 * i);
                falling.like(5, 600 * (n - 1 - i));
                alike.like(2, 9999);
            }
            EDGES.due("27 of " + n + ", rising", rising.fair(0), 600 * (3 * n / 4));
            EDGES.due("27 of " + n + ", falling", falling.fair(5), 600 * (3 * n / 4));
            EDGES.due("27 of " + n + " alike", alike.fair(2), 9999);
        }
        ShareHouse x = new ShareHouse();
        for (int i = 0; i < 16; i++) {
            x.like(i % 2, i % 2 == 0 ? 0 : 9999);
        }
        EDGES.due("27 the least", x.fair(0), 0);
        EDGES.due("27 the greatest", x.fair(1), 9999);
    }

    private static Edges.State fairOf(int fair, int area, int pence) {
        return x -> {
            x.flat(0, area, false);
            x.like(0, fair);
            x.like(0, fair);
            x.like(0, fair);
            x.cost(0, 0, pence);
        };
    }

    /** 28: "NUMBER: there is no such COST". */
    private static void cutNumbers() {
        Edges.State twoCosts = x -> {
            fairOf(0, 1, 9).build(x);
            x.cost(0, 0, 9);
        };
        EDGES.bounds("28 cost", twoCosts, 0, 1, ShareHouse::cut, ShareHouse.NUMBER);
    }

    /** 28: "NONE: there are no FLATS, or FAIR isn't told". */
    private static void cutIsNone() {
        Edges.State noFlats = x -> {
            x.like(0, 0);
            x.like(0, 0);
            x.like(0, 0);
            x.cost(0, 0, 99999);
        };
        Edges.State noFair = x -> {
            x.flat(0, 1, false);
            x.like(0, 0);
            x.like(0, 0);
            x.like(1, 0);
            x.cost(0, 0, 99999);
        };
        EDGES.refused("28 no flats", noFlats, x -> x.cut(0), ShareHouse.NONE);
        EDGES.refused("28 no flats, no cost", noFlats, x -> x.cut(1), ShareHouse.NUMBER);
        EDGES.refused("28 no fair", noFair, x -> x.cut(0), ShareHouse.NONE);
        EDGES.refused("28 neither", x -> x.cost(0, 0, 99999), x -> x.cut(0), ShareHouse.NONE);
        EDGES.answers("28 fair by a third like", noFair, x -> x.like(0, 0) == 4 ? x.cut(0) : -99, 0);
    }

    /** 28: "STATE: its LEVEL isn't above it". */
    private static void cutAboveFairAlone() {
        EDGES.refused("28 level below", fairOf(10, 100, 9), x -> x.cut(0), ShareHouse.STATE);
        EDGES.refused("28 level alike", fairOf(10, 100, 10), x -> x.cut(0), ShareHouse.STATE);
        EDGES.answers("28 level above", fairOf(10, 100, 11), x -> x.cut(0), 10);
        // the level is 10 and a rest, which is away
        EDGES.refused("28 above by the rest alone", fairOf(10, 300, 32), x -> x.cut(0), ShareHouse.STATE);
        EDGES.answers("28 above by one", fairOf(10, 300, 33), x -> x.cut(0), 30);
        EDGES.refused("28 no pence, fair 0", fairOf(0, 1, 0), x -> x.cut(0), ShareHouse.STATE);
        EDGES.answers("28 a penny, fair 0", fairOf(0, 1, 1), x -> x.cut(0), 0);
        EDGES.refused("28 cut already", x -> {
            fairOf(10, 100, 11).build(x);
            x.cut(0);
        }, x -> x.cut(0), ShareHouse.STATE);
    }

    private static Edges.State cutOn(int day, int limit) {
        return x -> {
            fairOf(10, 100, 5000).build(x);
            States.pass(x, day);
            if (limit >= 0) {
                x.rule(0, limit);
            }
        };
    }

    /** Terms: a COST is CUT "in time alone"; 28: "LATE". */
    private static void cutInTimeAlone() {
        EDGES.answers("28 limit at first", cutOn(540, -1), x -> x.cut(0), 10);
        EDGES.refused("28 behind the limit at first", cutOn(541, -1), x -> x.cut(0), ShareHouse.LATE);
        EDGES.answers("28 limit 0, the same day", cutOn(0, 0), x -> x.cut(0), 10);
        EDGES.refused("28 limit 0, a day behind", cutOn(1, 0), x -> x.cut(0), ShareHouse.LATE);
        EDGES.answers("28 limit 900", cutOn(900, 900), x -> x.cut(0), 10);
        EDGES.refused("28 limit 899", cutOn(900, 899), x -> x.cut(0), ShareHouse.LATE);
    }

    private static Edges.State timesRight(int times, int pence) {
        return x -> {
            fairOf(10, 100, 5000).build(x);
            for (int i = 0; i < times; i++) {
                x.right(0, pence);
            }
        };
    }

    /** 28: "FULL": 30 times some were PUT RIGHT. */
    private static void cutWhenFull() {
        EDGES.answers("28 the thirtieth", timesRight(29, 5000), x -> x.cut(0), 10);
        EDGES.refused("28 the 31st", timesRight(30, 5000), x -> x.cut(0), ShareHouse.FULL);
    }

    /** 28: "NUMBER ..; NONE ..; STATE ..; LATE; FULL": of several the first named. */
    private static void orderOfCutRefusals() {
        Edges.State fullAndLate = x -> {
            timesRight(30, 5000).build(x);
            x.cost(0, 0, 10);
            x.cost(1, 0, 5000);
            x.days(5);
            x.rule(0, 4);
        };
        EDGES.refused("28 late and full", fullAndLate, x -> x.cut(0), ShareHouse.LATE);
        EDGES.refused("28 level, late and full", fullAndLate, x -> x.cut(1), ShareHouse.STATE);
        EDGES.refused("28 no fair, late and full", fullAndLate, x -> x.cut(2), ShareHouse.NONE);
        EDGES.refused("28 no cost, and full", fullAndLate, x -> x.cut(3), ShareHouse.NUMBER);
        EDGES.refused("28 level, and full", timesRight(30, 10), x -> x.cut(0), ShareHouse.STATE);
    }

    /** Terms: "PUT RIGHT to FAIR times all AREAS by 100, the rest away". */
    private static void cutRestAway() {
        EDGES.answers("28 a rest of 99", fairOf(9, 11, 50), x -> x.cut(0), 0);
        EDGES.answers("28 no rest", fairOf(10, 10, 50), x -> x.cut(0), 1);
        EDGES.answers("28 a rest of 1", fairOf(1, 101, 50), x -> x.cut(0), 1);
        EDGES.answers("28 the greatest", fairOf(9999, 300, 99999), x -> x.cut(0), 29997);
        ShareHouse x = new ShareHouse();
        for (int i = 0; i < 8; i++) {
            x.flat(0, 300, false);
        }
        x.like(0, 4165);
        x.like(0, 4165);
        x.like(0, 4165);
        x.cost(0, 0, 99999);
        EDGES.due("28 the greatest house", x.cut(0), 99960);
        EDGES.due("28 its pence", x.costOf(0, 2), 99960);
        EDGES.due("28 as they came", x.costOf(0, 3), 99999);
        EDGES.due("28 how often", x.costOf(0, 6), 1);
    }
}
