/** Each sentence on the whole that names an edge: promises 37 to 40, and what holds for all calls. */
final class WholeEdgesTest {
    private static final Edges EDGES = new Edges();

    private WholeEdgesTest() {
    }

    public static void main(String[] args) {
        moreThanHalf();
        fewestOwners();
        leastNumberAsBits();
        ownersOfToday();
        manyNumbers();
        nothingIsKept();
        keptLatest();
        keptStays();
        allIsBack();
        worksAreBack();
        tapeAndRowsAreNotKept();
        roomIsBack();
        probesTellChanges();
        askingChangesNothing();
        lastOfAllCalls();
        EDGES.end("WholeEdgesTest");
    }

    /** FLATS of these AREAS, each with an OWNER, the LANDLORD's where it is below 0. */
    private static ShareHouse owned(int[] areas, int... owners) {
        ShareHouse x = new ShareHouse();
        for (int i = 0; i < areas.length; i++) {
            x.flat(0, areas[i], false);
            if (owners[i] >= 0) {
                x.sell(i, owners[i], 0);
            }
        }
        return x;
    }

    /** Terms: "with more than half of all AREAS together; .. none, if all OWNERS have not"; 37: "NONE". */
    private static void moreThanHalf() {
        EDGES.due("37 just half", owned(new int[] {10, 10}, 0, -1).buyers(), ShareHouse.NONE);
        EDGES.due("37 one more than half", owned(new int[] {11, 10}, 0, -1).buyers(), 1);
        EDGES.due("37 one less than half", owned(new int[] {10, 11}, 0, -1).buyers(), ShareHouse.NONE);
        EDGES.due("37 half and one", owned(new int[] {10, 10, 1}, 7, -1, 7).buyers(), 128);
        EDGES.due("37 just half by two", owned(new int[] {5, 5, 10}, 1, 2, -1).buyers(), ShareHouse.NONE);
        EDGES.due("37 the least house", owned(new int[] {1}, 7).buyers(), 128);
        EDGES.due("37 the landlord's", owned(new int[] {300}, -1).buyers(), ShareHouse.NONE);
        EDGES.refused("37 nobody's", x -> x.flat(0, 1, false), ShareHouse::buyers, ShareHouse.NONE);
        int[] great = {300, 300, 300, 300, 300, 300, 300, 300};
        EDGES.due("37 four of eight", owned(great, 0, 1, 2, 3, -1, -1, -1, -1).buyers(), ShareHouse.NONE);
        EDGES.due("37 five of eight", owned(great, 0, 1, 2, 3, 4, -1, -1, -1).buyers(), 31);
        EDGES.due("37 five others", owned(great, 7, 6, 5, 4, 3, -1, -1, -1).buyers(), 248);
        EDGES.due("37 all of eight", owned(great, 7, 6, 5, 4, 3, 2, 1, 0).buyers(), 31);
        EDGES.due("37 one of all", owned(great, 6, 6, 6, 6, 6, 6, 6, 6).buyers(), 64);
    }

    /** Terms: "the fewest OWNERS". */
    private static void fewestOwners() {
        EDGES.due("37 one, not two", owned(new int[] {30, 30, 61}, 0, 1, 7).buyers(), 128);
        EDGES.due("37 two, as one has just half", owned(new int[] {30, 30, 60}, 0, 1, 7).buyers(), 129);
        EDGES.due("37 two, not three", owned(new int[] {20, 20, 20, 31, 30}, 0, 1, 2, 5, 6).buyers(), 96);
    }

    /** Terms: "of several the least number as bits". */
    private static void leastNumberAsBits() {
        // with 4 either 0 and 3 or 1 and 2 have 10 of 18: 22 is less than 25, though 0 is the lesser owner
        EDGES.due("37 22, not 25", owned(new int[] {1, 2, 2, 3, 6, 4}, 0, 1, 2, 3, 4, -1).buyers(), 22);
        EDGES.due("37 one pair", owned(new int[] {50, 30, 30, 10}, 3, 1, 2, 0).buyers(), 10);
        EDGES.due("37 like ones", owned(new int[] {10, 10, 10}, 7, 4, 2).buyers(), 20);
    }

    /** Terms: "OWNERS who have FLATS TODAY". */
    private static void ownersOfToday() {
        ShareHouse x = new ShareHouse();
        x.flat(0, 1, false);
        States.pass(x, 900);
        x.sell(0, 3, 899);
        EDGES.due("37 since yesterday", x.buyers(), 8);
        x.sell(0, 4, 900);
        EDGES.due("37 since today", x.buyers(), 16);
        x.sell(0, 5, 0);
        EDGES.due("37 no more today", x.buyers(), 16);
    }

    /** 38: "NUMBER: another what". */
    private static void manyNumbers() {
        EDGES.bounds("38 what", States::richWithTape, 0, 11, ShareHouse::many, ShareHouse.NUMBER);
        int[] rich = {50, 3, 4, 2, 3, 2, 3, 4, 3, 6, 17, 200};
        int[] full = {50, 8, 20, 30, 20, 20, 6, 16, 7, 128, 200, 108};
        for (int i = 0; i < 12; i++) {
            int what = i;
            EDGES.answers("38 rich, " + i, States::richWithTape, x -> x.many(what), rich[i]);
            EDGES.answers("38 full, " + i, States::full, x -> x.many(what), full[i]);
        }
    }

    /** 40: "NONE: nothing is kept". */
    private static void nothingIsKept() {
        EDGES.refused("40 new", States::empty, ShareHouse::back, ShareHouse.NONE);
        EDGES.refused("40 full, nothing kept", States::full, ShareHouse::back, ShareHouse.NONE);
        EDGES.answers("39 keep nothing", States::empty, ShareHouse::keep, 1);
        EDGES.leaves("40 nothing is kept, and back", x -> {
            x.keep();
            x.flat(0, 1, false);
            x.days(1);
            x.law(0, 1);
            x.rule(3, 1);
        }, ShareHouse::back, ShareHouse::keep);
    }

    /** 40: "It becomes what was kept latest". */
    private static void keptLatest() {
        ShareHouse x = new ShareHouse();
        x.flat(0, 1, false);
        x.keep();
        x.flat(0, 2, false);
        x.keep();
        x.flat(0, 3, false);
        EDGES.due("40 back", x.back(), 1);
        EDGES.due("38 as kept latest", x.many(11), 3);
        EDGES.due("40 back again", x.back(), 1);
        EDGES.due("38 no further back", x.many(11), 3);
    }

    private static void keptRich(ShareHouse x) {
        States.richWithTape(x);
        x.keep();
    }

    private static long changeAll(ShareHouse x) {
        x.flat(9, 300, true);
        x.days(60);
        x.law(0, 2);
        x.law(5, 1);
        for (int what = 0; what < 6; what++) {
            x.rule(what, 7);
        }
        x.rule(0, 900);
        x.cost(5, 60, 4321);
        x.right(0, 1);
        x.right(3, 2);
        x.cut(0);
        x.sell(0, 1, 110);
        x.sell(1, 1, 0);
        x.pay(3, 7);
        x.letter(1);
        x.price(0, 99999);
        x.price(1, 8);
        x.work(5, 1);
        x.done(0);
        x.like(0, 1);
        x.like(1, 1);
        return x.piece(7, 77, 7);
    }

    /** 40: what was kept "stays": it is kept after back() too, whatever comes then. */
    private static void keptStays() {
        Edges.Call twice = x -> {
            changeAll(x);
            x.back();
            changeAll(x);
            return x.back();
        };
        EDGES.answers("40 twice", WholeEdgesTest::keptRich, twice, 1);
        EDGES.leaves("40 twice", WholeEdgesTest::keptRich, twice, WholeEdgesTest::keptRich);
    }

    /** 39: "All but THE TAPE and ROWS is kept": FLATS, LEASES, DAYS, LAWS, RULES and all the rest. */
    private static void allIsBack() {
        EDGES.changes("40 all is other", WholeEdgesTest::keptRich, WholeEdgesTest::changeAll);
        EDGES.leaves("40 all is back", WholeEdgesTest::keptRich, x -> {
            changeAll(x);
            return x.back();
        }, WholeEdgesTest::keptRich);
        EDGES.leaves("40 at once", WholeEdgesTest::keptRich, ShareHouse::back, WholeEdgesTest::keptRich);
        EDGES.leaves("40 back from a full house", x -> {
            x.keep();
            States.full(x);
        }, ShareHouse::back, x -> {
            x.keep();
            States.full(x);
            x.back();
        });
        ShareHouse y = Edges.made(States::rich);
        y.keep();
        for (int flat = 0; flat < 3; flat++) {
            Checks.lease(y, flat, "all pays nothing;all pays nothing;all pays nothing;");
        }
        EDGES.due("40 back", y.back(), 1);
        int[] kinds = {2, 1, 3};
        for (int flat = 0; flat < 3; flat++) {
            EDGES.due("6 a lease is back, " + flat, y.clause(flat, 0, 1), kinds[flat]);
            EDGES.due("6 no more than that, " + flat, y.clause(flat, 2, 1), ShareHouse.NUMBER);
        }
    }

    /** 39, 40: of a WORK its LETTERS and PRICES are back too. */
    private static void worksAreBack() {
        ShareHouse x = new ShareHouse();
        x.work(0, 500);
        x.letter(0);
        x.days(30);
        x.keep();
        x.letter(0);
        x.days(30);
        x.price(0, 500);
        x.price(0, 500);
        EDGES.due("25 in order", x.capped(0), 0);
        x.back();
        EDGES.due("25 one letter", x.capped(0), 1);
        EDGES.due("22 the second letter", x.letter(0), 2);
        x.days(30);
        EDGES.due("25 no prices", x.capped(0), 4);
        EDGES.due("23 the first price", x.price(0, 1), 1);
        x.price(0, 499);
        x.keep();
        x.price(0, 500);
        EDGES.due("25 the greatest price", x.capped(0), 0);
        x.back();
        EDGES.due("25 the greatest price is gone", x.capped(0), 5);
        x.done(0);
        x.back();
        EDGES.due("25 not done", x.capped(0), 5);
        EDGES.due("23 the third price", x.price(0, 2), 3);
    }

    /** 39: "All but THE TAPE and ROWS": what is on them stays as it is now. */
    private static void tapeAndRowsAreNotKept() {
        ShareHouse x = Edges.made(WholeEdgesTest::keptRich);
        x.feed(0x20, 1);
        x.worst(0);
        x.back();
        EDGES.due("38 the tape as now", x.many(10), 18);
        EDGES.due("38 the rows as now", x.many(9), 1);
        EDGES.due("36 told as now", x.check(), -1);
        x.lease(0);
        x.drop();
        x.back();
        EDGES.due("38 the tape stays empty", x.many(10), 0);
        EDGES.due("38 the rows stay dropped", x.many(9), 0);
        EDGES.due("36 fewer than told", x.check(), 0);
    }

    /** 40: where it was not full when it was kept there is room again, and new things begin as new ones do. */
    private static void roomIsBack() {
        Edges.State again = x -> {
            x.keep();
            States.full(x);
            x.lease(0);
            x.back();
        };
        EDGES.room("40 flats", again, 8, 0, x -> x.flat(0, 1, false));
        EDGES.room("40 costs", again, 20, 0, x -> x.cost(0, 0, 1));
        EDGES.room("40 payments", again, 20, 1, x -> x.pay(0, 1));
        EDGES.room("40 works", again, 6, 0, x -> x.work(0, 1));
        EDGES.room("40 likes", again, 16, 1, x -> x.like(0, 1));
        EDGES.room("40 pieces", again, 7, 0, x -> x.piece(2, 1, 0));
        ShareHouse x = Edges.made(again);
        x.flat(0, 1, false);
        x.work(0, 5);
        x.cost(0, 0, 3);
        EDGES.due("40 a lease of no clauses", x.clause(0, 0, 0), ShareHouse.NUMBER);
        EDGES.due("40 the landlord's", x.owner(0, 900), ShareHouse.NONE);
        EDGES.due("40 no letters", x.letter(0), 1);
        EDGES.due("40 no prices", x.price(0, 1), 1);
        EDGES.due("40 not put right", x.costOf(0, 6), 0);
        EDGES.due("40 the cost as it came", x.costOf(0, 2), 3);
    }

    /** The probes by which "changes nothing" is held fast do tell each kind of change. */
    private static void probesTellChanges() {
        Edges.State rich = States::richWithTape;
        EDGES.changes("flat", rich, x -> x.flat(0, 1, false));
        EDGES.changes("days", rich, x -> x.days(1));
        EDGES.changes("feed", rich, x -> x.feed(0x20, 1));
        EDGES.changes("lease", rich, x -> x.lease(0));
        EDGES.changes("law", rich, x -> x.law(5, 1));
        for (int i = 0; i < 6; i++) {
            int what = i;
            EDGES.changes("rule " + i, rich, x -> x.rule(what, 77));
        }
        EDGES.changes("cost", rich, x -> x.cost(0, 0, 0));
        EDGES.changes("right", rich, x -> x.right(0, 1));
        EDGES.changes("sell", rich, x -> x.sell(2, 0, 50));
        EDGES.changes("pay", rich, x -> x.pay(0, 1));
        EDGES.changes("work", rich, x -> x.work(0, 1));
        EDGES.changes("letter", rich, x -> x.letter(1));
        EDGES.changes("price", rich, x -> x.price(1, 1));
        EDGES.changes("done", rich, x -> x.done(1));
        EDGES.changes("like", rich, x -> x.like(5, 1));
        EDGES.changes("cut", rich, x -> x.cut(0));
        EDGES.changes("piece", rich, x -> x.piece(2, 1, 0));
        EDGES.changes("worst", rich, x -> x.worst(0));
        EDGES.changes("alter", rich, x -> x.alter(5, 2, 77));
        EDGES.changes("drop", rich, ShareHouse::drop);
        EDGES.changes("keep", rich, ShareHouse::keep);
        EDGES.changes("back", rich, ShareHouse::back);
    }

    /** Calls that only ask change nothing either. */
    private static void askingChangesNothing() {
        Edges.State rich = States::richWithTape;
        EDGES.changesNothing("6 clause", rich, x -> x.clause(2, 1, 2));
        EDGES.changesNothing("7 share", rich, x -> x.share(2, 1, 1));
        EDGES.changesNothing("8 sum", rich, x -> x.sum(1, 0));
        EDGES.changesNothing("13 costOf", rich, x -> x.costOf(3, 7));
        EDGES.changesNothing("14 part", rich, x -> x.part(3, 2, 50));
        EDGES.changesNothing("15 landlord", rich, x -> x.landlord(3, 50));
        EDGES.changesNothing("17 owner", rich, x -> x.owner(0, 50));
        EDGES.changesNothing("19 account", rich, x -> x.account(3, 50, 3));
        EDGES.changesNothing("20 asked", rich, x -> x.asked(0, 50));
        EDGES.changesNothing("25 capped", rich, x -> x.capped(0));
        EDGES.changesNothing("27 fair", rich, x -> x.fair(0));
        EDGES.changesNothing("30 level", rich, x -> x.level(7, 1));
        EDGES.changesNothing("31 left", rich, x -> x.left(7, 5, 29));
        EDGES.changesNothing("33 row", rich, x -> x.row(5, 1));
        EDGES.changesNothing("36 check", rich, ShareHouse::check);
        EDGES.changesNothing("37 buyers", rich, ShareHouse::buyers);
        EDGES.changesNothing("38 many", rich, x -> x.many(11));
    }

    /** "An object is used for at most 512 calls after it has been made": the 512th is answered as any. */
    private static void lastOfAllCalls() {
        ShareHouse x = new ShareHouse();
        EDGES.due("call 1", x.flat(0, 300, false), 0);
        for (int i = 2; i <= 509; i++) {
            EDGES.due("call " + i, x.law(i % 6, 1 + i % 2), i < 8 ? 0 : 1 + i % 2);
        }
        EDGES.due("call 510", x.keep(), 1);
        EDGES.due("call 511", x.back(), 1);
        EDGES.due("call 512", x.many(11), 300);
    }
}
