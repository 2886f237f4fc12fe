/** Each sentence on the house that names an edge: promises 1 to 9, and what the terms say of FLATS and DAYS. */
final class HouseEdgesTest {
    private static final Edges EDGES = new Edges();

    private HouseEdgesTest() {
    }

    public static void main(String[] args) {
        newObjectIsEmpty();
        newObjectRefuses();
        floorsAndAreas();
        eightFlats();
        aNewFlatHasNoClauses();
        daysGoBy();
        todayIsAtMost900();
        bytesAtOnce();
        lowestByteFirst();
        twoHundredBytes();
        clauseNumbers();
        twelfthClauseIsTheLast();
        clausesOfEachKind();
        shopOrNot();
        aboveAndBelowAreStrict();
        shareNumbers();
        shareIsCleared();
        lastClauseCounts();
        floorShareOfNoFloors();
        sumNumbers();
        sumOfNothing();
        sumOfEightAlike();
        lawNumbers();
        EDGES.end("HouseEdgesTest");
    }

    /** 1: "DAY 0; no FLATS; all is empty; nothing is kept." */
    private static void newObjectIsEmpty() {
        for (int i = 0; i < 12; i++) {
            int what = i;
            EDGES.answers("1 many(" + i + ") is 0", States::empty, x -> x.many(what), 0);
        }
        for (int i = 0; i < 6; i++) {
            int number = i;
            int first = new int[] {540, 250, 30, 20, 0, 0}[i];
            EDGES.answers("1 rule " + i + " at first", States::empty, x -> x.rule(number, 1), first);
            EDGES.answers("1 law of " + i + " at first", States::empty, x -> x.law(number, 1), 0);
            EDGES.answers("1 no likes of " + i, States::empty, x -> x.fair(number), ShareHouse.NONE);
        }
        for (int i = 0; i < 8; i++) {
            int owner = i;
            EDGES.answers("1 nobody owes, " + i, States::empty, x -> x.asked(owner, 0), i);
            for (int j = 0; j < 4; j++) {
                int what = j;
                EDGES.answers("1 account of " + i, States::empty, x -> x.account(owner, 0, what), 0);
            }
        }
        EDGES.answers("1 no pay is needed", States::empty, x -> x.level(0, 0), 0);
        EDGES.answers("1 no tape is a lease of nobody", States::empty, x -> x.lease(0), ShareHouse.NUMBER);
    }

    /** 1: what needs a thing that isn't there is refused by a new object, and it stays new. */
    private static void newObjectRefuses() {
        EDGES.refused("1 clause", States::empty, x -> x.clause(0, 0, 0), ShareHouse.NUMBER);
        EDGES.refused("1 share", States::empty, x -> x.share(0, 0, 0), ShareHouse.NUMBER);
        EDGES.refused("1 right", States::empty, x -> x.right(0, 0), ShareHouse.NUMBER);
        EDGES.refused("1 costOf", States::empty, x -> x.costOf(0, 0), ShareHouse.NUMBER);
        EDGES.refused("1 part", States::empty, x -> x.part(0, 0, 0), ShareHouse.NUMBER);
        EDGES.refused("1 landlord", States::empty, x -> x.landlord(0, 0), ShareHouse.NOTHING);
        EDGES.refused("1 sell", States::empty, x -> x.sell(0, 0, 0), ShareHouse.NUMBER);
        EDGES.refused("1 owner", States::empty, x -> x.owner(0, 0), ShareHouse.NUMBER);
        EDGES.refused("1 letter", States::empty, x -> x.letter(0), ShareHouse.NUMBER);
        EDGES.refused("1 price", States::empty, x -> x.price(0, 1), ShareHouse.NUMBER);
        EDGES.refused("1 done", States::empty, x -> x.done(0), ShareHouse.NUMBER);
        EDGES.refused("1 capped", States::empty, x -> x.capped(0), ShareHouse.NUMBER);
        EDGES.refused("1 cut", States::empty, x -> x.cut(0), ShareHouse.NUMBER);
        EDGES.refused("1 level", States::empty, x -> x.level(1, 0), ShareHouse.NUMBER);
        EDGES.refused("1 left", States::empty, x -> x.left(1, 0, 0), ShareHouse.NOTHING);
        EDGES.refused("1 row", States::empty, x -> x.row(0, 0), ShareHouse.NOTHING);
        EDGES.refused("1 alter", States::empty, x -> x.alter(0, 0, 0), ShareHouse.NOTHING);
        EDGES.refused("1 drop", States::empty, ShareHouse::drop, ShareHouse.NONE);
        EDGES.refused("1 check", States::empty, ShareHouse::check, ShareHouse.NONE);
        EDGES.refused("1 buyers", States::empty, ShareHouse::buyers, ShareHouse.NONE);
        EDGES.refused("1 back", States::empty, ShareHouse::back, ShareHouse.NONE);
    }

    /** 2: "a FLOOR (0 to 9), with an AREA (1 to 300)"; "NUMBER: a number isn't as told". */
    private static void floorsAndAreas() {
        EDGES.bounds("2 floor", States::richWithTape, 0, 9, (x, v) -> x.flat(v, 50, true), ShareHouse.NUMBER);
        EDGES.bounds("2 area", States::richWithTape, 1, 300, (x, v) -> x.flat(3, v, true), ShareHouse.NUMBER);
        ShareHouse x = new ShareHouse();
        x.flat(0, 1, false);
        EDGES.due("2 the least area", x.many(11), 1);
        x.flat(9, 300, false);
        EDGES.due("2 the greatest area", x.many(11), 301);
        Checks.lease(x, 0, "all pays floor;");
        Checks.lease(x, 1, "all pays floor;");
        EDGES.due("2 the least floor", x.share(0, 0, 0), 0);
        EDGES.due("2 the greatest floor", x.share(1, 0, 1), 1);
    }

    /** 2: "FLATS, numbered from 0 as they come, 8 at most"; FULL behind NUMBER. */
    private static void eightFlats() {
        EDGES.room("2 eight flats", States::empty, 8, 0, x -> x.flat(1, 2, false));
        EDGES.room("2 eight flats in a rich house", States::richWithTape, 5, 3, x -> x.flat(9, 300, true));
        EDGES.refused("2 full", States::full, x -> x.flat(0, 1, true), ShareHouse.FULL);
        EDGES.refused("2 full, and the floor is none", States::full, x -> x.flat(10, 1, true), ShareHouse.NUMBER);
        EDGES.refused("2 full, and the area is none", States::full, x -> x.flat(0, 0, true), ShareHouse.NUMBER);
    }

    /** 2: "A FLAT comes, with a LEASE of no CLAUSES". */
    private static void aNewFlatHasNoClauses() {
        ShareHouse x = Edges.made(States::rich);
        int flat = x.flat(4, 7, true);
        EDGES.due("2 no clause", x.clause(flat, 0, 0), ShareHouse.NUMBER);
        EDGES.due("2 pays nothing", x.share(flat, 0, 0), 0);
        EDGES.due("2 nothing is cleared", x.share(flat, 0, 1), 1);
        EDGES.due("2 the landlord's", x.owner(flat, 0), ShareHouse.NONE);
    }

    /** 3: "n DAYS (1 to 100) go by: TODAY. NUMBER: n isn't as told". */
    private static void daysGoBy() {
        EDGES.bounds("3 days", States::richWithTape, 1, 100, ShareHouse::days, ShareHouse.NUMBER);
        EDGES.answers("3 the least", States::rich, x -> x.days(1), 51);
        EDGES.answers("3 the most", States::rich, x -> x.days(100), 150);
    }

    /** 3: "STATE: it would be above 900"; NUMBER ahead of STATE. */
    private static void todayIsAtMost900() {
        Edges.State on800 = x -> States.pass(x, 800);
        Edges.State on801 = x -> States.pass(x, 801);
        Edges.State on899 = x -> States.pass(x, 899);
        Edges.State on900 = x -> States.pass(x, 900);
        EDGES.answers("3 from 800 by 100", on800, x -> x.days(100), 900);
        EDGES.refused("3 from 801 by 100", on801, x -> x.days(100), ShareHouse.STATE);
        EDGES.answers("3 from 801 by 99", on801, x -> x.days(99), 900);
        EDGES.answers("3 from 899 by 1", on899, x -> x.days(1), 900);
        EDGES.refused("3 from 899 by 2", on899, x -> x.days(2), ShareHouse.STATE);
        EDGES.refused("3 from 900 by 1", on900, x -> x.days(1), ShareHouse.STATE);
        EDGES.refused("3 from 900 by 0", on900, x -> x.days(0), ShareHouse.NUMBER);
        EDGES.refused("3 from 900 by 101", on900, x -> x.days(101), ShareHouse.NUMBER);
    }

    /** 4: "NUMBER: n isn't 1 to 8". */
    private static void bytesAtOnce() {
        EDGES.bounds("4 bytes", States::richWithTape, 1, 8, (x, v) -> x.feed(-1, v), ShareHouse.NUMBER);
        EDGES.answers("4 the least", States::empty, x -> x.feed(-1, 1), 1);
        EDGES.answers("4 the most", States::empty, x -> x.feed(-1, 8), 8);
        EDGES.refused("4 full, and n is 0", States::full, x -> x.feed(0x20, 0), ShareHouse.NUMBER);
        EDGES.refused("4 full, and n is 9", States::full, x -> x.feed(0x20, 9), ShareHouse.NUMBER);
    }

    /** 4: "The n lowest bytes of w, the lowest first". */
    private static void lowestByteFirst() {
        for (int n = 1; n <= 8; n++) {
            ShareHouse x = new ShareHouse();
            x.flat(0, 1, false);
            // blanks, and above them the highest of the n bytes: it stands at the last place
            long blanks = 0x2020202020202020L;
            long other = blanks & ~(255L << 8 * (n - 1)) | 0xffL << 8 * (n - 1);
            EDGES.due("4 " + n + " bytes", x.feed(other, n), n);
            EDGES.due("4 the last of " + n, x.lease(0), ShareHouse.FAULT - (n - 1));
            // the bytes above the n lowest stay away
            long above = n == 8 ? blanks : blanks | -1L << 8 * n;
            EDGES.due("4 " + n + " blanks", x.feed(above, n), n);
            EDGES.due("4 nothing but " + n + " blanks", x.lease(0), 0);
        }
    }

    /** 4: "THE TAPE takes bytes, 200 at most"; FULL takes none of the n. */
    private static void twoHundredBytes() {
        EDGES.room("4 by eights", States::rich, 25, 1, x -> {
            long many = x.feed(0x2020202020202020L, 8);
            return many < 0 ? many : many / 8;
        });
        Edges.State with193 = x -> {
            for (int i = 0; i < 24; i++) {
                x.feed(0x2020202020202020L, 8);
            }
            x.feed(0x20, 1);
        };
        EDGES.refused("4 eight behind 193", with193, x -> x.feed(0x2020202020202020L, 8), ShareHouse.FULL);
        EDGES.answers("4 seven behind 193", with193, x -> x.feed(0x2020202020202020L, 7), 200);
        EDGES.refused("4 one behind 200", States::full, x -> x.feed(0x20, 1), ShareHouse.FULL);
    }

    private static void twelve(ShareHouse x) {
        States.rich(x);
        Checks.lease(x, 1, "all pays area;".repeat(12));
        Checks.feed(x, "all");
    }

    /** 6: "NUMBER: there is no such FLAT, CLAUSE, what". */
    private static void clauseNumbers() {
        EDGES.bounds("6 flat", States::richWithTape, 0, 2, (x, v) -> x.clause(v, 0, 0), ShareHouse.NUMBER);
        EDGES.bounds("6 clause", States::richWithTape, 0, 1, (x, v) -> x.clause(1, v, 0), ShareHouse.NUMBER);
        EDGES.bounds("6 what", States::richWithTape, 0, 5, (x, v) -> x.clause(1, 1, v), ShareHouse.NUMBER);
        EDGES.bounds("6 the eighth flat", States::full, 0, 7, (x, v) -> x.clause(v, 0, 0), ShareHouse.NUMBER);
        Edges.State none = x -> x.flat(0, 1, false);
        EDGES.refused("6 a lease of none", none, x -> x.clause(0, 0, 0), ShareHouse.NUMBER);
    }

    /** 6: "12 CLAUSES at most". */
    private static void twelfthClauseIsTheLast() {
        EDGES.bounds("6 twelve", HouseEdgesTest::twelve, 0, 11, (x, v) -> x.clause(1, v, 1), ShareHouse.NUMBER);
        EDGES.answers("6 the twelfth", HouseEdgesTest::twelve, x -> x.clause(1, 11, 1), 2);
    }

    /** 6: "2 N, 3 M (NONE of others, both), 4 how many ONES it has, 5 1 if it is for the FLAT, else 0". */
    private static void clausesOfEachKind() {
        ShareHouse x = new ShareHouse();
        x.flat(4, 1, false);
        Checks.lease(x, 0, "roof pays 2 of 3 if shop and above 3 and below 5;roof and agent pays nothing;all pays equal;"
                + "lift and lamps pays area if not shop;water pays floor if shop;fire pays 0 of 24;");
        int[][] want = {{1, 4, 2, 3, 3, 0}, {33, 0, -3, -3, 0, 1}, {63, 1, -3, -3, 0, 1}, {6, 2, -3, -3, 1, 1},
            {8, 3, -3, -3, 1, 0}, {16, 4, 0, 24, 0, 1}};
        for (int i = 0; i < 36; i++) {
            EDGES.due("6 clause(0, " + i / 6 + ", " + i % 6 + ")", x.clause(0, i / 6, i % 6), want[i / 6][i % 6]);
        }
        // what an earlier lease had at the same place is gone
        Checks.lease(x, 0, "all pays area;all pays 1 of 2;");
        for (int i = 0; i < 6; i++) {
            EDGES.due("6 anew, " + i, x.clause(0, 0, i), new int[] {63, 2, -3, -3, 0, 1}[i]);
        }
    }

    /** Terms: "a SHOP or not"; "shop: it has one". */
    private static void shopOrNot() {
        for (boolean shop : new boolean[] {true, false}) {
            ShareHouse x = new ShareHouse();
            x.flat(0, 1, !shop);
            x.flat(0, 1, shop);
            Checks.lease(x, 1, "roof pays 1 of 2 if shop;lift pays 1 of 2 if not shop;");
            EDGES.due("6 shop is " + shop, x.clause(1, 0, 5), shop ? 1 : 0);
            EDGES.due("6 not shop is " + !shop, x.clause(1, 1, 5), shop ? 0 : 1);
            EDGES.due("7 shop " + shop, x.share(1, 0, 0), shop ? 1 : 0);
            EDGES.due("7 not shop " + !shop, x.share(1, 1, 0), shop ? 0 : 1);
        }
    }

    /** Terms: "above F, below F: its FLOOR is more, or less", F from 0 to 9, FLOOR from 0 to 9. */
    private static void aboveAndBelowAreStrict() {
        int[] floors = {0, 1, 8, 9};
        for (int floor : floors) {
            for (int f : floors) {
                holds(floor, "above " + f, floor > f);
                holds(floor, "below " + f, floor < f);
                holds(floor, "not above " + f, floor <= f);
                holds(floor, "not below " + f, floor >= f);
            }
        }
    }

    private static void holds(int floor, String condition, boolean want) {
        ShareHouse x = new ShareHouse();
        x.flat(floor, 1, false);
        Checks.lease(x, 0, "fire pays 1 of 1 if " + condition + ";");
        EDGES.due("floor " + floor + ", " + condition, x.clause(0, 0, 5), want ? 1 : 0);
        EDGES.due("floor " + floor + ", " + condition + ": share", x.share(0, 4, 0), want ? 1 : 0);
    }

    /** 7: "NUMBER: there is no such FLAT, HEAD, what". */
    private static void shareNumbers() {
        EDGES.bounds("7 flat", States::richWithTape, 0, 2, (x, v) -> x.share(v, 0, 0), ShareHouse.NUMBER);
        EDGES.bounds("7 head", States::richWithTape, 0, 5, (x, v) -> x.share(0, v, 0), ShareHouse.NUMBER);
        EDGES.bounds("7 what", States::richWithTape, 0, 1, (x, v) -> x.share(0, 0, v), ShareHouse.NUMBER);
        EDGES.bounds("7 the eighth flat", States::full, 0, 7, (x, v) -> x.share(v, 5, 1), ShareHouse.NUMBER);
    }

    private static void fraction(String text, int above, int below) {
        ShareHouse x = new ShareHouse();
        x.flat(0, 10, false);
        x.flat(6, 30, false);
        Checks.lease(x, 1, text);
        EDGES.due("7 " + text + " above", x.share(1, 5, 0), above);
        EDGES.due("7 " + text + " below", x.share(1, 5, 1), below);
    }

    /** 7: "what = 0 above, 1 below the line, cleared (0 / 1 if it is 0)". */
    private static void shareIsCleared() {
        fraction("all pays 0 of 24;", 0, 1);
        fraction("all pays 0 of 1;", 0, 1);
        fraction("all pays 24 of 24;", 1, 1);
        fraction("all pays 1 of 24;", 1, 24);
        fraction("all pays 23 of 24;", 23, 24);
        fraction("all pays 16 of 24;", 2, 3);
        fraction("all pays nothing;", 0, 1);
        fraction("all pays equal;", 1, 2);
        fraction("all pays area;", 3, 4);
        fraction("all pays floor;", 1, 1);
        fraction("", 0, 1);
    }

    /** Terms: "by the last CLAUSE of its LEASE that is for it and has that HEAD (nothing without such)". */
    private static void lastClauseCounts() {
        fraction("agent pays 1 of 2;agent pays 1 of 3;", 1, 3);
        fraction("agent pays 1 of 2;roof pays 1 of 3;", 1, 2);
        fraction("agent pays 1 of 2;agent pays 1 of 3 if shop;", 1, 2);
        fraction("agent pays 1 of 2;agent pays nothing;", 0, 1);
        fraction("agent pays 1 of 2 if shop;", 0, 1);
        fraction("roof and lift and lamps and water and fire pays 1 of 2;", 0, 1);
        fraction("all pays area;".repeat(11) + "agent pays 5 of 7;", 5, 7);
    }

    /** Terms: "floor its FLOOR by all FLOORS together (0, if these are 0)". */
    private static void floorShareOfNoFloors() {
        ShareHouse x = new ShareHouse();
        x.flat(0, 10, false);
        x.flat(0, 30, false);
        Checks.lease(x, 1, "all pays floor;");
        EDGES.due("7 no floors, above", x.share(1, 0, 0), 0);
        EDGES.due("7 no floors, below", x.share(1, 0, 1), 1);
        EDGES.due("8 no floors", x.sum(0, 0), 0);
        x.flat(1, 5, false);
        EDGES.due("7 another's floor, above", x.share(1, 0, 0), 0);
        Checks.lease(x, 2, "all pays floor;");
        EDGES.due("7 the only floor, above", x.share(2, 0, 0), 1);
        EDGES.due("7 the only floor, below", x.share(2, 0, 1), 1);
    }

    /** 8: "NOTHING: there is no such HEAD, what". */
    private static void sumNumbers() {
        EDGES.bounds("8 head", States::richWithTape, 0, 5, (x, v) -> x.sum(v, 0), ShareHouse.NOTHING);
        EDGES.bounds("8 what", States::richWithTape, 0, 1, (x, v) -> x.sum(0, v), ShareHouse.NOTHING);
    }

    /** 8: "SUM of a HEAD likewise": cleared, 0 / 1 if it is 0; 8 at most, where all FLATS pay all. */
    private static void sumOfNothing() {
        EDGES.answers("8 no flats, above", States::empty, x -> x.sum(5, 0), 0);
        EDGES.answers("8 no flats, below", States::empty, x -> x.sum(5, 1), 1);
        ShareHouse x = new ShareHouse();
        for (int i = 0; i < 8; i++) {
            x.flat(i, 300, true);
            Checks.lease(x, i, "all pays 1 of 1;lift pays equal;water pays 1 of 24;");
        }
        EDGES.due("8 all pay all, above", x.sum(0, 0), 8);
        EDGES.due("8 all pay all, below", x.sum(0, 1), 1);
        EDGES.due("8 equal, above", x.sum(1, 0), 1);
        EDGES.due("8 equal, below", x.sum(1, 1), 1);
        EDGES.due("8 cleared, above", x.sum(3, 0), 1);
        EDGES.due("8 cleared, below", x.sum(3, 1), 3);
    }

    /** 8: eight SHARES by the greatest numbers are 1 together, to the last bit. */
    private static void sumOfEightAlike() {
        ShareHouse x = new ShareHouse();
        for (int i = 0; i < 8; i++) {
            x.flat(i == 0 ? 8 : 9, i == 0 ? 299 : 300, false);
            Checks.lease(x, i, "all pays area;lift pays floor;lamps pays 1 of 23;water pays equal;");
        }
        int[] above = {1, 1, 8, 1};
        int[] below = {1, 1, 23, 1};
        for (int head = 0; head < 4; head++) {
            EDGES.due("8 eight alike, above, " + head, x.sum(head, 0), above[head]);
            EDGES.due("8 eight alike, below, " + head, x.sum(head, 1), below[head]);
        }
        EDGES.due("7 the greatest area below", x.share(7, 0, 1), 2399);
        EDGES.due("7 the greatest floor below", x.share(7, 1, 1), 71);
        x.cost(0, 0, 99999);
        // its rest is the greatest, so the penny that is left goes to it
        EDGES.due("14 by the greatest areas, the least", x.part(0, 0, 0), 99999 * 299 / 2399 + 1);
        EDGES.due("14 by the greatest areas, the others", x.part(0, 7, 0), 99999 * 300 / 2399);
        EDGES.due("15 nothing is left", x.landlord(0, 0), 0);
    }

    /** 9: "NUMBER: there is no such HEAD, or v isn't 0 to 2"; "what it was". */
    private static void lawNumbers() {
        EDGES.bounds("9 head", States::richWithTape, 0, 5, (x, v) -> x.law(v, 0), ShareHouse.NUMBER);
        EDGES.bounds("9 law", States::richWithTape, 0, 2, (x, v) -> x.law(1, v), ShareHouse.NUMBER);
        ShareHouse x = new ShareHouse();
        EDGES.due("9 at first", x.law(5, 2), 0);
        EDGES.due("9 the greatest", x.law(5, 0), 2);
        EDGES.due("9 the least", x.law(5, 1), 0);
        EDGES.due("9 of another head", x.law(4, 1), 0);
    }
}
