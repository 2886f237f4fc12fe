/** Promises 1 to 9: the house, its leases and shares. */
final class HouseTest {
    private static final Checks CHECKS = new Checks();

    private HouseTest() {
    }

    public static void main(String[] args) {
        newObject();
        flats();
        days();
        tape();
        leaseTexts();
        faults();
        clauseLimit();
        leaseEmptiesTape();
        clauses();
        conditions();
        shares();
        sums();
        laws();
        CHECKS.end("HouseTest");
    }

    private static void due(String call, long got, long want) {
        CHECKS.due(call, got, want);
    }

    private static void newObject() {
        ShareHouse x = new ShareHouse();
        for (int what = 0; what <= 11; what++) {
            due("new many(" + what + ")", x.many(what), 0);
        }
        due("new back()", x.back(), -3);
        due("new check()", x.check(), -3);
        due("new drop()", x.drop(), -3);
        due("new row(0, 0)", x.row(0, 0), -1000000000);
        int[] first = {540, 250, 30, 20, 0, 0};
        for (int what = 0; what < 6; what++) {
            due("new rule(" + what + ")", x.rule(what, 0), first[what]);
        }
        for (int head = 0; head < 6; head++) {
            due("new law(" + head + ")", x.law(head, 1), 0);
            due("new sum(" + head + ", 0)", x.sum(head, 0), 0);
            due("new sum(" + head + ", 1)", x.sum(head, 1), 1);
        }
    }

    private static void flats() {
        ShareHouse x = new ShareHouse();
        due("floor -1", x.flat(-1, 5, true), -1);
        due("floor 10", x.flat(10, 5, true), -1);
        due("area 0", x.flat(0, 0, true), -1);
        due("area 301", x.flat(0, 301, true), -1);
        due("wild", x.flat(Integer.MIN_VALUE, Integer.MAX_VALUE, true), -1);
        due("many(1) after refusals", x.many(1), 0);
        for (int i = 0; i < 8; i++) {
            due("flat " + i, x.flat(i == 0 ? 0 : 9, i == 0 ? 1 : 300, i % 2 == 0), i);
        }
        due("ninth", x.flat(0, 1, false), -2);
        due("ninth, wrong number", x.flat(0, 0, false), -1);
        due("many(1)", x.many(1), 8);
        due("many(11)", x.many(11), 2101);
        due("clause of a new flat", x.clause(0, 0, 0), -1);
        due("share of a new flat", x.share(0, 0, 0), 0);
    }

    private static void days() {
        ShareHouse x = new ShareHouse();
        due("days(0)", x.days(0), -1);
        due("days(-5)", x.days(-5), -1);
        due("days(101)", x.days(101), -1);
        due("days(max)", x.days(Integer.MAX_VALUE), -1);
        due("days(1)", x.days(1), 1);
        for (int i = 1; i <= 8; i++) {
            due("days(100)", x.days(100), 1 + 100 * i);
        }
        due("days(100) to 901", x.days(100), -4);
        due("days(101) at 801", x.days(101), -1);
        due("many(0)", x.many(0), 801);
        due("days(99)", x.days(99), 900);
        due("days(1) at 900", x.days(1), -4);
    }

    private static void tape() {
        ShareHouse x = new ShareHouse();
        due("feed n 0", x.feed(1, 0), -1);
        due("feed n 9", x.feed(1, 9), -1);
        due("feed n -1", x.feed(1, -1), -1);
        for (int i = 1; i <= 24; i++) {
            due("feed 8", x.feed(0x2020202020202020L, 8), 8 * i);
        }
        due("feed 7", x.feed(0x2020202020202020L, 7), 199);
        due("feed 2 over", x.feed(0x2020L, 2), -2);
        due("feed n 9 over", x.feed(0x2020L, 9), -1);
        due("many(10)", x.many(10), 199);
        due("feed 1", x.feed(0x20, 1), 200);
        due("feed 1 over", x.feed(0x20, 1), -2);
        x.flat(0, 1, false);
        due("blanks", x.lease(0), 0);
        due("many(10) after", x.many(10), 0);
        // the lowest byte comes first, bytes above n stay away
        due("feed 'ro'", x.feed(0x7878786f72L, 2), 2);
        due("feed 'of'", x.feed(0x666fL, 2), 4);
        Checks.feed(x, " pays 1 of 3;");
        due("lease", x.lease(0), 1);
        due("heads", x.clause(0, 0, 0), 1);
        // the eighth byte is the one with the sign
        due("feed top byte", x.feed(0xff20202020202020L, 8), 8);
        due("lease with byte 255", x.lease(0), -107);
    }

    private static void leaseTexts() {
        text("", 0);
        text("   ", 0);
        text("all pays nothing;", 1);
        text("  all   pays  nothing  ;  ", 1);
        text("roof pays 1of2if above3and below9;", 1);
        text("roof pays 001 of 024 if above 009;", 1);
        text("roof pays 0 of 1;lift pays 24 of 24;", 2);
        text("fire and agent and water and lamps and lift and roof and roof pays floor;", 1);
        text("all pays area if not shop and not above 0 and not below 9;", 1);
    }

    private static void faults() {
        text(";", -100);
        text("  ;", -102);
        text("all", -103);
        text("all ", -104);
        text("all;", -103);
        text("allpays area;", -100);
        text("all and roof pays area;", -104);
        text("roof roof pays area;", -105);
        text("roof and all pays area;", -109);
        text("roof and", -108);
        text("roof pays roof;", -110);
        text("roof pays area", -114);
        text("roof pays area.", -114);
        text("roof pays area;;", -115);
        text("roof pays area area;", -115);
        text("roof pays area and lift pays area;", -115);
        text("roof pays -1 of 2;", -110);
        text("roof pays 1;", -111);
        text("roof pays 1 of;", -114);
        text("roof pays 1 of area;", -115);
        text("roof pays 1 on 2;", -112);
        text("roof pays 1 2;", -112);
        text("roof pays 25 of 30;", -110);
        text("roof pays 1 of 25;", -115);
        text("roof pays 0 of 0;", -115);
        text("roof pays 7 of 6;", -115);
        text("roof pays 0001 of 2;", -110);
        text("roof pays 1 of 0002;", -115);
        text("roof pays 99999999999 of 2;", -110);
        text("roof pays area if", -117);
        text("roof pays area if;", -117);
        text("roof pays area if and", -118);
        text("roof pays area if not not shop;", -122);
        text("roof pays area if (shop);", -118);
        text("roof pays area if above;", -123);
        text("roof pays area if above shop;", -124);
        text("roof pays area if below 10;", -124);
        text("roof pays area if below 0000;", -124);
        text("roof pays area if shop shop;", -123);
        text("roof pays area if shop and;", -126);
        text("roof pays area if shop if shop;", -123);
        text("roof\tpays area;", -104);
        text("roof pays area\n;", -114);
        text("roof pays Area;", -110);
        text("roof pays areA;", -110);
        text("roof pays areaA;", -114);
        text("roof pays " + (char) 233 + ";", -110);
        text("roof" + (char) 0 + "pays area;", -104);
        text("soof pays area;", -100);
        text("rooff pays area;", -100);
        text("roo pays area;", -100);
        text("1 pays area;", -100);
        text("pays area;", -100);
        text("floor pays area;", -100);
        text("`all pays area;", -100);
        text("{all pays area;", -100);
        text("all pays /1 of 2;", -109);
        text("all pays 1: of 2;", -110);
    }

    private static void text(String text, int want) {
        ShareHouse x = new ShareHouse();
        x.flat(3, 10, false);
        due("first lease", Checks.lease(x, 0, "water pays 2 of 4;"), 1);
        due("lease '" + text + "'", Checks.lease(x, 0, text), want);
        due("tape after '" + text + "'", x.many(10), 0);
        if (want < 0) {
            due("the lease stays", x.clause(0, 0, 0), 8);
            due("the lease stays, N", x.clause(0, 0, 2), 2);
            due("the lease stays, one clause", x.clause(0, 1, 0), -1);
        }
    }

    private static void clauseLimit() {
        StringBuilder twelve = new StringBuilder();
        for (int i = 0; i < 12; i++) {
            twelve.append("all pays area;");
        }
        text(twelve.toString(), 12);
        text(twelve + "  ", 12);
        text(twelve + " roof pays area;", -169 - 100);
        text(twelve + "7", -168 - 100);
        text(twelve + ";", -168 - 100);
        text(twelve + " zzz", -169 - 100);
        ShareHouse x = new ShareHouse();
        x.flat(3, 10, false);
        due("twelve", Checks.lease(x, 0, twelve.toString()), 12);
        due("clause 11", x.clause(0, 11, 1), 2);
        due("clause 12", x.clause(0, 12, 1), -1);
        due("none again", x.lease(0), 0);
        due("clause 0", x.clause(0, 0, 1), -1);
    }

    private static void leaseEmptiesTape() {
        ShareHouse x = new ShareHouse();
        x.flat(0, 10, false);
        Checks.feed(x, "all pays area;");
        due("lease(1)", x.lease(1), -1);
        due("tape", x.many(10), 0);
        Checks.feed(x, "all pays area;");
        due("lease(-1)", x.lease(-1), -1);
        due("tape", x.many(10), 0);
        due("lease(0)", x.lease(0), 0);
    }

    private static void clauses() {
        ShareHouse x = new ShareHouse();
        x.flat(2, 10, true);
        due("lease", Checks.lease(x, 0, "lamps and agent pays 4 of 8 if shop and above 1 and below 3;"
                + "all pays nothing;water pays equal if above 2;fire pays area;lift pays floor;roof pays 0 of 24;"), 6);
        int[][] want = {{36, 4, 4, 8, 3, 1}, {63, 0, -3, -3, 0, 1}, {8, 1, -3, -3, 1, 0}, {16, 2, -3, -3, 0, 1},
            {2, 3, -3, -3, 0, 1}, {1, 4, 0, 24, 0, 1}};
        for (int i = 0; i < 6; i++) {
            for (int what = 0; what < 6; what++) {
                due("clause(0, " + i + ", " + what + ")", x.clause(0, i, what), want[i][what]);
            }
        }
        due("clause -1", x.clause(0, -1, 0), -1);
        due("clause 6", x.clause(0, 6, 0), -1);
        due("what -1", x.clause(0, 0, -1), -1);
        due("what 6", x.clause(0, 0, 6), -1);
        due("flat 1", x.clause(1, 0, 0), -1);
        due("flat -1", x.clause(-1, 0, 0), -1);
        due("wild", x.clause(0, Integer.MAX_VALUE, Integer.MIN_VALUE), -1);
        StringBuilder ones = new StringBuilder("all pays area if shop");
        for (int i = 0; i < 19; i++) {
            ones.append(" and shop");
        }
        due("twenty ones", Checks.lease(x, 0, ones + ";"), 1);
        due("how many", x.clause(0, 0, 4), 20);
        due("none", Checks.lease(x, 0, "all pays area;"), 1);
        due("how many", x.clause(0, 0, 4), 0);
        due("always", x.clause(0, 0, 5), 1);
    }

    private static void conditions() {
        for (int floor = 0; floor <= 9; floor++) {
            for (int f = 0; f <= 9; f++) {
                holds(floor, false, "above " + f, floor > f);
                holds(floor, false, "below " + f, floor < f);
                holds(floor, true, "not above " + f, floor <= f);
                holds(floor, true, "not below " + f, floor >= f);
            }
        }
        holds(0, true, "shop", true);
        holds(0, false, "shop", false);
        holds(0, true, "not shop", false);
        holds(0, false, "not shop", true);
        holds(5, true, "shop and above 4 and below 6", true);
        holds(5, false, "shop and above 4 and below 6", false);
        holds(4, true, "shop and above 4 and below 6", false);
        holds(6, true, "shop and above 4 and below 6", false);
        holds(6, true, "not shop and above 4", false);
        holds(6, false, "above 6 and not shop", false);
    }

    private static void holds(int floor, boolean shop, String condition, boolean want) {
        ShareHouse x = new ShareHouse();
        x.flat(floor, 10, shop);
        due(condition, Checks.lease(x, 0, "roof pays 1 of 2 if " + condition + ";"), 1);
        due(condition + " on " + floor + " " + shop, x.clause(0, 0, 5), want ? 1 : 0);
        due(condition + " share", x.share(0, 0, 0), want ? 1 : 0);
        due(condition + " share", x.share(0, 0, 1), want ? 2 : 1);
    }

    private static void shares() {
        ShareHouse x = new ShareHouse();
        x.flat(0, 60, false);
        due("lease", Checks.lease(x, 0, "roof pays equal;lift pays floor;lamps pays area;water pays 6 of 9;"
                + "fire pays 0 of 7;"), 5);
        fraction(x, 0, 0, 1, 1);
        fraction(x, 0, 1, 0, 1);
        fraction(x, 0, 2, 1, 1);
        fraction(x, 0, 3, 2, 3);
        fraction(x, 0, 4, 0, 1);
        fraction(x, 0, 5, 0, 1);
        x.flat(6, 40, false);
        x.flat(3, 20, false);
        due("lease", Checks.lease(x, 1, "all pays floor;"), 1);
        fraction(x, 0, 0, 1, 3);
        fraction(x, 0, 1, 0, 1);
        fraction(x, 0, 2, 1, 2);
        fraction(x, 1, 3, 2, 3);
        fraction(x, 2, 3, 0, 1);
        due("last clause wins", Checks.lease(x, 2, "all pays area;roof pays 1 of 5;roof pays 1 of 6 if shop;"), 3);
        fraction(x, 2, 0, 1, 5);
        fraction(x, 2, 5, 1, 6);
        due("flat 3", x.share(3, 0, 0), -1);
        due("flat -1", x.share(-1, 0, 0), -1);
        due("head 6", x.share(0, 6, 0), -1);
        due("head -1", x.share(0, -1, 0), -1);
        due("what 2", x.share(0, 0, 2), -1);
        due("what -1", x.share(0, 0, -1), -1);
    }

    private static void fraction(ShareHouse x, int flat, int head, int above, int below) {
        due("share(" + flat + ", " + head + ", 0)", x.share(flat, head, 0), above);
        due("share(" + flat + ", " + head + ", 1)", x.share(flat, head, 1), below);
    }

    private static void sums() {
        ShareHouse x = new ShareHouse();
        int[] areas = {300, 300, 300, 300, 300, 300, 300, 299};
        for (int i = 0; i < 8; i++) {
            x.flat(i == 0 ? 8 : 9, areas[i], false);
        }
        String[] texts = {"all pays 22 of 23;", "all pays 21 of 22;", "all pays 20 of 21;", "all pays 18 of 19;",
            "all pays 16 of 17;", "all pays 12 of 13;", "all pays floor;", "all pays area;"};
        for (int i = 0; i < 8; i++) {
            Checks.lease(x, i, texts[i]);
        }
        // the greatest bottom there is: 23 * 22 * 21 * 19 * 17 * 13 * 71 * 2399
        long below = 23L * 22 * 21 * 19 * 17 * 13 * 71 * 2399;
        long above = below / 23 * 22 + below / 22 * 21 + below / 21 * 20 + below / 19 * 18 + below / 17 * 16
                + below / 13 * 12 + below / 71 * 9 + below / 2399 * 299;
        due("sum above", x.sum(0, 0), above);
        due("sum below", x.sum(0, 1), below);
        due("sum(-1, 0)", x.sum(-1, 0), -1000000000L);
        due("sum(6, 0)", x.sum(6, 0), -1000000000L);
        due("sum(0, 2)", x.sum(0, 2), -1000000000L);
        due("sum(0, -1)", x.sum(0, -1), -1000000000L);
        ShareHouse y = new ShareHouse();
        y.flat(0, 10, false);
        y.flat(0, 10, false);
        due("no shares, above", y.sum(3, 0), 0);
        due("no shares, below", y.sum(3, 1), 1);
        Checks.lease(y, 0, "all pays 1 of 6;");
        Checks.lease(y, 1, "all pays 1 of 3;");
        due("1/6 + 1/3 above", y.sum(3, 0), 1);
        due("1/6 + 1/3 below", y.sum(3, 1), 2);
    }

    private static void laws() {
        ShareHouse x = new ShareHouse();
        due("law(0, 2)", x.law(0, 2), 0);
        due("law(0, 1)", x.law(0, 1), 2);
        due("law(5, 1)", x.law(5, 1), 0);
        due("law(0, 3)", x.law(0, 3), -1);
        due("law(0, -1)", x.law(0, -1), -1);
        due("law(6, 0)", x.law(6, 0), -1);
        due("law(-1, 0)", x.law(-1, 0), -1);
        due("law(0, 0)", x.law(0, 0), 1);
    }
}
