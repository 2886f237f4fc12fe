/** Each sentence on costs that names an edge: promises 10 to 15, and what the terms say of COSTS and PARTS. */
final class CostsEdgesTest {
    private static final Edges EDGES = new Edges();

    private CostsEdgesTest() {
    }

    public static void main(String[] args) {
        ruleNumbers();
        ruleTellsWhatItWas();
        limitAtFirst();
        limitLeastAndMost();
        limitIsFromTheDayOfTheCost();
        costNumbers();
        costDays();
        twentyCosts();
        costIsKeptAsItCame();
        rightNumbers();
        thirtyTimes();
        cutsCountToo();
        orderOfRightRefusals();
        knownFromThatDayOn();
        costOfNumbers();
        levelOfCost();
        partNumbers();
        partIsNoneUntilKnown();
        landlordNumbers();
        capAtFirst();
        capLeastAndMost();
        capIsBehindTheGivenOutPence();
        penceGoToTheLeast();
        sumsAroundOne();
        sumOfNothing();
        greatestGain();
        EDGES.end("CostsEdgesTest");
    }

    /** 10: "NUMBER: there is no such what, or v isn't as told". */
    private static void ruleNumbers() {
        int[] most = {900, 9999, 90, 99, 99999, 9999};
        String[] names = {"LIMIT", "CAP", "GRACE", "RATE", "FUND", "FLOOR"};
        EDGES.bounds("10 what", States::richWithTape, 0, 5, (x, v) -> x.rule(v, 1), ShareHouse.NUMBER);
        for (int i = 0; i < 6; i++) {
            int what = i;
            EDGES.bounds("10 " + names[i], States::richWithTape, 0, most[i], (x, v) -> x.rule(what, v),
                    ShareHouse.NUMBER);
        }
    }

    /** 10: "is v: what it was"; at first 540, 250, 30, 20, 0, 0. */
    private static void ruleTellsWhatItWas() {
        int[] first = {540, 250, 30, 20, 0, 0};
        int[] most = {900, 9999, 90, 99, 99999, 9999};
        ShareHouse x = new ShareHouse();
        for (int i = 0; i < 6; i++) {
            EDGES.due("10 at first, " + i, x.rule(i, most[i]), first[i]);
        }
        for (int i = 0; i < 6; i++) {
            EDGES.due("10 the most, " + i, x.rule(i, 0), most[i]);
        }
        for (int i = 0; i < 6; i++) {
            EDGES.due("10 the least, " + i, x.rule(i, 0), 0);
        }
    }

    private static Edges.State costOfDay(int day, int today) {
        return x -> {
            States.pass(x, today);
            x.cost(0, day, 5);
        };
    }

    private static Edges.State withLimit(int limit, Edges.State state) {
        return x -> {
            x.rule(0, limit);
            state.build(x);
        };
    }

    /** Terms: "if that isn't more than LIMIT (.. 540 at first) behind its DAY". */
    private static void limitAtFirst() {
        EDGES.answers("12 540 behind", costOfDay(0, 540), x -> x.right(0, 6), 5);
        EDGES.refused("12 541 behind", costOfDay(0, 541), x -> x.right(0, 6), ShareHouse.LATE);
        EDGES.answers("12 540 behind 360", costOfDay(360, 900), x -> x.right(0, 6), 5);
        EDGES.refused("12 541 behind 359", costOfDay(359, 900), x -> x.right(0, 6), ShareHouse.LATE);
    }

    /** Terms: "LIMIT (0 to 900)". */
    private static void limitLeastAndMost() {
        EDGES.answers("12 limit 0, its day", withLimit(0, costOfDay(7, 7)), x -> x.right(0, 6), 5);
        EDGES.refused("12 limit 0, a day behind", withLimit(0, costOfDay(6, 7)), x -> x.right(0, 6), ShareHouse.LATE);
        EDGES.answers("12 limit 900", withLimit(900, costOfDay(0, 900)), x -> x.right(0, 6), 5);
        EDGES.refused("12 limit 899", withLimit(899, costOfDay(0, 900)), x -> x.right(0, 6), ShareHouse.LATE);
    }

    /** Terms: LIMIT is "behind its DAY", not behind the DAY from which it is KNOWN. */
    private static void limitIsFromTheDayOfTheCost() {
        EDGES.refused("12 late when it comes", withLimit(19, costOfDay(0, 20)), x -> x.right(0, 6), ShareHouse.LATE);
        EDGES.answers("12 not late when it comes", withLimit(20, costOfDay(0, 20)), x -> x.right(0, 6), 5);
        EDGES.refused("12 late a day later", x -> {
            withLimit(20, costOfDay(0, 20)).build(x);
            x.days(1);
        }, x -> x.right(0, 6), ShareHouse.LATE);
    }

    /** 11: "NUMBER: there is no such HEAD, DAY, or pence aren't as told". */
    private static void costNumbers() {
        EDGES.bounds("11 head", States::richWithTape, 0, 5, (x, v) -> x.cost(v, 0, 1), ShareHouse.NUMBER);
        EDGES.bounds("11 day", States::richWithTape, 0, 50, (x, v) -> x.cost(0, v, 1), ShareHouse.NUMBER);
        EDGES.bounds("11 pence", States::richWithTape, 0, 99999, (x, v) -> x.cost(0, 0, v), ShareHouse.NUMBER);
    }

    /** Terms: "on a DAY (0 to TODAY)". */
    private static void costDays() {
        EDGES.bounds("11 today 0", States::empty, 0, 0, (x, v) -> x.cost(0, v, 1), ShareHouse.NUMBER);
        EDGES.bounds("11 today 900", x -> States.pass(x, 900), 0, 900, (x, v) -> x.cost(0, v, 1), ShareHouse.NUMBER);
    }

    /** Terms: "COSTS are numbered from 0 as they come, 20 at most"; FULL behind NUMBER. */
    private static void twentyCosts() {
        EDGES.room("11 twenty costs", States::empty, 20, 0, x -> x.cost(5, 0, 99999));
        EDGES.room("11 twenty costs in a rich house", States::richWithTape, 16, 4, x -> x.cost(0, 50, 0));
        EDGES.refused("11 full", States::full, x -> x.cost(0, 0, 0), ShareHouse.FULL);
        EDGES.refused("11 full, no head", States::full, x -> x.cost(6, 0, 0), ShareHouse.NUMBER);
        EDGES.refused("11 full, no day", States::full, x -> x.cost(0, 51, 0), ShareHouse.NUMBER);
        EDGES.refused("11 full, no pence", States::full, x -> x.cost(0, 0, 100000), ShareHouse.NUMBER);
    }

    /** 11, 13: the least and the greatest numbers of a COST are those that are answered. */
    private static void costIsKeptAsItCame() {
        ShareHouse x = new ShareHouse();
        States.pass(x, 900);
        x.cost(0, 0, 0);
        x.cost(5, 900, 99999);
        int[][] want = {{0, 0, 0, 0, 900, 0, 0}, {5, 900, 99999, 99999, 900, 0, 0}};
        for (int cost = 0; cost < 2; cost++) {
            for (int what = 0; what < 7; what++) {
                EDGES.due("13 costOf(" + cost + ", " + what + ")", x.costOf(cost, what), want[cost][what]);
            }
        }
    }

    /** 12: "NUMBER: there is no such COST, or pence aren't as told". */
    private static void rightNumbers() {
        EDGES.bounds("12 cost", States::richWithTape, 0, 3, (x, v) -> x.right(v, 1), ShareHouse.NUMBER);
        EDGES.bounds("12 pence", States::richWithTape, 0, 99999, (x, v) -> x.right(0, v), ShareHouse.NUMBER);
        Edges.State noRights = x -> {
            for (int i = 0; i < 20; i++) {
                x.cost(0, 0, i);
            }
        };
        EDGES.bounds("12 the twentieth", noRights, 0, 19, (x, v) -> x.right(v, 1), ShareHouse.NUMBER);
    }

    private static long oneRightMore(ShareHouse x, int cost) {
        int answer = x.right(cost, 5);
        return answer < 0 ? answer : x.many(3);
    }

    /** Terms: "30 times in all": of one COST or of several. */
    private static void thirtyTimes() {
        EDGES.room("12 thirty of one", x -> x.cost(0, 0, 9), 30, 1, x -> oneRightMore(x, 0));
        EDGES.room("12 thirty of several", States::richWithTape, 28, 3, x -> oneRightMore(x, x.many(3) % 4));
        EDGES.refused("12 full, of one put right", States::full, x -> x.right(0, 1), ShareHouse.FULL);
        ShareHouse x = Edges.made(y -> y.cost(0, 0, 9));
        for (int i = 0; i < 30; i++) {
            x.right(0, i);
        }
        EDGES.due("13 the thirtieth counts", x.costOf(0, 2), 29);
        EDGES.due("13 how often", x.costOf(0, 6), 30);
        EDGES.answers("13 how often of two", States::rich, y -> y.costOf(0, 6), 1);
        EDGES.answers("13 never", States::rich, y -> y.costOf(2, 6), 0);
    }

    private static void thirtyWithCut(ShareHouse x) {
        x.flat(0, 100, false);
        x.like(0, 1);
        x.like(0, 1);
        x.like(0, 1);
        x.cost(0, 0, 900);
        for (int i = 0; i < 29; i++) {
            x.right(0, 800);
        }
        x.cut(0);
        x.cost(0, 0, 900);
    }

    /** Terms: a COST that is CUT "is PUT RIGHT": that is one of the 30. */
    private static void cutsCountToo() {
        EDGES.answers("12 thirty with a cut", CostsEdgesTest::thirtyWithCut, x -> x.many(3), 30);
        EDGES.answers("12 cut at last", CostsEdgesTest::thirtyWithCut, x -> x.costOf(0, 2), 1);
        EDGES.refused("12 full by a cut", CostsEdgesTest::thirtyWithCut, x -> x.right(1, 1), ShareHouse.FULL);
        EDGES.refused("28 full by a cut", CostsEdgesTest::thirtyWithCut, x -> x.cut(1), ShareHouse.FULL);
    }

    private static void lateAndFull(ShareHouse x) {
        States.full(x);
        x.rule(0, 40);
    }

    /** 12: "NUMBER ..; LATE; FULL": of several the first named. */
    private static void orderOfRightRefusals() {
        EDGES.refused("12 late and full", CostsEdgesTest::lateAndFull, x -> x.right(9, 1), ShareHouse.LATE);
        EDGES.refused("12 pence, late and full", CostsEdgesTest::lateAndFull, x -> x.right(9, -1), ShareHouse.NUMBER);
        EDGES.refused("12 no cost, and full", CostsEdgesTest::lateAndFull, x -> x.right(20, 1), ShareHouse.NUMBER);
        EDGES.refused("12 pence, and late", withLimit(0, costOfDay(0, 1)), x -> x.right(0, 100000),
                ShareHouse.NUMBER);
        EDGES.refused("12 pence, and full", States::full, x -> x.right(0, 100000), ShareHouse.NUMBER);
    }

    /** Terms: "A COST is KNOWN from the TODAY on when it came"; other PENCE "KNOWN from that TODAY on"; the latest. */
    private static void knownFromThatDayOn() {
        ShareHouse x = new ShareHouse();
        x.flat(0, 1, false);
        x.flat(0, 1, false);
        Checks.lease(x, 1, "all pays 1 of 2;");
        x.days(10);
        x.cost(0, 0, 200);
        x.days(10);
        x.right(0, 400);
        x.right(0, 600);
        x.days(10);
        x.right(0, 0);
        int[] days = {10, 19, 20, 29, 30};
        int[] parts = {100, 100, 300, 300, 0};
        for (int i = 0; i < days.length; i++) {
            EDGES.due("14 as known on " + days[i], x.part(0, 1, days[i]), parts[i]);
        }
        EDGES.due("15 ahead of the day it came", x.landlord(0, 9), ShareHouse.NOTHING);
        EDGES.due("15 on the day it came", x.landlord(0, 10), 100);
        EDGES.due("15 ahead of the day it was put right", x.landlord(0, 19), 100);
        EDGES.due("15 on the day, told latest", x.landlord(0, 20), 300);
        EDGES.due("15 ahead of the next day", x.landlord(0, 29), 300);
        EDGES.due("15 on the next day", x.landlord(0, 30), 0);
        EDGES.due("13 as now", x.costOf(0, 2), 0);
        EDGES.due("13 as it came", x.costOf(0, 3), 200);
    }

    /** 13: "NUMBER: there is none such, what". */
    private static void costOfNumbers() {
        EDGES.bounds("13 cost", States::richWithTape, 0, 3, (x, v) -> x.costOf(v, 0), ShareHouse.NUMBER);
        EDGES.bounds("13 what", States::richWithTape, 0, 7, (x, v) -> x.costOf(0, v), ShareHouse.NUMBER);
        EDGES.bounds("13 the twentieth", States::full, 0, 19, (x, v) -> x.costOf(v, 7), ShareHouse.NUMBER);
        EDGES.answers("13 capped", States::rich, x -> x.costOf(3, 5), 1);
        EDGES.answers("13 not capped", States::rich, x -> x.costOf(0, 5), 0);
    }

    /** 13: "7 LEVEL (NONE without FLATS)"; terms: "PENCE (as now) times 100 by all AREAS together, the rest away". */
    private static void levelOfCost() {
        EDGES.refused("13 no flats", x -> x.cost(0, 0, 5), x -> x.costOf(0, 7), ShareHouse.NONE);
        EDGES.refused("13 no flats, no cost", x -> x.cost(0, 0, 5), x -> x.costOf(1, 7), ShareHouse.NUMBER);
        ShareHouse x = new ShareHouse();
        x.flat(0, 300, false);
        x.cost(0, 0, 2);
        EDGES.due("13 below 1", x.costOf(0, 7), 0);
        x.right(0, 3);
        EDGES.due("13 just 1", x.costOf(0, 7), 1);
        x.right(0, 0);
        EDGES.due("13 of 0", x.costOf(0, 7), 0);
        x.right(0, 99999);
        EDGES.due("13 of the most", x.costOf(0, 7), 33333);
        x.flat(0, 1, false);
        EDGES.due("13 of more area", x.costOf(0, 7), 33222);
    }

    /** 14: "NUMBER: there is no such COST, FLAT, DAY (0 to TODAY)". */
    private static void partNumbers() {
        EDGES.bounds("14 cost", States::richWithTape, 0, 3, (x, v) -> x.part(v, 0, 50), ShareHouse.NUMBER);
        EDGES.bounds("14 flat", States::richWithTape, 0, 2, (x, v) -> x.part(0, v, 50), ShareHouse.NUMBER);
        EDGES.bounds("14 day", States::richWithTape, 0, 50, (x, v) -> x.part(0, 0, v), ShareHouse.NUMBER);
        EDGES.bounds("14 the eighth flat", States::full, 0, 7, (x, v) -> x.part(19, v, 50), ShareHouse.NUMBER);
        EDGES.refused("14 no flats", x -> x.cost(0, 0, 5), x -> x.part(0, 0, 0), ShareHouse.NUMBER);
    }

    /** 14: "NONE: the COST isn't KNOWN by then"; behind NUMBER. */
    private static void partIsNoneUntilKnown() {
        EDGES.refused("14 a day ahead", States::richWithTape, x -> x.part(1, 0, 9), ShareHouse.NONE);
        EDGES.refused("14 a day ahead, on its own day", States::richWithTape, x -> x.part(1, 0, 5), ShareHouse.NONE);
        // 3 / 10 by the sum 13 / 10
        EDGES.answers("14 that day", States::richWithTape, x -> x.part(1, 0, 10), 777 * 3 / 13);
        EDGES.refused("14 not known, no flat", States::richWithTape, x -> x.part(1, 3, 9), ShareHouse.NUMBER);
        EDGES.refused("14 not known, no day", States::richWithTape, x -> x.part(1, 0, -1), ShareHouse.NUMBER);
    }

    /** 15: "NOTHING: as of part()". */
    private static void landlordNumbers() {
        EDGES.bounds("15 cost", States::richWithTape, 0, 3, (x, v) -> x.landlord(v, 50), ShareHouse.NOTHING);
        EDGES.bounds("15 day", States::richWithTape, 0, 50, (x, v) -> x.landlord(0, v), ShareHouse.NOTHING);
        EDGES.refused("15 not known", States::richWithTape, x -> x.landlord(1, 9), ShareHouse.NOTHING);
        EDGES.answers("15 no flats", x -> x.cost(0, 0, 5), x -> x.landlord(0, 0), 5);
    }

    /** One FLAT that pays all, and a WORK that is DONE without letters. */
    private static ShareHouse capped(int cap, int pence) {
        ShareHouse x = new ShareHouse();
        x.flat(0, 1, false);
        Checks.lease(x, 0, "all pays 1 of 1;");
        if (cap >= 0) {
            x.rule(1, cap);
        }
        x.work(0, pence);
        x.done(0);
        x.cost(0, 0, pence);
        return x;
    }

    private static void cutOff(int cap, int pence, int part) {
        ShareHouse x = capped(cap, pence);
        EDGES.due("14 cap " + cap + " of " + pence, x.part(0, 0, 0), part);
        EDGES.due("15 cap " + cap + " of " + pence, x.landlord(0, 0), pence - part);
        EDGES.due("14 not capped", x.part(1, 0, 0), pence);
        EDGES.due("15 not capped", x.landlord(1, 0), 0);
    }

    /** Terms: "If it is CAPPED none is above CAP (.. 250 at first)". */
    private static void capAtFirst() {
        cutOff(-1, 249, 249);
        cutOff(-1, 250, 250);
        cutOff(-1, 251, 250);
    }

    /** Terms: "CAP (0 to 9999)". */
    private static void capLeastAndMost() {
        cutOff(0, 1, 0);
        cutOff(0, 99999, 0);
        cutOff(1, 1, 1);
        cutOff(9999, 9999, 9999);
        cutOff(9999, 10000, 9999);
        cutOff(9999, 99999, 9999);
    }

    private static ShareHouse equal(int flats) {
        ShareHouse x = new ShareHouse();
        for (int i = 0; i < flats; i++) {
            x.flat(0, 1, false);
            Checks.lease(x, i, "all pays equal;");
        }
        return x;
    }

    /** Terms: PARTS, with "the pence that are left", are cut: what is cut off goes to no other FLAT. */
    private static void capIsBehindTheGivenOutPence() {
        ShareHouse x = equal(3);
        x.rule(1, 1);
        x.work(0, 4);
        x.done(0);
        for (int i = 0; i < 3; i++) {
            EDGES.due("14 capped part " + i, x.part(0, i, 0), 1);
        }
        EDGES.due("15 capped", x.landlord(0, 0), 1);
    }

    /** Terms: "the pence that are left go one by one to FLATS with the greatest rests, of several the least". */
    private static void penceGoToTheLeast() {
        for (int pence : new int[] {0, 1, 7, 8, 9, 15, 16, 99999}) {
            ShareHouse x = equal(8);
            x.cost(0, 0, pence);
            for (int i = 0; i < 8; i++) {
                EDGES.due("14 " + pence + " by 8, " + i, x.part(0, i, 0), pence / 8 + (i < pence % 8 ? 1 : 0));
            }
            EDGES.due("15 " + pence + " by 8", x.landlord(0, 0), 0);
        }
        ShareHouse y = equal(1);
        y.cost(0, 0, 99999);
        EDGES.due("14 one flat", y.part(0, 0, 0), 99999);
    }

    private static void two(String a, String b, int law, int pence, int[] want) {
        ShareHouse x = new ShareHouse();
        x.flat(0, 1, false);
        x.flat(0, 1, false);
        Checks.lease(x, 0, "all pays " + a + ";");
        Checks.lease(x, 1, "all pays " + b + ";");
        x.law(0, law);
        x.cost(0, 0, pence);
        String name = a + " and " + b + " by law " + law + " of " + pence;
        EDGES.due("14 first, " + name, x.part(0, 0, 0), want[0]);
        EDGES.due("14 second, " + name, x.part(0, 1, 0), want[1]);
        EDGES.due("15 landlord, " + name, x.landlord(0, 0), pence - want[0] - want[1]);
    }

    /** Terms: "2 its SHARE by the SUM, if that is above 1, else its SHARE"; pence go out "if all DUES are 1 together". */
    private static void sumsAroundOne() {
        // 23 / 24 together
        two("12 of 24", "11 of 24", 0, 23, new int[] {11, 10});
        two("12 of 24", "11 of 24", 2, 23, new int[] {11, 10});
        two("12 of 24", "11 of 24", 1, 23, new int[] {12, 11});
        // 1 together
        for (int law = 0; law < 3; law++) {
            two("1 of 2", "1 of 2", law, 3, new int[] {2, 1});
            two("1 of 3", "2 of 3", law, 1, new int[] {0, 1});
            two("1 of 1", "nothing", law, 1, new int[] {1, 0});
        }
        // 25 / 24 together
        two("24 of 24", "1 of 24", 0, 25, new int[] {25, 1});
        two("24 of 24", "1 of 24", 1, 25, new int[] {24, 1});
        two("24 of 24", "1 of 24", 2, 25, new int[] {24, 1});
        two("24 of 24", "1 of 24", 2, 12, new int[] {12, 0});
        // 1 / 24 together, the least that is not nothing
        two("1 of 24", "nothing", 0, 99999, new int[] {4166, 0});
        two("1 of 24", "nothing", 1, 99999, new int[] {99999, 0});
        two("1 of 24", "nothing", 2, 99999, new int[] {4166, 0});
        // 2 together, the most that two can make
        two("1 of 1", "1 of 1", 0, 99999, new int[] {99999, 99999});
        two("1 of 1", "1 of 1", 2, 99999, new int[] {50000, 49999});
    }

    /** Terms: "That is its DUE (0 where the SUM is 0)": the LANDLORD bears all. */
    private static void sumOfNothing() {
        for (int law = 0; law < 3; law++) {
            two("nothing", "0 of 24", law, 99999, new int[] {0, 0});
            two("floor", "floor", law, 1, new int[] {0, 0});
        }
    }

    /** Terms: "The LANDLORD bears what all DUES leave of 1 (gains it, below 0)". */
    private static void greatestGain() {
        ShareHouse x = new ShareHouse();
        for (int i = 0; i < 8; i++) {
            x.flat(9, 300, true);
            Checks.lease(x, i, "all pays 1 of 1;");
        }
        x.cost(0, 0, 99999);
        EDGES.due("15 the greatest gain", x.landlord(0, 0), -7 * 99999);
        EDGES.due("14 each pays all", x.part(0, 7, 0), 99999);
    }
}
