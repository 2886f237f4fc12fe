/** Each sentence on the reserve that names an edge: promises 29 to 36, and what the terms say of PIECES and ROWS. */
final class ReserveEdgesTest {
    private static final Edges EDGES = new Edges();

    private ReserveEdgesTest() {
    }

    public static void main(String[] args) {
        pieceNumbers();
        nextIsNotAboveLife();
        sevenPieces();
        levelNumbers();
        bindsNever();
        leftNumbers();
        payComesFirst();
        fundAndFloorJustEnough();
        greatestNumbers();
        thirtyYears();
        livesLeastAndMost();
        bindsInTheFirstYear();
        soonerIsNeverAheadOfYear0();
        soonerAtEachTime();
        worstNumbers();
        worstOfFewPieces();
        worstOfLikeOnes();
        rowsForEachSet();
        rowNumbers();
        alterNumbers();
        alterOfAnAnswerBelow0();
        dropUntilNone();
        checkOfNone();
        checkOfWrongRows();
        checkOfFewerRows();
        rowsAreToldAnew();
        EDGES.end("ReserveEdgesTest");
    }

    /** 29: "NUMBER: a number isn't as told"; LIFE 2 to 20, PRICE 1 to 99999, YEAR 0 to 20. */
    private static void pieceNumbers() {
        EDGES.bounds("29 life", States::richWithTape, 2, 20, (x, v) -> x.piece(v, 1, 0), ShareHouse.NUMBER);
        EDGES.bounds("29 price", States::richWithTape, 1, 99999, (x, v) -> x.piece(2, v, 0), ShareHouse.NUMBER);
        EDGES.bounds("29 next", States::richWithTape, 0, 20, (x, v) -> x.piece(20, 1, v), ShareHouse.NUMBER);
    }

    /** Terms: "the YEAR of its next renewal (0 to 20; not above LIFE)". */
    private static void nextIsNotAboveLife() {
        for (int life = 2; life <= 20; life++) {
            int years = life;
            EDGES.bounds("29 next of life " + life, States::empty, 0, life, (x, v) -> x.piece(years, 1, v),
                    ShareHouse.NUMBER);
        }
    }

    /** Terms: "PIECES are numbered from 0 as they come, 7 at most"; FULL behind NUMBER. */
    private static void sevenPieces() {
        EDGES.room("29 seven pieces", States::empty, 7, 0, x -> x.piece(20, 99999, 20));
        EDGES.room("29 seven pieces in a rich house", States::richWithTape, 4, 3, x -> x.piece(2, 1, 0));
        EDGES.refused("29 full", States::full, x -> x.piece(2, 1, 0), ShareHouse.FULL);
        EDGES.refused("29 full, no life", States::full, x -> x.piece(1, 1, 0), ShareHouse.NUMBER);
        EDGES.refused("29 full, no price", States::full, x -> x.piece(2, 0, 0), ShareHouse.NUMBER);
        EDGES.refused("29 full, no next", States::full, x -> x.piece(2, 1, 3), ShareHouse.NUMBER);
    }

    /** 30: "NUMBER: a bit of set is no PIECE, or there is no such what". */
    private static void levelNumbers() {
        EDGES.bounds("30 no pieces", States::empty, 0, 0, (x, v) -> x.level(v, 0), ShareHouse.NUMBER);
        EDGES.bounds("30 three pieces", States::richWithTape, 0, 7, (x, v) -> x.level(v, 0), ShareHouse.NUMBER);
        EDGES.bounds("30 seven pieces", States::full, 0, 127, (x, v) -> x.level(v, 1), ShareHouse.NUMBER);
        EDGES.bounds("30 what", States::richWithTape, 0, 1, (x, v) -> x.level(7, v), ShareHouse.NUMBER);
        for (int bit = 3; bit < 32; bit++) {
            int set = 1 << bit;
            EDGES.answers("30 bit " + bit, States::rich, x -> x.level(set, 0), ShareHouse.NUMBER);
            EDGES.answers("31 bit " + bit, States::rich, x -> x.left(set | 1, 0, 0), ShareHouse.NOTHING);
        }
    }

    /** 30: "1 the YEAR in which it BINDS (NONE)"; terms: "none, if LEVEL PAY is 0"; behind NUMBER. */
    private static void bindsNever() {
        Edges.State enough = x -> {
            x.piece(20, 100, 0);
            x.rule(4, 200);
        };
        EDGES.answers("30 no pay", enough, x -> x.level(0, 0), 0);
        EDGES.refused("30 binds never", enough, x -> x.level(0, 1), ShareHouse.NONE);
        EDGES.refused("30 binds never, no set", enough, x -> x.level(2, 1), ShareHouse.NUMBER);
        EDGES.refused("30 no pieces", States::empty, x -> x.level(0, 1), ShareHouse.NONE);
        EDGES.answers("33 binds never", enough, x -> x.worst(0) == 0 ? x.row(0, 2) : 99, -1);
    }

    /** 31: "YEAR (0 to 29) with a PAY (0 to 99999)"; "NOTHING: a number isn't as told, or a bit of set is no PIECE". */
    private static void leftNumbers() {
        EDGES.bounds("31 set", States::richWithTape, 0, 7, (x, v) -> x.left(v, 0, 0), ShareHouse.NOTHING);
        EDGES.bounds("31 set of seven", States::full, 0, 127, (x, v) -> x.left(v, 0, 0), ShareHouse.NOTHING);
        EDGES.bounds("31 set of none", States::empty, 0, 0, (x, v) -> x.left(v, 0, 0), ShareHouse.NOTHING);
        EDGES.bounds("31 pay", States::richWithTape, 0, 99999, (x, v) -> x.left(7, v, 0), ShareHouse.NOTHING);
        EDGES.bounds("31 year", States::richWithTape, 0, 29, (x, v) -> x.left(7, 0, v), ShareHouse.NOTHING);
    }

    /** Terms: "In each YEAR, from 0 to 29, first the PAY comes, then renewals are paid". */
    private static void payComesFirst() {
        ShareHouse x = new ShareHouse();
        x.piece(20, 70, 0);
        EDGES.due("30 paid by the same year's pay", x.level(0, 0), 70);
        EDGES.due("30 in year 0", x.level(0, 1), 0);
        EDGES.due("31 nothing is left", x.left(0, 70, 0), 0);
        EDGES.due("31 a penny lacks", x.left(0, 69, 0), -1);
        EDGES.due("31 a year later", x.left(0, 70, 1), 70);
    }

    private static void levelWith(int fund, int floor, int pay, int year) {
        ShareHouse x = new ShareHouse();
        x.piece(20, 100, 0);
        x.rule(4, fund);
        x.rule(5, floor);
        EDGES.due("30 fund " + fund + ", floor " + floor, x.level(0, 0), pay);
        EDGES.due("30 fund " + fund + ", floor " + floor + ": binds", x.level(0, 1), year);
    }

    /** Terms: LEVEL PAY, "the least one (0 or more), .. with which FUND isn't below FLOOR at the end of any YEAR". */
    private static void fundAndFloorJustEnough() {
        // 100 in year 0, 100 in year 20
        levelWith(0, 0, 100, 0);
        levelWith(99, 0, 5, 20);
        levelWith(100, 0, 5, 20);
        levelWith(179, 0, 1, 20);
        levelWith(199, 0, 1, 20);
        levelWith(200, 0, 0, ShareHouse.NONE);
        levelWith(201, 0, 0, ShareHouse.NONE);
        levelWith(99999, 0, 0, ShareHouse.NONE);
        levelWith(200, 1, 1, 20);
        levelWith(201, 1, 0, ShareHouse.NONE);
        levelWith(0, 9999, 10099, 0);
        levelWith(9999, 9999, 100, 0);
        levelWith(99999, 9999, 0, ShareHouse.NONE);
    }

    /** FUND 0 to 99999, FLOOR 0 to 9999, PAY 0 to 99999, PRICE 1 to 99999: the greatest numbers that come of them. */
    private static void greatestNumbers() {
        ShareHouse x = new ShareHouse();
        x.rule(4, 99999);
        EDGES.due("31 the most that is left", x.left(0, 99999, 29), 31 * 99999);
        EDGES.due("31 fund alone", x.left(0, 0, 29), 99999);
        x.rule(4, 0);
        x.rule(5, 9999);
        EDGES.due("30 floor alone", x.level(0, 0), 9999);
        for (int i = 0; i < 7; i++) {
            x.piece(2, 99999, 0);
        }
        EDGES.due("30 the greatest level pay", x.level(127, 0), 7 * 99999 + 9999);
        EDGES.due("31 the least that is left", x.left(127, 0, 29), -7 * 16 * 99999);
        EDGES.due("31 the least that is left, none sooner", x.left(0, 0, 29), -7 * 15 * 99999);
    }

    /** Terms: "In each YEAR, from 0 to 29": a renewal in 29 counts, one in 30 does not, unless it is one YEAR sooner. */
    private static void thirtyYears() {
        ShareHouse x = new ShareHouse();
        x.piece(20, 30, 9);
        EDGES.due("31 in year 28", x.left(0, 0, 28), -30);
        EDGES.due("31 in year 29", x.left(0, 0, 29), -60);
        ShareHouse y = new ShareHouse();
        y.piece(20, 30, 10);
        y.rule(4, 30);
        EDGES.due("31 not in year 29", y.left(0, 0, 29), 0);
        EDGES.due("30 not in year 29", y.level(0, 0), 0);
        EDGES.due("31 sooner, in year 28", y.left(1, 0, 28), 0);
        EDGES.due("31 sooner, in year 29", y.left(1, 0, 29), -30);
        EDGES.due("30 sooner, in year 29", y.level(1, 0), 1);
        EDGES.due("30 sooner, binds in year 29", y.level(1, 1), 29);
        ShareHouse z = new ShareHouse();
        z.piece(20, 30, 11);
        EDGES.due("31 sooner, not from year 31", z.left(1, 0, 29), -30);
    }

    private static void renewals(int life, int next, int plain, int sooner) {
        ShareHouse x = new ShareHouse();
        x.piece(life, 1, next);
        EDGES.due("31 life " + life + ", next " + next, x.left(0, 0, 29), -plain);
        EDGES.due("31 life " + life + ", next " + next + ", sooner", x.left(1, 0, 29), -sooner);
    }

    /** Terms: "LIFE (2 to 20 YEARS)": renewed "in that YEAR and each LIFE YEARS behind it". */
    private static void livesLeastAndMost() {
        renewals(2, 0, 15, 16);
        renewals(2, 1, 15, 15);
        renewals(2, 2, 14, 15);
        renewals(20, 0, 2, 2);
        renewals(20, 20, 1, 1);
        renewals(20, 10, 1, 2);
        renewals(19, 0, 2, 2);
        renewals(15, 0, 2, 3);
        renewals(15, 15, 1, 2);
    }

    /** Terms: "It BINDS in the first YEAR at the end of which it would be so with one penny less". */
    private static void bindsInTheFirstYear() {
        ShareHouse x = new ShareHouse();
        x.piece(3, 300, 2);
        EDGES.due("30 each third year lacks", x.level(0, 0), 100);
        EDGES.due("30 the first of them", x.level(0, 1), 2);
        EDGES.due("31 with a penny less", x.left(0, 99, 2), -3);
        ShareHouse y = new ShareHouse();
        y.piece(20, 199, 1);
        y.piece(20, 2, 2);
        // 199 by 2 rounded up is 100, and it lacks with 99; 201 by 3 is 67
        EDGES.due("30 rounded up", y.level(0, 0), 100);
        EDGES.due("30 in year 1", y.level(0, 1), 1);
        ShareHouse z = new ShareHouse();
        z.piece(20, 100, 0);
        z.piece(20, 100, 1);
        z.piece(20, 97, 2);
        // 100, then 200 by 2, then 297 by 3: all lack a penny with 99 but the last
        EDGES.due("30 like years", z.level(0, 0), 100);
        EDGES.due("30 the first of like years", z.level(0, 1), 0);
    }

    /** Terms: "(never ahead of YEAR 0)". */
    private static void soonerIsNeverAheadOfYear0() {
        ShareHouse x = new ShareHouse();
        x.piece(20, 10, 0);
        EDGES.due("31 year 0 stays", x.left(1, 0, 0), -10);
        EDGES.due("31 the next comes sooner", x.left(1, 0, 19), -20);
        EDGES.due("31 but no sooner", x.left(1, 0, 18), -10);
        ShareHouse y = new ShareHouse();
        y.piece(20, 10, 1);
        EDGES.due("31 year 1 is year 0", y.left(1, 0, 0), -10);
        EDGES.due("31 not sooner, year 0", y.left(0, 0, 0), 0);
    }

    /** Terms: "each renewed one YEAR sooner at each time". */
    private static void soonerAtEachTime() {
        ShareHouse x = new ShareHouse();
        x.piece(5, 1, 5);
        x.piece(5, 100, 5);
        for (int year = 0; year < 30; year++) {
            int plain = year / 5;
            int sooner = (year + 1) / 5;
            EDGES.due("31 none sooner, " + year, x.left(0, 0, year), -101 * plain);
            EDGES.due("31 the first sooner, " + year, x.left(1, 0, year), -sooner - 100 * plain);
            EDGES.due("31 the second sooner, " + year, x.left(2, 0, year), -plain - 100 * sooner);
            EDGES.due("31 both sooner, " + year, x.left(3, 0, year), -101 * sooner);
        }
    }

    /** 32: "NUMBER: w isn't 0 to 7": THE ROWS stay then. */
    private static void worstNumbers() {
        EDGES.bounds("32 w", States::richWithTape, 0, 7, ShareHouse::worst, ShareHouse.NUMBER);
        EDGES.bounds("32 w of a full house", States::full, 0, 7, ShareHouse::worst, ShareHouse.NUMBER);
        EDGES.refused("32 none were told", States::empty, x -> x.worst(8), ShareHouse.NUMBER);
    }

    /** Terms: "w PIECES at most": none at all, or more than there are. */
    private static void worstOfFewPieces() {
        EDGES.answers("32 no pieces, w 0", States::empty, x -> x.worst(0), 0);
        EDGES.answers("32 no pieces, w 7", States::empty, x -> x.worst(7), 0);
        Edges.State one = x -> x.piece(20, 100, 5);
        EDGES.answers("32 one piece, w 0", one, x -> x.worst(0), 0);
        EDGES.answers("32 one piece, w 1", one, x -> x.worst(1), 1);
        EDGES.answers("32 one piece, w 7", one, x -> x.worst(7), 1);
        Edges.State seven = x -> {
            for (int i = 0; i < 7; i++) {
                x.piece(20, 100, 1);
            }
        };
        EDGES.answers("32 seven pieces, w 3", seven, x -> x.worst(3), 0);
        EDGES.answers("32 seven pieces, w 4", seven, x -> x.worst(4), 15);
        EDGES.answers("32 seven pieces, w 6", seven, x -> x.worst(6), 63);
        EDGES.answers("32 seven pieces, w 7", seven, x -> x.worst(7), 127);
    }

    /** Terms: "of several that with the fewest PIECES; of several that which has the lesser PIECE first". */
    private static void worstOfLikeOnes() {
        Edges.State enough = x -> {
            x.piece(20, 100, 5);
            x.piece(20, 100, 5);
            x.rule(4, 99999);
        };
        EDGES.answers("32 no pay in any case", enough, x -> x.worst(7), 0);
        Edges.State fewer = x -> {
            x.piece(20, 100, 1);
            x.piece(20, 100, 1);
            x.piece(20, 200, 2);
        };
        // 0 and 1 ask for 200 in year 0, 2 alone for 400 by 2
        EDGES.answers("32 the fewest, though its number is more", fewer, x -> x.worst(2), 4);
        Edges.State like = x -> {
            x.piece(20, 1, 20);
            x.piece(20, 200, 3);
            x.piece(20, 100, 1);
        };
        // none: 300 by 4; 1 sooner: 300 by 3; 2 sooner: 100 in year 0
        EDGES.answers("32 none sooner", like, x -> x.level(0, 0), 75);
        EDGES.answers("32 one sooner", like, x -> x.level(2, 0), 100);
        EDGES.answers("32 another sooner", like, x -> x.level(4, 0), 100);
        EDGES.answers("32 the lesser piece", like, x -> x.worst(1), 2);
        Edges.State pairs = x -> {
            x.piece(20, 100, 1);
            x.piece(20, 200, 3);
            x.piece(20, 200, 3);
            x.piece(20, 100, 1);
        };
        // 0 and 3 ask for 200 in year 0, 1 and 2 for 600 by 3: 0 goes first, though 9 is more than 6
        EDGES.answers("32 the lesser piece first", pairs, x -> x.worst(2), 9);
    }

    /** Terms: "for each set of w PIECES at most, by numbers as bits, rising". */
    private static void rowsForEachSet() {
        for (int w = 0; w <= 7; w++) {
            ShareHouse x = Edges.made(States::full);
            x.worst(w);
            int i = 0;
            for (int set = 0; set < 128; set++) {
                if (Integer.bitCount(set) <= w) {
                    EDGES.due("33 set " + i + " for " + w, x.row(i, 0), set);
                    i++;
                }
            }
            EDGES.due("38 rows for " + w, x.many(9), i);
            EDGES.due("33 behind the last for " + w, x.row(i, 0), ShareHouse.NOTHING);
        }
        ShareHouse y = Edges.made(States::rich);
        y.worst(7);
        for (int set = 0; set < 8; set++) {
            int year = y.level(set, 1);
            EDGES.due("33 pay of " + set, y.row(set, 1), y.level(set, 0));
            EDGES.due("33 year of " + set, y.row(set, 2), year == ShareHouse.NONE ? -1 : year);
        }
    }

    /** 33: "NOTHING: there is none such, what". */
    private static void rowNumbers() {
        EDGES.bounds("33 row", States::richWithTape, 0, 5, (x, v) -> x.row(v, 0), ShareHouse.NOTHING);
        EDGES.bounds("33 what", States::richWithTape, 0, 2, (x, v) -> x.row(5, v), ShareHouse.NOTHING);
        EDGES.bounds("33 row of 128", States::full, 0, 127, (x, v) -> x.row(v, 2), ShareHouse.NOTHING);
        EDGES.refused("33 none told", States::empty, x -> x.row(0, 0), ShareHouse.NOTHING);
    }

    /** 34: "NOTHING likewise"; any number may be put. */
    private static void alterNumbers() {
        EDGES.bounds("34 row", States::richWithTape, 0, 5, (x, v) -> x.alter(v, 0, 9), ShareHouse.NOTHING);
        EDGES.bounds("34 what", States::richWithTape, 0, 2, (x, v) -> x.alter(5, v, 9), ShareHouse.NOTHING);
        EDGES.bounds("34 row of 128", States::full, 0, 127, (x, v) -> x.alter(v, 2, 9), ShareHouse.NOTHING);
        for (int v : new int[] {Integer.MIN_VALUE, ShareHouse.NOTHING, -1, 0, Integer.MAX_VALUE}) {
            ShareHouse x = Edges.made(States::rich);
            EDGES.due("34 what it was", x.alter(5, 0, v), 5);
            EDGES.due("33 what it is", x.row(5, 0), v);
            EDGES.due("34 what it is", x.alter(5, 0, 5), v);
        }
    }

    /** 34: an answer below 0 may be what it was: the number becomes another one all the same. */
    private static void alterOfAnAnswerBelow0() {
        ShareHouse x = new ShareHouse();
        x.worst(0);
        EDGES.due("34 it was -1", x.alter(0, 2, ShareHouse.NOTHING), -1);
        EDGES.due("33 it is NOTHING", x.row(0, 2), ShareHouse.NOTHING);
        EDGES.due("36 wrong", x.check(), 0);
        EDGES.due("34 it was NOTHING", x.alter(0, 2, -1), ShareHouse.NOTHING);
        EDGES.due("36 right again", x.check(), -1);
    }

    /** 35: "The latest row of THE ROWS goes: how many there are. NONE: there are none". */
    private static void dropUntilNone() {
        ShareHouse x = Edges.made(States::full);
        for (int left = 127; left >= 0; left--) {
            EDGES.due("35 drop", x.drop(), left);
            EDGES.due("33 gone", x.row(left, 0), ShareHouse.NOTHING);
        }
        EDGES.due("35 none are left", x.drop(), ShareHouse.NONE);
        Edges.State allDropped = y -> {
            States.rich(y);
            for (int i = 0; i < 6; i++) {
                y.drop();
            }
        };
        EDGES.refused("35 none are left", allDropped, ShareHouse::drop, ShareHouse.NONE);
        EDGES.refused("35 none told", States::empty, ShareHouse::drop, ShareHouse.NONE);
        EDGES.refused("34 none to alter", allDropped, y -> y.alter(0, 0, 0), ShareHouse.NOTHING);
    }

    /** 36: "NONE: none were told yet": dropped ones were told, a refused worst() tells none. */
    private static void checkOfNone() {
        EDGES.refused("36 none told", States::empty, ShareHouse::check, ShareHouse.NONE);
        Edges.State refusedWorst = x -> {
            x.piece(2, 1, 0);
            x.worst(8);
            x.worst(-1);
        };
        EDGES.refused("36 none told by refusals", refusedWorst, ShareHouse::check, ShareHouse.NONE);
        ShareHouse x = new ShareHouse();
        x.worst(0);
        EDGES.due("36 one told", x.check(), -1);
        x.drop();
        EDGES.due("36 one told, none left", x.check(), 0);
    }

    /** 36: "the first row that is wrong; .. -1: all are right". */
    private static void checkOfWrongRows() {
        for (int row : new int[] {0, 64, 127}) {
            for (int what = 0; what < 3; what++) {
                ShareHouse x = Edges.made(States::full);
                EDGES.due("36 all right", x.check(), -1);
                int was = x.alter(row, what, -7);
                EDGES.due("36 row " + row + ", " + what, x.check(), row);
                x.alter(row, what, was);
                EDGES.due("36 right again", x.check(), -1);
            }
        }
        ShareHouse y = Edges.made(States::full);
        y.alter(127, 0, -7);
        y.alter(64, 1, -7);
        EDGES.due("36 the first of two", y.check(), 64);
        y.alter(0, 2, -7);
        EDGES.due("36 the first of three", y.check(), 0);
    }

    /** 36: "how many THE ROWS are, if these are right, but fewer than were told". */
    private static void checkOfFewerRows() {
        ShareHouse x = Edges.made(States::full);
        x.drop();
        EDGES.due("36 one fewer", x.check(), 127);
        x.alter(126, 0, -7);
        EDGES.due("36 the last is wrong", x.check(), 126);
        x.drop();
        EDGES.due("36 the wrong one went", x.check(), 126);
        x.drop();
        EDGES.due("36 the wrong one went, and one more", x.check(), 125);
        x.alter(0, 0, -7);
        EDGES.due("36 the first is wrong", x.check(), 0);
    }

    /** Terms: "THE ROWS are those that were told last". */
    private static void rowsAreToldAnew() {
        ShareHouse x = Edges.made(States::full);
        x.alter(0, 0, -7);
        x.drop();
        x.worst(0);
        EDGES.due("38 one row", x.many(9), 1);
        EDGES.due("36 right", x.check(), -1);
        EDGES.due("33 no second row", x.row(1, 0), ShareHouse.NOTHING);
        x.worst(7);
        EDGES.due("38 all rows", x.many(9), 128);
        EDGES.due("36 all right", x.check(), -1);
        EDGES.due("33 told anew", x.row(0, 0), 0);
    }
}
