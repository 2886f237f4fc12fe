/** Each sentence on the TEXT of a LEASE that names an edge: promise 5, and what the terms say of TEXTS and FAULTS. */
final class LeaseEdgesTest {
    private static final Edges EDGES = new Edges();
    private static final String CLAUSE = "all pays area;";

    private LeaseEdgesTest() {
    }

    public static void main(String[] args) {
        flatNumbers();
        emptyText();
        tapeIsEmptyWhateverIsAnswered();
        numberAheadOfFault();
        twelveClauses();
        fullTape();
        partsN();
        partsM();
        floorsF();
        digits();
        namesAsLongAsTheyGo();
        blanksStandAsOneLikes();
        otherBytes();
        faultIsTheFirst();
        endIsMissing();
        everyPrefix();
        EDGES.end("LeaseEdgesTest");
    }

    /** The text is the LEASE of FLAT 1 of a rich house, with so many CLAUSES. */
    private static void reads(String text, int clauses) {
        ShareHouse x = Edges.made(States::rich);
        Checks.feed(x, text);
        EDGES.due("5 bytes of '" + text + "'", x.many(10), text.length());
        EDGES.due("5 '" + text + "'", x.lease(1), clauses);
        EDGES.due("5 tape behind '" + text + "'", x.many(10), 0);
        EDGES.due("5 the last clause of '" + text + "'", x.clause(1, clauses - 1, 5) < 0 ? 1 : 0, clauses == 0 ? 1 : 0);
        EDGES.due("5 one more of '" + text + "'", x.clause(1, clauses, 0), ShareHouse.NUMBER);
    }

    /** The text has its FAULT at a place: THE TAPE is empty then, and nothing else is other than before. */
    private static void faulty(String text, int place) {
        Edges.State fed = x -> {
            States.rich(x);
            Checks.feed(x, text);
        };
        EDGES.answers("5 fault of '" + text + "'", fed, x -> x.lease(1), ShareHouse.FAULT - place);
        EDGES.leaves("5 fault of '" + text + "'", fed, x -> x.lease(1), States::rich);
    }

    /** 5: "NUMBER: there is no such FLAT". */
    private static void flatNumbers() {
        for (int flat : new int[] {0, 2}) {
            EDGES.answers("5 flat " + flat, States::richWithTape, x -> x.lease(flat), 1);
        }
        for (int flat : new int[] {-1, 3, Integer.MIN_VALUE, Integer.MAX_VALUE}) {
            EDGES.answers("5 flat " + flat, States::richWithTape, x -> x.lease(flat), ShareHouse.NUMBER);
            EDGES.leaves("5 flat " + flat, States::richWithTape, x -> x.lease(flat), States::rich);
        }
        EDGES.answers("5 no flats", States::empty, x -> x.lease(0), ShareHouse.NUMBER);
        EDGES.answers("5 the eighth flat", States::full, x -> x.lease(7), 0);
        EDGES.answers("5 behind the eighth flat", States::full, x -> x.lease(8), ShareHouse.NUMBER);
    }

    /** Terms: "The TEXT of a LEASE: { CLAUSE ; }": it may be empty, and takes the place of what was the LEASE. */
    private static void emptyText() {
        reads("", 0);
        reads(" ", 0);
        reads("    ", 0);
        ShareHouse x = Edges.made(States::rich);
        EDGES.due("5 two clauses", x.clause(1, 1, 1), 4);
        EDGES.due("5 an empty tape", x.lease(1), 0);
        EDGES.due("5 no clauses", x.clause(1, 0, 0), ShareHouse.NUMBER);
        EDGES.due("5 no share", x.share(1, 0, 0), 0);
        EDGES.due("5 the others stay", x.clause(2, 1, 1), 4);
    }

    /** 5: "THE TAPE is the LEASE of a FLAT (and empty then, whatever is answered)". */
    private static void tapeIsEmptyWhateverIsAnswered() {
        ShareHouse x = new ShareHouse();
        x.feed(0x20, 1);
        EDGES.due("5 no flat", x.lease(0), ShareHouse.NUMBER);
        EDGES.due("5 empty behind NUMBER", x.many(10), 0);
        x.flat(0, 1, false);
        x.feed(0x21, 1);
        EDGES.due("5 a fault", x.lease(0), ShareHouse.FAULT);
        EDGES.due("5 empty behind FAULT", x.many(10), 0);
        Checks.feed(x, CLAUSE);
        EDGES.due("5 a text", x.lease(0), 1);
        EDGES.due("5 empty behind a text", x.many(10), 0);
        States.fillTape(x);
        EDGES.due("5 a full tape", x.lease(0), 0);
        EDGES.due("5 empty behind a full tape", x.feed(0x20, 1), 1);
    }

    /** 5: "NUMBER: there is no such FLAT; FAULT less the place": of both NUMBER. */
    private static void numberAheadOfFault() {
        Edges.State faulty = x -> {
            States.rich(x);
            x.feed(0x21, 1);
        };
        EDGES.answers("5 no flat, and a fault", faulty, x -> x.lease(3), ShareHouse.NUMBER);
        EDGES.leaves("5 no flat, and a fault", faulty, x -> x.lease(3), States::rich);
        EDGES.answers("5 a fault alone", faulty, x -> x.lease(2), ShareHouse.FAULT);
    }

    /** Terms: "12 CLAUSES at most"; FAULT is at "the first NAME of the thirteenth CLAUSE". */
    private static void twelveClauses() {
        reads(CLAUSE.repeat(11), 11);
        reads(CLAUSE.repeat(12), 12);
        reads(CLAUSE.repeat(12) + "   ", 12);
        faulty(CLAUSE.repeat(12) + "all pays area;", 168);
        faulty(CLAUSE.repeat(12) + "  all pays area;", 170);
        faulty(CLAUSE.repeat(13) + CLAUSE, 168);
        faulty(CLAUSE.repeat(12) + "a", 168);
        faulty(CLAUSE.repeat(12) + " ;", 169);
        faulty(CLAUSE.repeat(11) + "all pays area", 167);
    }

    /** Terms: "THE TAPE takes bytes, 200 at most": a TEXT may be as long, and a FAULT at its last place or its end. */
    private static void fullTape() {
        reads(CLAUSE + " ".repeat(186), 1);
        reads(" ".repeat(186) + CLAUSE, 1);
        reads("roof" + " and roof".repeat(20) + " pays floor;" + " ".repeat(4), 1);
        faulty(" ".repeat(199) + ";", 199);
        faulty(CLAUSE + " ".repeat(185) + "a", 199);
        faulty(" ".repeat(187) + "all pays area", 200);
        faulty("a".repeat(200), 0);
        faulty("all pays " + "1".repeat(191), 9);
        faulty("roof" + " and roof".repeat(21) + " and li", 198);
        ShareHouse x = Edges.made(States::rich);
        EDGES.due("5 many ones", Checks.lease(x, 0, "all pays area if shop" + " and shop".repeat(19) + "       ;"), 1);
        EDGES.due("5 how many", x.clause(0, 0, 4), 20);
    }

    /** Terms: "N is 0 to 24": else FAULT is at N. */
    private static void partsN() {
        reads("all pays 0 of 24;", 1);
        reads("all pays 24 of 24;", 1);
        faulty("all pays 25 of 24;", 9);
        faulty("all pays 25 of 25;", 9);
        faulty("all pays 999 of 24;", 9);
        ShareHouse x = Edges.made(States::rich);
        Checks.lease(x, 0, "roof pays 0 of 1;lift pays 24 of 24;");
        EDGES.due("6 the least N", x.clause(0, 0, 2), 0);
        EDGES.due("6 the greatest N", x.clause(0, 1, 2), 24);
        EDGES.due("6 the least M", x.clause(0, 0, 3), 1);
        EDGES.due("6 the greatest M", x.clause(0, 1, 3), 24);
    }

    /** Terms: "M 1 to 24 and not below N": else FAULT is at M. */
    private static void partsM() {
        reads("all pays 0 of 1;", 1);
        reads("all pays 1 of 1;", 1);
        reads("all pays 1 of 24;", 1);
        reads("all pays 12 of 12;", 1);
        faulty("all pays 0 of 0;", 14);
        faulty("all pays 1 of 0;", 14);
        faulty("all pays 0 of 25;", 14);
        faulty("all pays 24 of 25;", 15);
        faulty("all pays 12 of 11;", 15);
        faulty("all pays 24 of 23;", 15);
        faulty("all pays 1 of 999;", 14);
    }

    /** Terms: "F 0 to 9": else FAULT is at F. */
    private static void floorsF() {
        for (String name : new String[] {"above", "below"}) {
            reads("all pays area if " + name + " 0;", 1);
            reads("all pays area if " + name + " 9;", 1);
            reads("all pays area if not " + name + " 9;", 1);
            faulty("all pays area if " + name + " 10;", 23);
            faulty("all pays area if " + name + " 999;", 23);
            faulty("all pays area if not " + name + " 10;", 27);
            faulty("all pays area if shop and " + name + " 10;", 32);
        }
    }

    /** Terms: "NUMBERS rows of digits (1 to 3)": a longer row is a NUMBER that is not as told. */
    private static void digits() {
        reads("all pays 000 of 001;", 1);
        reads("all pays 024 of 024 if above 009;", 1);
        reads("all pays 00 of 01 if above 00;", 1);
        faulty("all pays 0000 of 1;", 9);
        faulty("all pays 0001 of 1;", 9);
        faulty("all pays 1 of 0001;", 14);
        faulty("all pays area if above 0000;", 23);
        // rows that an int or a long would bring round to a small number
        faulty("all pays 4294967297 of 4294967297;", 9);
        faulty("all pays 1 of 4294967297;", 14);
        faulty("all pays 1 of 18446744073709551617;", 14);
        faulty("all pays area if below 4294967296;", 23);
    }

    /** Terms: "NAMES are rows of letters a to z, .. both as long as they go". */
    private static void namesAsLongAsTheyGo() {
        String[] heads = {"roof", "lift", "lamps", "water", "fire", "agent"};
        for (int i = 0; i < 6; i++) {
            ShareHouse x = Edges.made(States::rich);
            EDGES.due("5 " + heads[i], Checks.lease(x, 0, heads[i] + " pays area;"), 1);
            EDGES.due("6 " + heads[i], x.clause(0, 0, 0), 1 << i);
            faulty(heads[i] + "s pays area;", 0);
            faulty(heads[i].substring(1) + " pays area;", 0);
            faulty(heads[i].substring(0, heads[i].length() - 1) + " pays area;", 0);
        }
        faulty("allpays area;", 0);
        faulty("all paysarea;", 4);
        faulty("all pays areaif shop;", 9);
        faulty("all pays area ifshop;", 14);
        faulty("all pays area if notshop;", 17);
        faulty("all pays area if shopand shop;", 17);
        faulty("all pays 1 ofx 2;", 11);
        faulty("roof andlift pays area;", 5);
        faulty("a pays area;", 0);
        faulty("z pays area;", 0);
    }

    /** Terms: "blanks (32) part them, and stand elsewhere as one likes". */
    private static void blanksStandAsOneLikes() {
        reads("all pays area;all pays area;", 2);
        reads(" all  pays   area    ;     all pays area ; ", 2);
        reads("all pays 1of2if above3and not below4;", 1);
        reads("all pays 1 of 2 if above 3 and not below 4;", 1);
        faulty("all pays 1 2 of 24;", 11);
        faulty("ro of pays area;", 0);
        faulty("all pa ys area;", 4);
    }

    /** Terms: an "other byte that can't stand there": what is just no letter, digit, blank. */
    private static void otherBytes() {
        int[] bytes = {0, 9, 10, 13, 31, 33, '/', ':', '<', 'A', 'Z', '`', '{', 127, 128, 160, 255};
        for (int b : bytes) {
            faulty((char) b + CLAUSE, 0);
            faulty("all" + (char) b + " pays area;", 3);
            faulty("all pays " + (char) b + "1 of 2;", 9);
            faulty("all pays 1" + (char) b + " of 2;", 10);
            faulty("all pays area" + (char) b, 13);
            faulty(CLAUSE + (char) b, 14);
        }
        faulty(";", 0);
        faulty(CLAUSE + ";", 14);
        faulty("all;", 3);
        faulty("all pays;", 8);
        faulty("all pays area if;", 16);
        faulty("all pays area if not;", 20);
        faulty("all pays area if above;", 22);
        faulty("all pays area if shop and;", 25);
        faulty("all pays 1;", 10);
        faulty("all pays 1 of;", 13);
    }

    /** Terms: "the first NAME, NUMBER or other byte that can't stand there": of several FAULTS the first. */
    private static void faultIsTheFirst() {
        faulty("all pays 25 of 0 if above 10;", 9);
        faulty("all pays 2 of 1 if above 10;", 14);
        faulty("all pays 2 of 2 if above 10 and below 10;", 25);
        faulty("roof and all pays all;", 9);
        faulty("all and roof pays area;", 4);
        faulty("all all pays area;", 4);
        faulty("all pays area equal;", 14);
        faulty("all pays area if not not shop;", 21);
        faulty("all pays area if and shop;", 17);
        faulty("all pays area if shop if shop;", 22);
        faulty("all pays area if shop pays;", 22);
        faulty("all pays 1 of 2 of 3;", 16);
        faulty("pays area;", 0);
        faulty("roof and pays area;", 9);
        faulty("7 pays area;", 0);
        faulty("all 7 area;", 4);
        faulty("all pays area 7;", 14);
        faulty("all pays area if 7;", 17);
        faulty("all pays area if above shop;", 23);
        faulty("all pays 1 of area;", 14);
        faulty(CLAUSE + "roof pays area; lift pays !;", 40);
    }

    /** Terms: "or the end (how many bytes there are), if more must come": blanks at the end count. */
    private static void endIsMissing() {
        faulty("all", 3);
        faulty("all ", 4);
        faulty("all pays", 8);
        faulty("all pays area", 13);
        faulty("all pays area   ", 16);
        faulty(CLAUSE + "all", 17);
        faulty("roof and", 8);
        faulty("all pays 1", 10);
        faulty("all pays 1 of", 13);
        faulty("all pays 1 of 2", 15);
        faulty("all pays area if", 16);
        faulty("all pays area if not", 20);
        faulty("all pays area if above", 22);
        faulty("all pays area if above 3", 24);
        faulty("all pays area if shop and", 25);
    }

    /** Each beginning of a good TEXT that ends behind a NAME or NUMBER and ahead of its ";" lacks more at its end. */
    private static void everyPrefix() {
        String text = "roof and lift pays 1 of 2 if not shop and above 3;";
        for (int i = 1; i < text.length(); i++) {
            boolean isBehindWord = text.charAt(i) == ' ' || text.charAt(i) == ';';
            if (isBehindWord) {
                faulty(text.substring(0, i), i);
                faulty(text.substring(0, i) + "  ", i + 2);
            }
        }
        reads(text, 1);
    }
}
