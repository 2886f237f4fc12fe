import java.util.Arrays;

/** What a house costs, and who bears it: the document's numbered promises, one public method each. */
public final class ShareHouse {
    public static final int NUMBER = -1;
    public static final int FULL = -2;
    public static final int NONE = -3;
    public static final int STATE = -4;
    public static final int LATE = -5;
    public static final int FAULT = -100;
    public static final int NOTHING = -1000000000;

    private static final int FLATS_MOST = 8;
    private static final int HEADS = 6;
    private static final int OWNERS = 8;
    private static final int COSTS_MOST = 20;
    private static final int PENCE_MOST = 99999;
    private static final int LAST_DAY = 900;
    private static final int YEARS = 30;
    private static final int PIECES_MOST = 7;

    private static final int LIMIT = 0;
    private static final int CAP = 1;
    private static final int GRACE = 2;
    private static final int RATE = 3;
    private static final int FUND = 4;
    private static final int FLOOR = 5;
    private static final int[] RULES_AT_FIRST = {540, 250, 30, 20, 0, 0};
    private static final int[] RULES_MOST = {900, 9999, 90, 99, 99999, 9999};

    private final House house = new House();
    private final House kept = new House();
    private boolean isKept;
    private final Tape tape = new Tape();
    private final Proof proof = new Proof();
    private final Parting parting = new Parting();
    private final Accounts accounts = new Accounts();

    public ShareHouse() {
    }

    // ---- the house

    public int flat(int floor, int area, boolean shop) {
        if (!within(floor, 0, 9) || !within(area, 1, 300)) {
            return NUMBER;
        }
        return house.flats.add(floor, area, shop);
    }

    public int days(int n) {
        if (!within(n, 1, 100)) {
            return NUMBER;
        }
        if (house.today + n > LAST_DAY) {
            return STATE;
        }
        house.today += n;
        return house.today;
    }

    public int feed(long w, int n) {
        if (!within(n, 1, 8)) {
            return NUMBER;
        }
        return tape.add(w, n);
    }

    public int lease(int flat) {
        Flats flats = house.flats;
        if (!flats.has(flat)) {
            tape.clear();
            return NUMBER;
        }
        int fault = tape.read(flats.floors[flat], flats.shops[flat]);
        tape.clear();
        if (fault >= 0) {
            return FAULT - fault;
        }
        flats.leases[flat].become(tape.draft);
        return tape.draft.count;
    }

    public int clause(int flat, int clause, int what) {
        if (!house.flats.has(flat)) {
            return NUMBER;
        }
        Lease lease = house.flats.leases[flat];
        if (!within(clause, 0, lease.count - 1) || !within(what, 0, Lease.WIDTH - 1)) {
            return NUMBER;
        }
        return lease.cell(clause, what);
    }

    public int share(int flat, int head, int what) {
        if (!house.flats.has(flat) || !isHead(head) || !within(what, 0, 1)) {
            return NUMBER;
        }
        parting.readShares(house.flats, head);
        return (int) (what == 0 ? parting.tops[flat] : parting.bottoms[flat]);
    }

    public long sum(int head, int what) {
        if (!isHead(head) || !within(what, 0, 1)) {
            return NOTHING;
        }
        parting.readShares(house.flats, head);
        long common = divisorOf(parting.total, parting.whole);
        return (what == 0 ? parting.total : parting.whole) / Math.max(1, common);
    }

    public int law(int head, int v) {
        if (!isHead(head) || !within(v, 0, 2)) {
            return NUMBER;
        }
        int before = house.laws[head];
        house.laws[head] = v;
        return before;
    }

    // ---- costs

    public int rule(int what, int v) {
        if (!within(what, 0, RULES_MOST.length - 1) || !within(v, 0, RULES_MOST[what])) {
            return NUMBER;
        }
        int before = house.rules[what];
        house.rules[what] = v;
        return before;
    }

    public int cost(int head, int day, int pence) {
        if (!isHead(head) || !isPast(day) || !within(pence, 0, PENCE_MOST)) {
            return NUMBER;
        }
        return house.costs.add(head, day, pence, house.today, false);
    }

    public int right(int cost, int pence) {
        if (!house.costs.has(cost) || !within(pence, 0, PENCE_MOST)) {
            return NUMBER;
        }
        int before = house.costs.penceOn(cost, house.today);
        int refused = house.putRight(cost, pence);
        return refused < 0 ? refused : before;
    }

    public int costOf(int cost, int what) {
        Costs costs = house.costs;
        if (!costs.has(cost)) {
            return NUMBER;
        }
        switch (what) {
            case 0: return costs.heads[cost];
            case 1: return costs.days[cost];
            case 2: return costs.penceOn(cost, house.today);
            case 3: return costs.pence[cost];
            case 4: return costs.knownFrom[cost];
            case 5: return costs.isCapped[cost] ? 1 : 0;
            case 6: return costs.timesRight(cost);
            case 7: return house.levelOf(cost);
            default: return NUMBER;
        }
    }

    public int part(int cost, int flat, int known) {
        if (!house.costs.has(cost) || !house.flats.has(flat) || !isPast(known)) {
            return NUMBER;
        }
        if (!house.costs.isKnown(cost, known)) {
            return NONE;
        }
        parting.divide(house, cost, known);
        return parting.parts[flat];
    }

    public int landlord(int cost, int known) {
        if (!house.costs.has(cost) || !isPast(known) || !house.costs.isKnown(cost, known)) {
            return NOTHING;
        }
        parting.divide(house, cost, known);
        return house.costs.penceOn(cost, known) - parting.allParts(house.flats.count);
    }

    // ---- owners

    public int sell(int flat, int owner, int day) {
        if (!house.flats.has(flat) || !isOwner(owner) || !isPast(day)) {
            return NUMBER;
        }
        return house.owners.addSale(flat, owner, day);
    }

    public int owner(int flat, int day) {
        if (!house.flats.has(flat) || !within(day, 0, LAST_DAY)) {
            return NUMBER;
        }
        return house.owners.ownerOn(flat, day);
    }

    public int pay(int owner, int pence) {
        if (!isOwner(owner) || !within(pence, 1, PENCE_MOST)) {
            return NUMBER;
        }
        return house.owners.addPayment(owner, pence, house.today);
    }

    public int account(int owner, int known, int what) {
        if (!isOwner(owner) || !isPast(known) || !within(what, 0, 3)) {
            return NOTHING;
        }
        if (what == 1) {
            return house.owners.paidBy(owner, known);
        }
        accounts.reckon(house, parting, known);
        switch (what) {
            case 0: return accounts.billOf(owner);
            case 2: return accounts.balanceOf(house, owner, known);
            default: return accounts.interestOf(house, owner, known);
        }
    }

    public int asked(int i, int known) {
        if (!within(i, 0, OWNERS - 1) || !isPast(known)) {
            return NUMBER;
        }
        accounts.reckon(house, parting, known);
        return accounts.askedAt(house, i, known);
    }

    // ---- works, likes

    public int work(int head, int pence) {
        if (!isHead(head) || !within(pence, 1, PENCE_MOST)) {
            return NUMBER;
        }
        return house.works.add(head, pence);
    }

    public int letter(int work) {
        if (!house.works.has(work)) {
            return NUMBER;
        }
        return house.works.isDone[work] ? STATE : house.works.addLetter(work, house.today);
    }

    public int price(int work, int v) {
        if (!house.works.has(work) || !within(v, 1, PENCE_MOST)) {
            return NUMBER;
        }
        return house.works.isDone[work] ? STATE : house.works.addPrice(work, v);
    }

    public int done(int work) {
        Works works = house.works;
        if (!works.has(work)) {
            return NUMBER;
        }
        if (works.isDone[work]) {
            return STATE;
        }
        boolean isCapped = works.whyCapped(work, house.today) != 0;
        int number = house.costs.add(works.heads[work], house.today, works.pence[work], house.today, isCapped);
        works.isDone[work] = number >= 0;
        return number;
    }

    public int capped(int work) {
        if (!house.works.has(work)) {
            return NUMBER;
        }
        return house.works.isDone[work] ? STATE : house.works.whyCapped(work, house.today);
    }

    public int like(int head, int v) {
        if (!isHead(head) || !within(v, 0, 9999)) {
            return NUMBER;
        }
        return house.works.addLike(head, v);
    }

    public int fair(int head) {
        return isHead(head) ? house.works.fairOf(head) : NUMBER;
    }

    public int cut(int cost) {
        if (!house.costs.has(cost)) {
            return NUMBER;
        }
        int level = house.levelOf(cost);
        int fair = house.works.fairOf(house.costs.heads[cost]);
        if (level < 0 || fair < 0) {
            return NONE;
        }
        if (level <= fair) {
            return STATE;
        }
        int pence = fair * house.flats.allAreas() / 100;
        int refused = house.putRight(cost, pence);
        return refused < 0 ? refused : pence;
    }

    // ---- the reserve

    public int piece(int life, int price, int next) {
        if (!within(life, 2, 20) || !within(price, 1, PENCE_MOST) || !within(next, 0, life)) {
            return NUMBER;
        }
        return house.reserve.add(life, price, next);
    }

    public int level(int set, int what) {
        if (!house.reserve.hasAll(set) || !within(what, 0, 1)) {
            return NUMBER;
        }
        house.reserve.reckon(set, house.lack());
        if (what == 0) {
            return house.reserve.levelPay;
        }
        return house.reserve.bindingYear < 0 ? NONE : house.reserve.bindingYear;
    }

    public int left(int set, int pay, int year) {
        if (!house.reserve.hasAll(set) || !within(pay, 0, PENCE_MOST) || !within(year, 0, YEARS - 1)) {
            return NOTHING;
        }
        house.reserve.reckon(set, house.lack());
        return house.rules[FUND] + pay * (year + 1) - house.reserve.spent[year];
    }

    public int worst(int w) {
        return within(w, 0, PIECES_MOST) ? proof.tell(house.reserve, house.lack(), w) : NUMBER;
    }

    public int row(int i, int what) {
        return proof.has(i, what) ? proof.cells[i * Proof.WIDTH + what] : NOTHING;
    }

    public int alter(int i, int what, int v) {
        if (!proof.has(i, what)) {
            return NOTHING;
        }
        int before = proof.cells[i * Proof.WIDTH + what];
        proof.cells[i * Proof.WIDTH + what] = v;
        return before;
    }

    public int drop() {
        if (proof.count <= 0) {
            return NONE;
        }
        proof.count--;
        return proof.count;
    }

    public int check() {
        return proof.toldCount == 0 ? NONE : proof.firstWrong();
    }

    // ---- the whole

    public int buyers() {
        return accounts.buyersOf(house);
    }

    public int many(int what) {
        switch (what) {
            case 0: return house.today;
            case 1: return house.flats.count;
            case 2: return house.costs.count;
            case 3: return house.costs.rightCount;
            case 4: return house.owners.saleCount;
            case 5: return house.owners.paymentCount;
            case 6: return house.works.count;
            case 7: return house.works.likeCount;
            case 8: return house.reserve.count;
            case 9: return proof.count;
            case 10: return tape.count;
            case 11: return house.flats.allAreas();
            default: return NUMBER;
        }
    }

    public int keep() {
        kept.become(house);
        isKept = true;
        return 1;
    }

    public int back() {
        if (!isKept) {
            return NONE;
        }
        house.become(kept);
        return 1;
    }

    private boolean isPast(int day) {
        return within(day, 0, house.today);
    }

    private static boolean isHead(int head) {
        return within(head, 0, HEADS - 1);
    }

    private static boolean isOwner(int owner) {
        return within(owner, 0, OWNERS - 1);
    }

    private static boolean within(int v, int least, int most) {
        return v >= least && v <= most;
    }

    /** The greatest common divisor; 0 only if both are 0. */
    private static long divisorOf(long a, long b) {
        long greater = a;
        long lesser = b;
        for (int i = 0; i < 200 && lesser != 0; i++) {
            long rest = greater % lesser;
            greater = lesser;
            lesser = rest;
        }
        return greater;
    }

    // rows are copied whole, not up to their count, so that back() leaves the places behind it as new ones are

    private static void copy(int[] from, int[] to) {
        System.arraycopy(from, 0, to, 0, Math.min(from.length, to.length));
    }

    private static void copy(boolean[] from, boolean[] to) {
        for (int i = 0; i < from.length && i < to.length; i++) {
            to[i] = from[i];
        }
    }

    /** All that keep() keeps, so that keeping is one copy of it. */
    private static final class House {
        int today;
        final int[] rules = RULES_AT_FIRST.clone();
        final int[] laws = new int[HEADS];
        final Flats flats = new Flats();
        final Costs costs = new Costs();
        final Owners owners = new Owners();
        final Works works = new Works();
        final Reserve reserve = new Reserve();

        void become(House other) {
            today = other.today;
            copy(other.rules, rules);
            copy(other.laws, laws);
            flats.become(other.flats);
            costs.become(other.costs);
            owners.become(other.owners);
            works.become(other.works);
            reserve.become(other.reserve);
        }

        int putRight(int cost, int pence) {
            return costs.putRight(cost, pence, today, rules[LIMIT]);
        }

        /** The LEVEL of a COST, NONE without FLATS. */
        int levelOf(int cost) {
            int areas = flats.allAreas();
            return areas <= 0 ? NONE : costs.penceOn(cost, today) * 100 / areas;
        }

        /** What must come into FUND until it is as FLOOR wants it; below 0 if there is more. */
        int lack() {
            return rules[FLOOR] - rules[FUND];
        }
    }

    private static final class Flats {
        final int[] floors = new int[FLATS_MOST];
        final int[] areas = new int[FLATS_MOST];
        final boolean[] shops = new boolean[FLATS_MOST];
        final Lease[] leases = new Lease[FLATS_MOST];
        int count;

        Flats() {
            for (int i = 0; i < FLATS_MOST; i++) {
                leases[i] = new Lease();
            }
        }

        void become(Flats other) {
            copy(other.floors, floors);
            copy(other.areas, areas);
            copy(other.shops, shops);
            for (int i = 0; i < FLATS_MOST; i++) {
                leases[i].become(other.leases[i]);
            }
            count = other.count;
        }

        boolean has(int flat) {
            return within(flat, 0, count - 1);
        }

        int add(int floor, int area, boolean shop) {
            if (count >= FLATS_MOST) {
                return FULL;
            }
            floors[count] = floor;
            areas[count] = area;
            shops[count] = shop;
            count++;
            return count - 1;
        }

        int allAreas() {
            int all = 0;
            for (int i = 0; i < count; i++) {
                all += areas[i];
            }
            return all;
        }

        int allFloors() {
            int all = 0;
            for (int i = 0; i < count; i++) {
                all += floors[i];
            }
            return all;
        }
    }

    /** CLAUSES as rows of the numbers that clause() answers. */
    private static final class Lease {
        static final int MOST = 12;
        static final int WIDTH = 6;
        static final int HEAD_BITS = 0;
        static final int KIND = 1;
        static final int TOP = 2;
        static final int BOTTOM = 3;
        static final int ONES = 4;
        static final int HOLDS = 5;

        static final int EQUAL = 1;
        static final int AREA = 2;
        static final int BY_FLOOR = 3;
        static final int N_OF_M = 4;

        final int[] cells = new int[MOST * WIDTH];
        int count;

        void become(Lease other) {
            copy(other.cells, cells);
            count = other.count;
        }

        int cell(int clause, int what) {
            return cells[clause * WIDTH + what];
        }

        void put(int what, int v) {
            if (count < MOST) {
                cells[count * WIDTH + what] = v;
            }
        }

        /** The last CLAUSE that is for the FLAT and has a HEAD, or -1. */
        int lastFor(int head) {
            for (int i = count - 1; i >= 0; i--) {
                if (cell(i, HOLDS) == 1 && (cell(i, HEAD_BITS) >> head & 1) == 1) {
                    return i;
                }
            }
            return -1;
        }
    }

    /** THE TAPE, and the reading of its TEXT: word by word, each step leaving the next word at hand. */
    private static final class Tape {
        private static final int MOST = 200;
        private static final int END = 0;
        private static final int NAME = 1;
        private static final int DIGITS = 2;
        private static final int OTHER = 3;
        private static final int DIGITS_MOST = 3;
        private static final int PART_MOST = 24;

        private final int[] bytes = new int[MOST];
        private final int[] kinds = new int[MOST];
        int count;
        final Lease draft = new Lease();
        private int start;
        private int end;
        private int kind;
        // a FLAT's FLOOR and SHOP never change, so a COND is settled while it is read
        private int floor;
        private boolean shop;
        private boolean holds;

        int add(long w, int n) {
            if (count + n > MOST) {
                return FULL;
            }
            for (int i = 0; i < n; i++) {
                bytes[count + i] = (int) (w >>> (8 * i)) & 255;
                kinds[count + i] = kindOf(bytes[count + i]);
            }
            count += n;
            return count;
        }

        void clear() {
            count = 0;
        }

        /** Reads the TEXT into the draft, for a FLAT: the place of its FAULT, or -1. */
        int read(int flatFloor, boolean flatShop) {
            floor = flatFloor;
            shop = flatShop;
            draft.count = 0;
            end = 0;
            step();
            for (int i = 0; i < MOST && kind != END; i++) {
                // the word at hand when reading stops is the one that can't stand there
                if (draft.count >= Lease.MOST || !readClause()) {
                    return start;
                }
                draft.count++;
            }
            return -1;
        }

        private boolean readClause() {
            draft.put(Lease.ONES, 0);
            holds = true;
            boolean isRead = readHeads() && take("pays") && readShare()
                    && (!take("if") || readCondition()) && takeSemicolon();
            draft.put(Lease.HOLDS, holds ? 1 : 0);
            return isRead;
        }

        private boolean readHeads() {
            if (take("all")) {
                draft.put(Lease.HEAD_BITS, (1 << HEADS) - 1);
                return true;
            }
            int bits = 0;
            for (int i = 0; i < MOST; i++) {
                int head = headAtHand();
                if (head < 0) {
                    return false;
                }
                step();
                bits |= 1 << head;
                if (!take("and")) {
                    break;
                }
            }
            draft.put(Lease.HEAD_BITS, bits);
            return true;
        }

        private int headAtHand() {
            if (isAtHand("roof")) {
                return 0;
            }
            if (isAtHand("lift")) {
                return 1;
            }
            if (isAtHand("lamps")) {
                return 2;
            }
            if (isAtHand("water")) {
                return 3;
            }
            if (isAtHand("fire")) {
                return 4;
            }
            return isAtHand("agent") ? 5 : -1;
        }

        private boolean readShare() {
            draft.put(Lease.TOP, NONE);
            draft.put(Lease.BOTTOM, NONE);
            int plain = plainShareAtHand();
            if (plain >= 0) {
                draft.put(Lease.KIND, plain);
                step();
                return true;
            }
            draft.put(Lease.KIND, Lease.N_OF_M);
            int top = numberAtHand();
            if (!within(top, 0, PART_MOST)) {
                return false;
            }
            draft.put(Lease.TOP, top);
            step();
            if (!take("of")) {
                return false;
            }
            int bottom = numberAtHand();
            if (!within(bottom, Math.max(1, top), PART_MOST)) {
                return false;
            }
            draft.put(Lease.BOTTOM, bottom);
            step();
            return true;
        }

        private int plainShareAtHand() {
            if (isAtHand("nothing")) {
                return 0;
            }
            if (isAtHand("equal")) {
                return Lease.EQUAL;
            }
            if (isAtHand("area")) {
                return Lease.AREA;
            }
            return isAtHand("floor") ? Lease.BY_FLOOR : -1;
        }

        private boolean readCondition() {
            for (int i = 1; i <= MOST; i++) {
                if (!readOne()) {
                    return false;
                }
                draft.put(Lease.ONES, i);
                if (!take("and")) {
                    break;
                }
            }
            return true;
        }

        private boolean readOne() {
            boolean isWanted = !take("not");
            if (take("shop")) {
                holds = holds && shop == isWanted;
                return true;
            }
            boolean isAbove = isAtHand("above");
            if (!isAbove && !isAtHand("below")) {
                return false;
            }
            step();
            int other = numberAtHand();
            if (!within(other, 0, 9)) {
                return false;
            }
            holds = holds && (isAbove ? floor > other : floor < other) == isWanted;
            step();
            return true;
        }

        private boolean takeSemicolon() {
            if (kind != OTHER || bytes[start] != ';') {
                return false;
            }
            step();
            return true;
        }

        private boolean take(String name) {
            if (!isAtHand(name)) {
                return false;
            }
            step();
            return true;
        }

        private boolean isAtHand(String name) {
            if (kind != NAME || end - start != name.length()) {
                return false;
            }
            for (int i = 0; i < name.length(); i++) {
                if (bytes[start + i] != name.charAt(i)) {
                    return false;
                }
            }
            return true;
        }

        /** The NUMBER at hand; -1 if the word is none, or too long to be one. */
        private int numberAtHand() {
            if (kind != DIGITS || end - start > DIGITS_MOST) {
                return -1;
            }
            int number = 0;
            for (int i = start; i < end; i++) {
                number = number * 10 + bytes[i] - '0';
            }
            return number;
        }

        private void step() {
            start = end;
            while (start < count && bytes[start] == ' ') {
                start++;
            }
            kind = start < count ? kinds[start] : END;
            end = kind == END ? start : start + 1;
            while (kind != OTHER && end < count && kinds[end] == kind) {
                end++;
            }
        }

        private static int kindOf(int b) {
            if (within(b, 'a', 'z')) {
                return NAME;
            }
            return within(b, '0', '9') ? DIGITS : OTHER;
        }
    }

    /** SHARES of a HEAD over one common bottom, and PARTS of a COST by them. */
    private static final class Parting {
        final long[] tops = new long[FLATS_MOST];
        final long[] bottoms = new long[FLATS_MOST];
        private final long[] weights = new long[FLATS_MOST];
        private final long[] rests = new long[FLATS_MOST];
        final int[] parts = new int[FLATS_MOST];
        // 8 FLATS' bottoms have a common one below 8 * 10^12, so that PENCE times a weight fit a long
        long whole;
        long total;

        /** SHARES of all FLATS in a HEAD; their SUM is total by whole. */
        void readShares(Flats flats, int head) {
            whole = 1;
            for (int i = 0; i < flats.count; i++) {
                readShareOf(flats, i, head);
                whole = whole / Math.max(1, divisorOf(whole, bottoms[i])) * bottoms[i];
            }
            total = 0;
            for (int i = 0; i < flats.count; i++) {
                weights[i] = tops[i] * (whole / Math.max(1, bottoms[i]));
                total += weights[i];
            }
        }

        private void readShareOf(Flats flats, int flat, int head) {
            Lease lease = flats.leases[flat];
            int clause = lease.lastFor(head);
            switch (clause < 0 ? 0 : lease.cell(clause, Lease.KIND)) {
                case Lease.EQUAL: putShare(flat, 1, flats.count); break;
                case Lease.AREA: putShare(flat, flats.areas[flat], flats.allAreas()); break;
                case Lease.BY_FLOOR: putShare(flat, flats.floors[flat], flats.allFloors()); break;
                case Lease.N_OF_M:
                    putShare(flat, lease.cell(clause, Lease.TOP), lease.cell(clause, Lease.BOTTOM));
                    break;
                default: putShare(flat, 0, 1); break;
            }
        }

        private void putShare(int flat, int top, int bottom) {
            boolean isNone = top <= 0 || bottom <= 0;
            long common = isNone ? 1 : Math.max(1, divisorOf(top, bottom));
            tops[flat] = isNone ? 0 : top / common;
            bottoms[flat] = isNone ? 1 : bottom / common;
        }

        /** PARTS of a COST as KNOWN on a DAY. */
        void divide(House house, int cost, int known) {
            int head = house.costs.heads[cost];
            int count = house.flats.count;
            readShares(house.flats, head);
            int law = house.laws[head];
            boolean isMended = total > 0 && (law == 1 || law == 2 && total > whole);
            long below = Math.max(1, isMended ? total : whole);
            int pence = house.costs.penceOn(cost, known);
            for (int i = 0; i < count; i++) {
                parts[i] = (int) (pence * weights[i] / below);
                rests[i] = pence * weights[i] % below;
            }
            if (isMended || total == whole) {
                giveOut(pence - allParts(count), count);
            }
            if (house.costs.isCapped[cost]) {
                capParts(house.rules[CAP], count);
            }
        }

        private void giveOut(int pence, int count) {
            for (int i = 0; i < pence && i < count; i++) {
                int greatest = 0;
                for (int j = 1; j < count; j++) {
                    if (rests[j] > rests[greatest]) {
                        greatest = j;
                    }
                }
                parts[greatest]++;
                rests[greatest] = -1;
            }
        }

        private void capParts(int cap, int count) {
            for (int i = 0; i < count; i++) {
                parts[i] = Math.min(parts[i], cap);
            }
        }

        int allParts(int count) {
            int all = 0;
            for (int i = 0; i < count; i++) {
                all += parts[i];
            }
            return all;
        }
    }

    private static final class Costs {
        private static final int RIGHTS_MOST = 30;

        final int[] heads = new int[COSTS_MOST];
        final int[] days = new int[COSTS_MOST];
        final int[] pence = new int[COSTS_MOST];
        final int[] knownFrom = new int[COSTS_MOST];
        final boolean[] isCapped = new boolean[COSTS_MOST];
        int count;
        private final int[] rightCosts = new int[RIGHTS_MOST];
        private final int[] rightPence = new int[RIGHTS_MOST];
        private final int[] rightDays = new int[RIGHTS_MOST];
        int rightCount;

        void become(Costs other) {
            copy(other.heads, heads);
            copy(other.days, days);
            copy(other.pence, pence);
            copy(other.knownFrom, knownFrom);
            copy(other.isCapped, isCapped);
            count = other.count;
            copy(other.rightCosts, rightCosts);
            copy(other.rightPence, rightPence);
            copy(other.rightDays, rightDays);
            rightCount = other.rightCount;
        }

        boolean has(int cost) {
            return within(cost, 0, count - 1);
        }

        int add(int head, int day, int asItCame, int today, boolean capped) {
            if (count >= COSTS_MOST) {
                return FULL;
            }
            heads[count] = head;
            days[count] = day;
            pence[count] = asItCame;
            knownFrom[count] = today;
            isCapped[count] = capped;
            count++;
            return count - 1;
        }

        boolean isKnown(int cost, int day) {
            return knownFrom[cost] <= day;
        }

        int penceOn(int cost, int day) {
            for (int i = rightCount - 1; i >= 0; i--) {
                if (rightCosts[i] == cost && rightDays[i] <= day) {
                    return rightPence[i];
                }
            }
            return pence[cost];
        }

        int timesRight(int cost) {
            int times = 0;
            for (int i = 0; i < rightCount; i++) {
                if (rightCosts[i] == cost) {
                    times++;
                }
            }
            return times;
        }

        /** LATE, FULL, or 0. */
        int putRight(int cost, int rightful, int today, int limit) {
            if (today - days[cost] > limit) {
                return LATE;
            }
            if (rightCount >= RIGHTS_MOST) {
                return FULL;
            }
            rightCosts[rightCount] = cost;
            rightPence[rightCount] = rightful;
            rightDays[rightCount] = today;
            rightCount++;
            return 0;
        }
    }

    /** SALES and PAYMENTS. */
    private static final class Owners {
        private static final int SALES_MOST = 20;
        private static final int PAYMENTS_MOST = 20;

        private final int[] saleFlats = new int[SALES_MOST];
        private final int[] saleOwners = new int[SALES_MOST];
        private final int[] saleDays = new int[SALES_MOST];
        int saleCount;
        final int[] payers = new int[PAYMENTS_MOST];
        final int[] payPence = new int[PAYMENTS_MOST];
        final int[] payDays = new int[PAYMENTS_MOST];
        int paymentCount;

        void become(Owners other) {
            copy(other.saleFlats, saleFlats);
            copy(other.saleOwners, saleOwners);
            copy(other.saleDays, saleDays);
            saleCount = other.saleCount;
            copy(other.payers, payers);
            copy(other.payPence, payPence);
            copy(other.payDays, payDays);
            paymentCount = other.paymentCount;
        }

        int addSale(int flat, int owner, int day) {
            if (saleCount >= SALES_MOST) {
                return FULL;
            }
            saleFlats[saleCount] = flat;
            saleOwners[saleCount] = owner;
            saleDays[saleCount] = day;
            saleCount++;
            return saleCount;
        }

        int addPayment(int owner, int pence, int today) {
            if (paymentCount >= PAYMENTS_MOST) {
                return FULL;
            }
            payers[paymentCount] = owner;
            payPence[paymentCount] = pence;
            payDays[paymentCount] = today;
            paymentCount++;
            return paymentCount;
        }

        /** The OWNER of a FLAT on a DAY; NONE is the LANDLORD. */
        int ownerOn(int flat, int day) {
            int owner = NONE;
            int greatest = 0;
            for (int i = 0; i < saleCount; i++) {
                if (saleFlats[i] == flat && within(saleDays[i], greatest, day)) {
                    owner = saleOwners[i];
                    greatest = saleDays[i];
                }
            }
            return owner;
        }

        int paidBy(int owner, int day) {
            int paid = 0;
            for (int i = 0; i < paymentCount; i++) {
                if (payers[i] == owner && payDays[i] <= day) {
                    paid += payPence[i];
                }
            }
            return paid;
        }
    }

    /** What OWNERS owe as KNOWN on a DAY, and what they have. */
    private static final class Accounts {
        private static final int RATE_BY = 100000;

        private final int[][] bills = new int[OWNERS][COSTS_MOST];
        private final int[] changes = new int[LAST_DAY];
        private final int[] debts = new int[OWNERS];
        private final int[] areas = new int[OWNERS];

        /** BILLS of all OWNERS, COST by COST, which the other answers start from. */
        void reckon(House house, Parting parting, int known) {
            for (int i = 0; i < OWNERS; i++) {
                Arrays.fill(bills[i], 0);
            }
            for (int i = 0; i < house.costs.count; i++) {
                if (house.costs.isKnown(i, known)) {
                    parting.divide(house, i, known);
                    addParts(house, parting, i);
                }
            }
        }

        private void addParts(House house, Parting parting, int cost) {
            for (int i = 0; i < house.flats.count; i++) {
                int owner = house.owners.ownerOn(i, house.costs.days[cost]);
                if (isOwner(owner)) {
                    bills[owner][cost] += parting.parts[i];
                }
            }
        }

        int billOf(int owner) {
            int bill = 0;
            for (int i = 0; i < COSTS_MOST; i++) {
                bill += bills[owner][i];
            }
            return bill;
        }

        int balanceOf(House house, int owner, int known) {
            return billOf(owner) - house.owners.paidBy(owner, known);
        }

        int interestOf(House house, int owner, int known) {
            readChanges(house, owner, known);
            long owed = 0;
            long all = 0;
            for (int d = 0; d < known && d < LAST_DAY; d++) {
                owed += changes[d];
                all += Math.max(0, owed);
            }
            return (int) (all * house.rules[RATE] / RATE_BY);
        }

        /** By how much what is late changes, DAY by DAY: one walk over the DAYS then tells it on each. */
        private void readChanges(House house, int owner, int known) {
            int end = Math.min(known, LAST_DAY);
            Arrays.fill(changes, 0);
            for (int i = 0; i < house.costs.count; i++) {
                int late = house.costs.days[i] + house.rules[GRACE];
                if (within(late, 0, end - 1)) {
                    changes[late] += bills[owner][i];
                }
            }
            Owners owners = house.owners;
            for (int i = 0; i < owners.paymentCount; i++) {
                if (owners.payers[i] == owner && within(owners.payDays[i], 0, end - 1)) {
                    changes[owners.payDays[i]] -= owners.payPence[i];
                }
            }
        }

        int askedAt(House house, int place, int known) {
            for (int i = 0; i < OWNERS; i++) {
                debts[i] = balanceOf(house, i, known) + interestOf(house, i, known);
            }
            int at = 0;
            for (int i = 0; i < OWNERS; i++) {
                if (howManyAhead(i) == place) {
                    at = i;
                }
            }
            return at;
        }

        private int howManyAhead(int owner) {
            int ahead = 0;
            for (int i = 0; i < OWNERS; i++) {
                if (debts[i] > debts[owner] || debts[i] == debts[owner] && i < owner) {
                    ahead++;
                }
            }
            return ahead;
        }

        int buyersOf(House house) {
            readAreas(house);
            int all = house.flats.allAreas();
            int best = NONE;
            for (int set = 1; set < 1 << OWNERS; set++) {
                boolean isFewer = best < 0 || Integer.bitCount(set) < Integer.bitCount(best);
                if (isFewer && 2 * areasOf(set) > all) {
                    best = set;
                }
            }
            return best;
        }

        private void readAreas(House house) {
            Arrays.fill(areas, 0);
            for (int i = 0; i < house.flats.count; i++) {
                int owner = house.owners.ownerOn(i, house.today);
                if (isOwner(owner)) {
                    areas[owner] += house.flats.areas[i];
                }
            }
        }

        private int areasOf(int set) {
            int all = 0;
            for (int i = 0; i < OWNERS; i++) {
                all += (set >> i & 1) * areas[i];
            }
            return all;
        }
    }

    /** WORKS and LIKES. */
    private static final class Works {
        private static final int MOST = 6;
        private static final int LETTERS_MOST = 2;
        private static final int PRICES_MOST = 4;
        private static final int LIKES_MOST = 16;
        private static final int LIKES_NEEDED = 3;
        private static final int DAYS_APART = 30;

        final int[] heads = new int[MOST];
        final int[] pence = new int[MOST];
        final boolean[] isDone = new boolean[MOST];
        private final int[] letterCounts = new int[MOST];
        private final int[] firstLetters = new int[MOST];
        private final int[] lastLetters = new int[MOST];
        private final int[] priceCounts = new int[MOST];
        // of PRICES nothing but their number and the greatest is ever asked
        private final int[] greatestPrices = new int[MOST];
        int count;
        private final int[] likeHeads = new int[LIKES_MOST];
        private final int[] likes = new int[LIKES_MOST];
        int likeCount;

        void become(Works other) {
            copy(other.heads, heads);
            copy(other.pence, pence);
            copy(other.isDone, isDone);
            copy(other.letterCounts, letterCounts);
            copy(other.firstLetters, firstLetters);
            copy(other.lastLetters, lastLetters);
            copy(other.priceCounts, priceCounts);
            copy(other.greatestPrices, greatestPrices);
            count = other.count;
            copy(other.likeHeads, likeHeads);
            copy(other.likes, likes);
            likeCount = other.likeCount;
        }

        boolean has(int work) {
            return within(work, 0, count - 1);
        }

        int add(int head, int workPence) {
            if (count >= MOST) {
                return FULL;
            }
            heads[count] = head;
            pence[count] = workPence;
            count++;
            return count - 1;
        }

        int addLetter(int work, int today) {
            if (letterCounts[work] >= LETTERS_MOST) {
                return FULL;
            }
            if (letterCounts[work] == 0) {
                firstLetters[work] = today;
            }
            lastLetters[work] = today;
            letterCounts[work]++;
            return letterCounts[work];
        }

        int addPrice(int work, int v) {
            if (priceCounts[work] >= PRICES_MOST) {
                return FULL;
            }
            greatestPrices[work] = Math.max(greatestPrices[work], v);
            priceCounts[work]++;
            return priceCounts[work];
        }

        int whyCapped(int work, int today) {
            if (letterCounts[work] < LETTERS_MOST) {
                return 1;
            }
            if (lastLetters[work] - firstLetters[work] < DAYS_APART) {
                return 2;
            }
            if (today - lastLetters[work] < DAYS_APART) {
                return 3;
            }
            if (priceCounts[work] < 2) {
                return 4;
            }
            return pence[work] > greatestPrices[work] ? 5 : 0;
        }

        int addLike(int head, int v) {
            if (likeCount >= LIKES_MOST) {
                return FULL;
            }
            likeHeads[likeCount] = head;
            likes[likeCount] = v;
            likeCount++;
            return likeCount;
        }

        /** FAIR of a HEAD, NONE if it has too few LIKES. */
        int fairOf(int head) {
            int many = 0;
            for (int i = 0; i < likeCount; i++) {
                if (likeHeads[i] == head) {
                    many++;
                }
            }
            int fair = NONE;
            for (int i = 0; i < likeCount && many >= LIKES_NEEDED; i++) {
                if (likeHeads[i] == head && placeOf(i) == 3 * many / 4) {
                    fair = likes[i];
                }
            }
            return fair;
        }

        /** The place of a LIKE among those of its HEAD, rising. */
        private int placeOf(int like) {
            int place = 0;
            for (int i = 0; i < likeCount; i++) {
                boolean isLess = likes[i] < likes[like] || likes[i] == likes[like] && i < like;
                if (likeHeads[i] == likeHeads[like] && isLess) {
                    place++;
                }
            }
            return place;
        }
    }

    /** PIECES, and what they ask for if a set of them is renewed sooner. */
    private static final class Reserve {
        private final int[] lives = new int[PIECES_MOST];
        private final int[] prices = new int[PIECES_MOST];
        private final int[] nexts = new int[PIECES_MOST];
        int count;
        // of the set that was reckoned last
        final int[] spent = new int[YEARS];
        int levelPay;
        int bindingYear;

        void become(Reserve other) {
            copy(other.lives, lives);
            copy(other.prices, prices);
            copy(other.nexts, nexts);
            count = other.count;
        }

        boolean hasAll(int set) {
            return within(set, 0, (1 << count) - 1);
        }

        int add(int life, int price, int next) {
            if (count >= PIECES_MOST) {
                return FULL;
            }
            lives[count] = life;
            prices[count] = price;
            nexts[count] = next;
            count++;
            return count - 1;
        }

        /** What is spent up to the end of each YEAR, LEVEL PAY, and the YEAR in which it BINDS, or -1. */
        void reckon(int set, int lack) {
            Arrays.fill(spent, 0);
            for (int i = 0; i < count; i++) {
                addRenewals(i, set >> i & 1);
            }
            for (int i = 1; i < YEARS; i++) {
                spent[i] += spent[i - 1];
            }
            levelPay = 0;
            bindingYear = -1;
            for (int i = 0; i < YEARS; i++) {
                int pay = leastPayFor(i, lack);
                // with a penny less than the greatest of these the first YEAR that asks for it lacks
                if (pay > levelPay) {
                    levelPay = pay;
                    bindingYear = i;
                }
            }
        }

        private void addRenewals(int piece, int sooner) {
            int life = Math.max(1, lives[piece]);
            // a renewal in the first YEAR behind the last one counts too, if it is a YEAR sooner
            for (int year = nexts[piece]; year <= YEARS; year += life) {
                int when = Math.max(0, year - sooner);
                if (when < YEARS) {
                    spent[when] += prices[piece];
                }
            }
        }

        private int leastPayFor(int year, int lack) {
            int needed = Math.max(0, spent[year] + lack);
            return (needed + year) / (year + 1);
        }
    }

    /** THE ROWS, and how they were told. */
    private static final class Proof {
        static final int WIDTH = 3;
        private static final int MOST = 1 << PIECES_MOST;

        final int[] cells = new int[MOST * WIDTH];
        int count;
        private final int[] told = new int[MOST * WIDTH];
        // at least the row of no PIECES is told each time, so 0 means never
        int toldCount;

        boolean has(int i, int what) {
            return within(i, 0, count - 1) && within(what, 0, WIDTH - 1);
        }

        /** Tells ROWS for w PIECES at most: THE WORST set. */
        int tell(Reserve reserve, int lack, int w) {
            int worst = 0;
            int worstPay = -1;
            toldCount = 0;
            for (int set = 0; set < MOST && reserve.hasAll(set); set++) {
                if (Integer.bitCount(set) <= w) {
                    reserve.reckon(set, lack);
                    addRow(set, reserve.levelPay, reserve.bindingYear);
                    if (reserve.levelPay > worstPay || reserve.levelPay == worstPay && goesAhead(set, worst)) {
                        worst = set;
                        worstPay = reserve.levelPay;
                    }
                }
            }
            copy(told, cells);
            count = toldCount;
            return worst;
        }

        private void addRow(int set, int pay, int year) {
            told[toldCount * WIDTH] = set;
            told[toldCount * WIDTH + 1] = pay;
            told[toldCount * WIDTH + 2] = year;
            toldCount++;
        }

        private static boolean goesAhead(int set, int other) {
            int fewer = Integer.bitCount(other) - Integer.bitCount(set);
            int unlike = set ^ other;
            return fewer > 0 || fewer == 0 && (set & unlike & -unlike) != 0;
        }

        int firstWrong() {
            for (int i = 0; i < count * WIDTH; i++) {
                if (cells[i] != told[i]) {
                    return i / WIDTH;
                }
            }
            return count < toldCount ? count : -1;
        }
    }
}
