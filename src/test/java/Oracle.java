import java.math.BigInteger;
import java.util.ArrayList;
import java.util.Arrays;
import java.util.List;

/**
 * The document told a second time, as slowly and plainly as it reads: fractions of BigIntegers, day by day, year by
 * year, pay by pay. OracleTest holds ShareHouse against it.
 */
final class Oracle {
    static final int NOTHING = -1000000000;
    private static final List<String> HEADS = List.of("roof", "lift", "lamps", "water", "fire", "agent");
    private static final int[] RULES_MOST = {900, 9999, 90, 99, 99999, 9999};

    record One(boolean not, String name, int f) {
    }

    record Clause(int heads, int kind, int n, int m, List<One> ones) {
    }

    record Flat(int floor, int area, boolean shop, List<Clause> lease) {
    }

    record Right(int cost, int pence, int day) {
    }

    record Cost(int head, int day, int pence, int known, boolean capped) {
    }

    record Sale(int flat, int owner, int day) {
    }

    record Payment(int owner, int pence, int day) {
    }

    record Work(int head, int pence, List<Integer> letters, List<Integer> prices, boolean done) {
    }

    record Like(int head, int v) {
    }

    record Piece(int life, int price, int next) {
    }

    record Word(String text, int at) {
    }

    record Fraction(BigInteger above, BigInteger below) {
        static Fraction of(long a, long b) {
            return b == 0 ? of(0, 1) : clear(BigInteger.valueOf(a), BigInteger.valueOf(b));
        }

        static Fraction clear(BigInteger a, BigInteger b) {
            BigInteger g = a.gcd(b);
            return new Fraction(a.divide(g), b.divide(g));
        }

        Fraction plus(Fraction o) {
            return clear(above.multiply(o.below).add(o.above.multiply(below)), below.multiply(o.below));
        }

        Fraction times(long v) {
            return clear(above.multiply(BigInteger.valueOf(v)), below);
        }

        Fraction by(Fraction o) {
            return clear(above.multiply(o.below), below.multiply(o.above));
        }

        int compare(Fraction o) {
            return above.multiply(o.below).compareTo(o.above.multiply(below));
        }

        int whole() {
            return above.divide(below).intValueExact();
        }

        Fraction rest() {
            return clear(above.mod(below), below);
        }
    }

    /** All that is kept; its lists hold what never changes, so a copy of the lists is a copy of all. */
    static final class Books {
        int today = 0;
        int[] rules = {540, 250, 30, 20, 0, 0};
        int[] laws = new int[6];
        List<Flat> flats = new ArrayList<>();
        List<Cost> costs = new ArrayList<>();
        List<Right> rights = new ArrayList<>();
        List<Sale> sales = new ArrayList<>();
        List<Payment> payments = new ArrayList<>();
        List<Work> works = new ArrayList<>();
        List<Like> likes = new ArrayList<>();
        List<Piece> pieces = new ArrayList<>();

        Books copy() {
            Books b = new Books();
            b.today = today;
            b.rules = rules.clone();
            b.laws = laws.clone();
            b.flats = new ArrayList<>(flats);
            b.costs = new ArrayList<>(costs);
            b.rights = new ArrayList<>(rights);
            b.sales = new ArrayList<>(sales);
            b.payments = new ArrayList<>(payments);
            b.works = new ArrayList<>(works);
            b.likes = new ArrayList<>(likes);
            b.pieces = new ArrayList<>(pieces);
            return b;
        }
    }

    private Books b = new Books();
    private Books kept = null;
    private final List<Integer> tape = new ArrayList<>();
    private List<int[]> told = null;
    private List<int[]> rows = new ArrayList<>();

    private static boolean in(int v, int low, int high) {
        return low <= v && v <= high;
    }

    // ---- the house

    int flat(int floor, int area, boolean shop) {
        if (!in(floor, 0, 9) || !in(area, 1, 300)) {
            return -1;
        }
        if (b.flats.size() == 8) {
            return -2;
        }
        b.flats.add(new Flat(floor, area, shop, List.of()));
        return b.flats.size() - 1;
    }

    int days(int n) {
        if (!in(n, 1, 100)) {
            return -1;
        }
        if (b.today + n > 900) {
            return -4;
        }
        return b.today += n;
    }

    int feed(long w, int n) {
        if (!in(n, 1, 8)) {
            return -1;
        }
        if (tape.size() + n > 200) {
            return -2;
        }
        for (int i = 0; i < n; i++) {
            tape.add((int) (w >> 8 * i & 255));
        }
        return tape.size();
    }

    private static final class Fault extends RuntimeException {
        private static final long serialVersionUID = 1;
        final int at;

        Fault(int at) {
            super("fault");
            this.at = at;
        }
    }

    int lease(int flat) {
        List<Integer> text = new ArrayList<>(tape);
        tape.clear();
        if (!in(flat, 0, b.flats.size() - 1)) {
            return -1;
        }
        try {
            List<Clause> clauses = clausesOf(words(text));
            Flat f = b.flats.get(flat);
            b.flats.set(flat, new Flat(f.floor, f.area, f.shop, clauses));
            return clauses.size();
        } catch (Fault e) {
            return -100 - e.at;
        }
    }

    private static List<Word> words(List<Integer> bytes) {
        StringBuilder text = new StringBuilder();
        for (int v : bytes) {
            text.append((char) v);
        }
        List<Word> words = new ArrayList<>();
        java.util.regex.Matcher m = java.util.regex.Pattern.compile("[a-z]+|[0-9]+|[^ a-z0-9]",
                java.util.regex.Pattern.DOTALL).matcher(text);
        while (m.find()) {
            words.add(new Word(m.group(), m.start()));
        }
        words.add(new Word("", bytes.size()));
        return words;
    }

    /** Splits the words at the first that can't stand there by trying, for each place, what may stand. */
    private static List<Clause> clausesOf(List<Word> words) {
        List<Clause> clauses = new ArrayList<>();
        int at = 0;
        while (!words.get(at).text.isEmpty()) {
            if (clauses.size() == 12) {
                throw new Fault(words.get(at).at);
            }
            int heads = 0;
            if (words.get(at).text.equals("all")) {
                heads = 63;
                at++;
            } else {
                while (true) {
                    int head = HEADS.indexOf(words.get(at).text);
                    need(head >= 0, words.get(at++));
                    heads |= 1 << head;
                    if (!words.get(at).text.equals("and")) {
                        break;
                    }
                    at++;
                }
            }
            need(words.get(at).text.equals("pays"), words.get(at++));
            int kind = List.of("nothing", "equal", "area", "floor").indexOf(words.get(at).text);
            int n = -3;
            int m = -3;
            if (kind < 0) {
                kind = 4;
                n = number(words.get(at++), 0, 24);
                need(words.get(at).text.equals("of"), words.get(at++));
                m = number(words.get(at++), Math.max(n, 1), 24);
            } else {
                at++;
            }
            List<One> ones = new ArrayList<>();
            if (words.get(at).text.equals("if")) {
                do {
                    at++;
                    boolean not = words.get(at).text.equals("not");
                    at += not ? 1 : 0;
                    String name = words.get(at).text;
                    need(List.of("shop", "above", "below").contains(name), words.get(at++));
                    ones.add(new One(not, name, name.equals("shop") ? 0 : number(words.get(at++), 0, 9)));
                } while (words.get(at).text.equals("and"));
            }
            need(words.get(at).text.equals(";"), words.get(at++));
            clauses.add(new Clause(heads, kind, n, m, ones));
        }
        return clauses;
    }

    private static void need(boolean good, Word word) {
        if (!good) {
            throw new Fault(word.at);
        }
    }

    private static int number(Word word, int low, int high) {
        need(word.text.matches("[0-9]{1,3}"), word);
        int v = Integer.parseInt(word.text);
        need(in(v, low, high), word);
        return v;
    }

    private static boolean isFor(Flat flat, Clause clause) {
        for (One one : clause.ones) {
            boolean is = switch (one.name) {
                case "shop" -> flat.shop;
                case "above" -> flat.floor > one.f;
                default -> flat.floor < one.f;
            };
            if (is == one.not) {
                return false;
            }
        }
        return true;
    }

    int clause(int flat, int clause, int what) {
        if (!in(flat, 0, b.flats.size() - 1) || !in(clause, 0, b.flats.get(flat).lease.size() - 1) || !in(what, 0, 5)) {
            return -1;
        }
        Clause c = b.flats.get(flat).lease.get(clause);
        return new int[] {c.heads, c.kind, c.n, c.m, c.ones.size(), isFor(b.flats.get(flat), c) ? 1 : 0}[what];
    }

    private int areas() {
        return b.flats.stream().mapToInt(Flat::area).sum();
    }

    private Fraction shareOf(Flat flat, int head) {
        Fraction share = Fraction.of(0, 1);
        for (Clause c : flat.lease) {
            if (isFor(flat, c) && (c.heads & 1 << head) != 0) {
                share = switch (c.kind) {
                    case 0 -> Fraction.of(0, 1);
                    case 1 -> Fraction.of(1, b.flats.size());
                    case 2 -> Fraction.of(flat.area, areas());
                    case 3 -> Fraction.of(flat.floor, b.flats.stream().mapToInt(Flat::floor).sum());
                    default -> Fraction.of(c.n, c.m);
                };
            }
        }
        return share;
    }

    private Fraction sumOf(int head) {
        Fraction sum = Fraction.of(0, 1);
        for (Flat f : b.flats) {
            sum = sum.plus(shareOf(f, head));
        }
        return sum;
    }

    int share(int flat, int head, int what) {
        if (!in(flat, 0, b.flats.size() - 1) || !in(head, 0, 5) || !in(what, 0, 1)) {
            return -1;
        }
        Fraction s = shareOf(b.flats.get(flat), head);
        return (what == 0 ? s.above : s.below).intValueExact();
    }

    long sum(int head, int what) {
        if (!in(head, 0, 5) || !in(what, 0, 1)) {
            return NOTHING;
        }
        Fraction s = sumOf(head);
        return (what == 0 ? s.above : s.below).longValueExact();
    }

    int law(int head, int v) {
        if (!in(head, 0, 5) || !in(v, 0, 2)) {
            return -1;
        }
        int was = b.laws[head];
        b.laws[head] = v;
        return was;
    }

    // ---- costs

    int rule(int what, int v) {
        if (!in(what, 0, 5) || !in(v, 0, RULES_MOST[what])) {
            return -1;
        }
        int was = b.rules[what];
        b.rules[what] = v;
        return was;
    }

    int cost(int head, int day, int pence) {
        if (!in(head, 0, 5) || !in(day, 0, b.today) || !in(pence, 0, 99999)) {
            return -1;
        }
        if (b.costs.size() == 20) {
            return -2;
        }
        b.costs.add(new Cost(head, day, pence, b.today, false));
        return b.costs.size() - 1;
    }

    int right(int cost, int pence) {
        if (!in(cost, 0, b.costs.size() - 1) || !in(pence, 0, 99999)) {
            return -1;
        }
        if (b.today > b.costs.get(cost).day + b.rules[0]) {
            return -5;
        }
        if (b.rights.size() == 30) {
            return -2;
        }
        int was = penceOn(cost, 900);
        b.rights.add(new Right(cost, pence, b.today));
        return was;
    }

    private int penceOn(int cost, int day) {
        int pence = b.costs.get(cost).pence;
        for (Right r : b.rights) {
            if (r.cost == cost && r.day <= day) {
                pence = r.pence;
            }
        }
        return pence;
    }

    int costOf(int cost, int what) {
        if (!in(cost, 0, b.costs.size() - 1) || !in(what, 0, 7)) {
            return -1;
        }
        Cost c = b.costs.get(cost);
        int times = (int) b.rights.stream().filter(r -> r.cost == cost).count();
        int level = b.flats.isEmpty() ? -3 : Fraction.of(penceOn(cost, 900), areas()).times(100).whole();
        return new int[] {c.head, c.day, penceOn(cost, 900), c.pence, c.known, c.capped ? 1 : 0, times, level}[what];
    }

    private int[] parts(int cost, int known) {
        Cost c = b.costs.get(cost);
        Fraction sum = sumOf(c.head);
        Fraction one = Fraction.of(1, 1);
        Fraction dues = Fraction.of(0, 1);
        int pence = penceOn(cost, known);
        int size = b.flats.size();
        int[] parts = new int[size];
        Fraction[] rests = new Fraction[size];
        int left = pence;
        for (int i = 0; i < size; i++) {
            Fraction due = shareOf(b.flats.get(i), c.head);
            if (sum.above.signum() == 0) {
                due = Fraction.of(0, 1);
            } else if (b.laws[c.head] == 1 || b.laws[c.head] == 2 && sum.compare(one) > 0) {
                due = due.by(sum);
            }
            dues = dues.plus(due);
            parts[i] = due.times(pence).whole();
            rests[i] = due.times(pence).rest();
            left -= parts[i];
        }
        if (dues.compare(one) == 0) {
            List<Integer> order = new ArrayList<>();
            for (int i = 0; i < size; i++) {
                order.add(i);
            }
            order.sort((i, j) -> rests[j].compare(rests[i]));
            for (int i = 0; i < left; i++) {
                parts[order.get(i)]++;
            }
        }
        for (int i = 0; i < size; i++) {
            parts[i] = c.capped ? Math.min(parts[i], b.rules[1]) : parts[i];
        }
        return parts;
    }

    int part(int cost, int flat, int known) {
        if (!in(cost, 0, b.costs.size() - 1) || !in(flat, 0, b.flats.size() - 1) || !in(known, 0, b.today)) {
            return -1;
        }
        return b.costs.get(cost).known > known ? -3 : parts(cost, known)[flat];
    }

    int landlord(int cost, int known) {
        if (!in(cost, 0, b.costs.size() - 1) || !in(known, 0, b.today) || b.costs.get(cost).known > known) {
            return NOTHING;
        }
        return penceOn(cost, known) - Arrays.stream(parts(cost, known)).sum();
    }

    // ---- owners

    int sell(int flat, int owner, int day) {
        if (!in(flat, 0, b.flats.size() - 1) || !in(owner, 0, 7) || !in(day, 0, b.today)) {
            return -1;
        }
        if (b.sales.size() == 20) {
            return -2;
        }
        b.sales.add(new Sale(flat, owner, day));
        return b.sales.size();
    }

    int owner(int flat, int day) {
        if (!in(flat, 0, b.flats.size() - 1) || !in(day, 0, 900)) {
            return -1;
        }
        for (int d = day; d >= 0; d--) {
            for (int i = b.sales.size() - 1; i >= 0; i--) {
                Sale s = b.sales.get(i);
                if (s.flat == flat && s.day == d) {
                    return s.owner;
                }
            }
        }
        return -3;
    }

    int pay(int owner, int pence) {
        if (!in(owner, 0, 7) || !in(pence, 1, 99999)) {
            return -1;
        }
        if (b.payments.size() == 20) {
            return -2;
        }
        b.payments.add(new Payment(owner, pence, b.today));
        return b.payments.size();
    }

    /** For each COST what of the BILL is of it. */
    private int[] bill(int owner, int known) {
        int[] bill = new int[b.costs.size()];
        for (int i = 0; i < bill.length; i++) {
            if (b.costs.get(i).known <= known) {
                int[] parts = parts(i, known);
                for (int f = 0; f < parts.length; f++) {
                    bill[i] += owner(f, b.costs.get(i).day) == owner ? parts[f] : 0;
                }
            }
        }
        return bill;
    }

    private int paid(int owner, int day) {
        return b.payments.stream().filter(p -> p.owner == owner && p.day <= day).mapToInt(Payment::pence).sum();
    }

    private int interest(int owner, int known) {
        int[] bill = bill(owner, known);
        long all = 0;
        for (int d = 0; d <= known - 1; d++) {
            long late = -paid(owner, d);
            for (int i = 0; i < bill.length; i++) {
                late += b.costs.get(i).day <= d - b.rules[2] ? bill[i] : 0;
            }
            all += late > 0 ? late : 0;
        }
        return (int) (all * b.rules[3] / 100000);
    }

    int account(int owner, int known, int what) {
        if (!in(owner, 0, 7) || !in(known, 0, b.today) || !in(what, 0, 3)) {
            return NOTHING;
        }
        int bill = Arrays.stream(bill(owner, known)).sum();
        return switch (what) {
            case 0 -> bill;
            case 1 -> paid(owner, known);
            case 2 -> bill - paid(owner, known);
            default -> interest(owner, known);
        };
    }

    int asked(int i, int known) {
        if (!in(i, 0, 7) || !in(known, 0, b.today)) {
            return -1;
        }
        int[] debts = new int[8];
        List<Integer> order = new ArrayList<>();
        for (int o = 0; o < 8; o++) {
            debts[o] = account(o, known, 2) + account(o, known, 3);
            order.add(o);
        }
        order.sort((p, q) -> Integer.compare(debts[q], debts[p]));
        return order.get(i);
    }

    // ---- works, likes

    int work(int head, int pence) {
        if (!in(head, 0, 5) || !in(pence, 1, 99999)) {
            return -1;
        }
        if (b.works.size() == 6) {
            return -2;
        }
        b.works.add(new Work(head, pence, List.of(), List.of(), false));
        return b.works.size() - 1;
    }

    private static List<Integer> longer(List<Integer> list, int v) {
        List<Integer> all = new ArrayList<>(list);
        all.add(v);
        return all;
    }

    int letter(int work) {
        if (!in(work, 0, b.works.size() - 1)) {
            return -1;
        }
        Work w = b.works.get(work);
        if (w.done) {
            return -4;
        }
        if (w.letters.size() == 2) {
            return -2;
        }
        b.works.set(work, new Work(w.head, w.pence, longer(w.letters, b.today), w.prices, false));
        return w.letters.size() + 1;
    }

    int price(int work, int v) {
        if (!in(work, 0, b.works.size() - 1) || !in(v, 1, 99999)) {
            return -1;
        }
        Work w = b.works.get(work);
        if (w.done) {
            return -4;
        }
        if (w.prices.size() == 4) {
            return -2;
        }
        b.works.set(work, new Work(w.head, w.pence, w.letters, longer(w.prices, v), false));
        return w.prices.size() + 1;
    }

    int done(int work) {
        int why = capped(work);
        if (why < 0) {
            return why;
        }
        if (b.costs.size() == 20) {
            return -2;
        }
        Work w = b.works.get(work);
        b.works.set(work, new Work(w.head, w.pence, w.letters, w.prices, true));
        b.costs.add(new Cost(w.head, b.today, w.pence, b.today, why > 0));
        return b.costs.size() - 1;
    }

    int capped(int work) {
        if (!in(work, 0, b.works.size() - 1)) {
            return -1;
        }
        Work w = b.works.get(work);
        if (w.done) {
            return -4;
        }
        if (w.letters.size() < 2) {
            return 1;
        }
        if (w.letters.get(1) < w.letters.get(0) + 30) {
            return 2;
        }
        if (b.today < w.letters.get(1) + 30) {
            return 3;
        }
        if (w.prices.size() < 2) {
            return 4;
        }
        return w.prices.stream().anyMatch(p -> p >= w.pence) ? 0 : 5;
    }

    int like(int head, int v) {
        if (!in(head, 0, 5) || !in(v, 0, 9999)) {
            return -1;
        }
        if (b.likes.size() == 16) {
            return -2;
        }
        b.likes.add(new Like(head, v));
        return b.likes.size();
    }

    int fair(int head) {
        if (!in(head, 0, 5)) {
            return -1;
        }
        int[] likes = b.likes.stream().filter(l -> l.head == head).mapToInt(Like::v).sorted().toArray();
        return likes.length < 3 ? -3 : likes[3 * likes.length / 4];
    }

    int cut(int cost) {
        if (!in(cost, 0, b.costs.size() - 1)) {
            return -1;
        }
        int fair = fair(b.costs.get(cost).head);
        if (b.flats.isEmpty() || fair == -3) {
            return -3;
        }
        if (costOf(cost, 7) <= fair) {
            return -4;
        }
        int pence = Fraction.of(fair, 100).times(areas()).whole();
        int was = right(cost, pence);
        return was < 0 ? was : pence;
    }

    // ---- the reserve

    int piece(int life, int price, int next) {
        if (!in(life, 2, 20) || !in(price, 1, 99999) || !in(next, 0, 20) || next > life) {
            return -1;
        }
        if (b.pieces.size() == 7) {
            return -2;
        }
        b.pieces.add(new Piece(life, price, next));
        return b.pieces.size() - 1;
    }

    private boolean isSet(int set) {
        for (int i = 0; i < 32; i++) {
            if ((set >>> i & 1) == 1 && i >= b.pieces.size()) {
                return false;
            }
        }
        return true;
    }

    /** FUND at the end of each YEAR. */
    private long[] course(int set, long pay) {
        long[] ends = new long[30];
        long fund = b.rules[4];
        for (int year = 0; year < 30; year++) {
            fund += pay;
            for (int i = 0; i < b.pieces.size(); i++) {
                Piece p = b.pieces.get(i);
                for (int k = 0; k < 40; k++) {
                    int when = p.next + k * p.life;
                    if ((set >> i & 1) == 1) {
                        when = when == 0 ? 0 : when - 1;
                    }
                    fund -= when == year ? p.price : 0;
                }
            }
            ends[year] = fund;
        }
        return ends;
    }

    private int firstLack(int set, long pay) {
        long[] ends = course(set, pay);
        for (int year = 0; year < 30; year++) {
            if (ends[year] < b.rules[5]) {
                return year;
            }
        }
        return -1;
    }

    /** LEVEL PAY and the YEAR in which it BINDS, by halving: more PAY never makes FUND less. */
    private int[] levelPay(int set) {
        long low = -1;
        long high = 2000000;
        while (high - low > 1) {
            long middle = (low + high) / 2;
            if (firstLack(set, middle) < 0) {
                high = middle;
            } else {
                low = middle;
            }
        }
        return new int[] {(int) high, high == 0 ? -1 : firstLack(set, high - 1)};
    }

    int level(int set, int what) {
        if (!isSet(set) || !in(what, 0, 1)) {
            return -1;
        }
        int v = levelPay(set)[what];
        return v < 0 ? -3 : v;
    }

    int left(int set, int pay, int year) {
        if (!isSet(set) || !in(pay, 0, 99999) || !in(year, 0, 29)) {
            return NOTHING;
        }
        return (int) course(set, pay)[year];
    }

    private static List<Integer> listOf(int set) {
        List<Integer> list = new ArrayList<>();
        for (int i = 0; i < 7; i++) {
            if ((set >> i & 1) == 1) {
                list.add(i);
            }
        }
        return list;
    }

    private static boolean worse(int[] a, int[] other) {
        if (a[1] != other[1]) {
            return a[1] > other[1];
        }
        List<Integer> p = listOf(a[0]);
        List<Integer> q = listOf(other[0]);
        if (p.size() != q.size()) {
            return p.size() < q.size();
        }
        for (int i = 0; i < p.size(); i++) {
            if (!p.get(i).equals(q.get(i))) {
                return p.get(i) < q.get(i);
            }
        }
        return false;
    }

    int worst(int w) {
        if (!in(w, 0, 7)) {
            return -1;
        }
        told = new ArrayList<>();
        rows = new ArrayList<>();
        int[] worst = null;
        for (int set = 0; set < 128; set++) {
            if (isSet(set) && listOf(set).size() <= w) {
                int[] found = levelPay(set);
                int[] row = {set, found[0], found[1]};
                told.add(row);
                rows.add(row.clone());
                worst = worst == null || worse(row, worst) ? row : worst;
            }
        }
        return worst[0];
    }

    int row(int i, int what) {
        return in(i, 0, rows.size() - 1) && in(what, 0, 2) ? rows.get(i)[what] : NOTHING;
    }

    int alter(int i, int what, int v) {
        int was = row(i, what);
        if (in(i, 0, rows.size() - 1) && in(what, 0, 2)) {
            rows.get(i)[what] = v;
        }
        return was;
    }

    int drop() {
        if (rows.isEmpty()) {
            return -3;
        }
        rows.remove(rows.size() - 1);
        return rows.size();
    }

    int check() {
        if (told == null) {
            return -3;
        }
        for (int i = 0; i < told.size(); i++) {
            if (i == rows.size() || !Arrays.equals(rows.get(i), told.get(i))) {
                return i;
            }
        }
        return -1;
    }

    // ---- the whole

    int buyers() {
        for (int many = 1; many <= 8; many++) {
            for (int set = 0; set < 256; set++) {
                int area = 0;
                for (int f = 0; f < b.flats.size(); f++) {
                    int o = owner(f, b.today);
                    area += o >= 0 && (set >> o & 1) == 1 ? b.flats.get(f).area : 0;
                }
                if (Integer.bitCount(set) == many && area * 2 > areas()) {
                    return set;
                }
            }
        }
        return -3;
    }

    int many(int what) {
        if (!in(what, 0, 11)) {
            return -1;
        }
        return new int[] {b.today, b.flats.size(), b.costs.size(), b.rights.size(), b.sales.size(), b.payments.size(),
            b.works.size(), b.likes.size(), b.pieces.size(), rows.size(), tape.size(), areas()}[what];
    }

    int keep() {
        kept = b.copy();
        return 1;
    }

    int back() {
        if (kept == null) {
            return -3;
        }
        b = kept.copy();
        return 1;
    }
}
