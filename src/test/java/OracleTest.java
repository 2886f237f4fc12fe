import java.util.Random;

/** Random runs of 512 calls, each answered by ShareHouse and by the Oracle: all promises at once. */
final class OracleTest {
    private static final int RUNS = 400;
    private static final int CALLS = 512;
    private static final String[] WORDS = {"roof", "lift", "lamps", "water", "fire", "agent", "all", "and", "pays",
        "nothing", "equal", "area", "floor", "of", "if", "not", "shop", "above", "below", ";", "0", "1", "2", "9",
        "10", "24", "25", "007", "0024", "x", "A", "-", "" + (char) 200, "" + (char) 9};

    private final Checks checks;
    private final Random random;
    private final ShareHouse x = new ShareHouse();
    private final Oracle o = new Oracle();
    private final boolean isCalm;
    private final int dayStep;
    private String pending = "";
    private boolean isFed = false;

    private OracleTest(Checks checks, int seed) {
        this.checks = checks;
        this.random = new Random(seed);
        this.isCalm = seed % 2 == 0;
        this.dayStep = new int[] {2, 8, 40, 100}[seed / 2 % 4];
    }

    public static void main(String[] args) {
        Checks checks = new Checks();
        int runs = args.length > 0 ? Integer.parseInt(args[0]) : RUNS;
        int from = args.length > 1 ? Integer.parseInt(args[1]) : 0;
        for (int seed = from; seed < from + runs; seed++) {
            OracleTest run = new OracleTest(checks, seed);
            for (int i = 0; i < CALLS; i++) {
                run.call(seed, i);
            }
        }
        checks.end("OracleTest");
    }

    /** Mostly a number from low to high, at times one just outside, seldom a wild one. */
    private int some(int low, int high) {
        int dice = random.nextInt(isCalm ? 200 : 40);
        if (dice == 0) {
            return low - 1;
        }
        if (dice == 1) {
            return high + 1;
        }
        if (dice == 2) {
            return random.nextInt();
        }
        if (dice < 6) {
            return dice == 3 ? low : high;
        }
        return high < low ? low : low + random.nextInt(high - low + 1);
    }

    private int today() {
        return o.many(0);
    }

    private int flat() {
        return some(0, o.many(1) - 1);
    }

    private int cost() {
        return some(0, o.many(2) - 1);
    }

    private int work() {
        return some(0, o.many(6) - 1);
    }

    private int set() {
        return some(0, (1 << o.many(8)) - 1);
    }

    private int head() {
        return random.nextInt(3) == 0 ? some(0, 5) : some(0, 1);
    }

    private int pence(int low) {
        return random.nextInt(3) == 0 ? some(low, 99999) : some(low, 300);
    }

    private String heads() {
        if (random.nextInt(3) == 0) {
            return "all";
        }
        StringBuilder text = new StringBuilder(WORDS[random.nextInt(6)]);
        for (int i = random.nextInt(3); i > 0; i--) {
            text.append(" and ").append(WORDS[random.nextInt(6)]);
        }
        return text.toString();
    }

    private String condition() {
        StringBuilder text = new StringBuilder();
        for (int i = random.nextInt(4); i > 0; i--) {
            text.append(text.length() == 0 ? " if " : " and ").append(random.nextInt(3) == 0 ? "not " : "");
            int kind = random.nextInt(3);
            text.append(kind == 0 ? "shop" : (kind == 1 ? "above " : "below") + random.nextInt(10));
        }
        return text.toString();
    }

    private String share() {
        int kind = random.nextInt(6);
        if (kind < 4) {
            return WORDS[9 + kind];
        }
        int m = 1 + random.nextInt(24);
        int n = random.nextInt(m + 1);
        return n + (random.nextBoolean() ? " of " : "of") + m;
    }

    private String text() {
        StringBuilder text = new StringBuilder();
        int clauses = random.nextInt(random.nextInt(10) == 0 ? 15 : 4);
        for (int i = 0; i < clauses; i++) {
            text.append(heads()).append(" pays ").append(share()).append(condition());
            text.append(random.nextBoolean() ? ";" : " ; ");
        }
        if (random.nextInt(4) == 0) {
            spoil(text);
        }
        return text.length() > 208 ? text.substring(0, 208) : text.toString();
    }

    private void spoil(StringBuilder text) {
        int at = random.nextInt(text.length() + 1);
        switch (random.nextInt(3)) {
            case 0 -> text.insert(at, " " + WORDS[random.nextInt(WORDS.length)] + " ");
            case 1 -> text.setLength(at);
            default -> text.insert(at, (char) random.nextInt(256));
        }
    }

    private void call(int seed, int i) {
        String name = "seed " + seed + ", call " + i + ": ";
        if (!pending.isEmpty()) {
            feedSome(name);
            return;
        }
        if (isFed) {
            isFed = false;
            int f = flat();
            due(name, "lease", x.lease(f), o.lease(f), f);
            return;
        }
        int kind = random.nextInt(100);
        if (kind < 28) {
            house(name, random.nextInt(10));
        } else if (kind < 52) {
            costs(name, random.nextInt(8));
        } else if (kind < 68) {
            owners(name, random.nextInt(8));
        } else if (kind < 82) {
            works(name, random.nextInt(10));
        } else if (kind < 94) {
            reserve(name, random.nextInt(10));
        } else {
            whole(name, random.nextInt(8));
        }
    }

    private void due(String name, String call, long got, long want, int... args) {
        StringBuilder text = new StringBuilder(name).append(call).append('(');
        for (int j = 0; j < args.length; j++) {
            text.append(j == 0 ? "" : ", ").append(args[j]);
        }
        checks.due(text.append(')').toString(), got, want);
    }

    private void feedSome(String name) {
        int n = Math.min(pending.length(), 8);
        long w = random.nextLong();
        for (int j = n - 1; j >= 0; j--) {
            w = w & ~(255L << 8 * j) | (long) pending.charAt(j) << 8 * j;
        }
        pending = pending.substring(n);
        due(name, "feed", x.feed(w, n), o.feed(w, n), n);
        isFed = pending.isEmpty() && random.nextInt(20) > 0;
    }

    private void house(String name, int kind) {
        int a = flat();
        int h = head();
        int w = some(0, 1);
        switch (kind) {
            case 0 -> {
                int floor = some(0, 9);
                int area = some(1, 300);
                boolean shop = random.nextBoolean();
                due(name, "flat", x.flat(floor, area, shop), o.flat(floor, area, shop), floor, area, shop ? 1 : 0);
            }
            case 1 -> {
                int n = random.nextInt(4) == 0 ? some(1, 100) : some(1, dayStep);
                due(name, "days", x.days(n), o.days(n), n);
            }
            case 2, 3 -> pending = text();
            case 4 -> {
                int n = some(1, 8);
                due(name, "feed", x.feed(0x2020202020202020L, n), o.feed(0x2020202020202020L, n), n);
            }
            case 5 -> due(name, "lease", x.lease(a), o.lease(a), a);
            case 6 -> {
                int c = some(0, 4);
                int what = some(0, 5);
                due(name, "clause", x.clause(a, c, what), o.clause(a, c, what), a, c, what);
            }
            case 7 -> due(name, "share", x.share(a, h, w), o.share(a, h, w), a, h, w);
            case 8 -> due(name, "sum", x.sum(h, w), o.sum(h, w), h, w);
            default -> {
                int v = some(0, 2);
                due(name, "law", x.law(h, v), o.law(h, v), h, v);
            }
        }
    }

    private void costs(String name, int kind) {
        int c = cost();
        int k = some(0, today());
        int f = flat();
        switch (kind) {
            case 0 -> {
                int what = some(0, 5);
                int v = some(0, new int[] {900, 9999, 90, 99, 99999, 9999}[Math.min(5, Math.max(0, what))]);
                due(name, "rule", x.rule(what, v), o.rule(what, v), what, v);
            }
            case 1, 2 -> {
                int h = head();
                int p = pence(0);
                due(name, "cost", x.cost(h, k, p), o.cost(h, k, p), h, k, p);
            }
            case 3 -> {
                int p = pence(0);
                due(name, "right", x.right(c, p), o.right(c, p), c, p);
            }
            case 4 -> {
                int what = some(0, 7);
                due(name, "costOf", x.costOf(c, what), o.costOf(c, what), c, what);
            }
            case 5, 6 -> due(name, "part", x.part(c, f, k), o.part(c, f, k), c, f, k);
            default -> due(name, "landlord", x.landlord(c, k), o.landlord(c, k), c, k);
        }
    }

    private void owners(String name, int kind) {
        int f = flat();
        int w = some(0, 7);
        int k = random.nextInt(3) == 0 ? today() : some(0, today());
        switch (kind) {
            case 0, 1 -> due(name, "sell", x.sell(f, w, k), o.sell(f, w, k), f, w, k);
            case 2 -> {
                int day = some(0, 900);
                due(name, "owner", x.owner(f, day), o.owner(f, day), f, day);
            }
            case 3 -> {
                int p = pence(1);
                due(name, "pay", x.pay(w, p), o.pay(w, p), w, p);
            }
            case 4, 5, 6 -> {
                int what = some(0, 3);
                due(name, "account", x.account(w, k, what), o.account(w, k, what), w, k, what);
            }
            default -> due(name, "asked", x.asked(w, k), o.asked(w, k), w, k);
        }
    }

    private void works(String name, int kind) {
        int w = work();
        int c = cost();
        int h = head();
        switch (kind) {
            case 0 -> {
                int p = pence(1);
                due(name, "work", x.work(h, p), o.work(h, p), h, p);
            }
            case 1, 2 -> due(name, "letter", x.letter(w), o.letter(w), w);
            case 3 -> {
                int p = pence(1);
                due(name, "price", x.price(w, p), o.price(w, p), w, p);
            }
            case 4 -> due(name, "done", x.done(w), o.done(w), w);
            case 5, 6 -> due(name, "capped", x.capped(w), o.capped(w), w);
            case 7 -> {
                int v = random.nextInt(3) == 0 ? some(0, 9999) : some(0, 99);
                due(name, "like", x.like(h, v), o.like(h, v), h, v);
            }
            case 8 -> due(name, "fair", x.fair(h), o.fair(h), h);
            default -> due(name, "cut", x.cut(c), o.cut(c), c);
        }
    }

    private void reserve(String name, int kind) {
        int set = set();
        int i = some(0, o.many(9) - 1);
        int what = some(0, 2);
        switch (kind) {
            case 0, 1 -> {
                int life = some(2, 20);
                int p = random.nextBoolean() ? 100 * (1 + random.nextInt(3)) : pence(1);
                int next = some(0, Math.min(20, Math.max(0, life)));
                due(name, "piece", x.piece(life, p, next), o.piece(life, p, next), life, p, next);
            }
            case 2 -> {
                int v = some(0, 1);
                due(name, "level", x.level(set, v), o.level(set, v), set, v);
            }
            case 3, 4 -> {
                int pay = pence(0);
                int year = some(0, 29);
                due(name, "left", x.left(set, pay, year), o.left(set, pay, year), set, pay, year);
            }
            case 5 -> {
                int w = some(0, random.nextInt(4) == 0 ? 7 : 2);
                due(name, "worst", x.worst(w), o.worst(w), w);
            }
            case 6 -> due(name, "row", x.row(i, what), o.row(i, what), i, what);
            case 7 -> {
                int v = random.nextBoolean() ? o.row(i, what) : some(0, 9);
                due(name, "alter", x.alter(i, what, v), o.alter(i, what, v), i, what, v);
            }
            case 8 -> due(name, "drop", x.drop(), o.drop());
            default -> due(name, "check", x.check(), o.check());
        }
    }

    private void whole(String name, int kind) {
        switch (kind) {
            case 0, 1, 2 -> due(name, "buyers", x.buyers(), o.buyers());
            case 3, 4, 5 -> {
                int what = some(0, 11);
                due(name, "many", x.many(what), o.many(what), what);
            }
            case 6 -> due(name, "keep", x.keep(), o.keep());
            default -> due(name, "back", x.back(), o.back());
        }
    }
}
