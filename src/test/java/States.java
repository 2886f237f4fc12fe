/** Houses that tests start from. The rich and the full one are built on DAYS 0, 10 and 50, which Probes asks for. */
final class States {
    private States() {
    }

    static void empty(ShareHouse x) {
        // a new object is the state
    }

    /** A bit of all there is, some of it kept, THE TAPE empty. */
    static void rich(ShareHouse x) {
        x.flat(0, 60, true);
        x.flat(2, 40, false);
        x.flat(5, 100, false);
        Checks.lease(x, 0, "all pays area;");
        Checks.lease(x, 1, "all pays equal;roof pays 1 of 3 if above 1;");
        Checks.lease(x, 2, "all pays floor;lift pays 2 of 3 if not shop;");
        x.law(0, 1);
        x.law(1, 2);
        x.cost(0, 0, 1000);
        x.sell(0, 3, 0);
        x.sell(1, 4, 0);
        x.like(0, 10);
        x.like(0, 20);
        x.like(0, 30);
        x.like(1, 5);
        x.days(10);
        x.cost(1, 5, 777);
        x.pay(3, 100);
        x.work(0, 5000);
        x.letter(0);
        x.price(0, 4000);
        x.work(1, 600);
        x.right(0, 900);
        x.piece(5, 3000, 5);
        x.piece(20, 9000, 3);
        x.piece(3, 100, 0);
        x.rule(4, 500);
        x.rule(5, 100);
        x.keep();
        richLater(x);
    }

    private static void richLater(ShareHouse x) {
        x.days(40);
        x.cost(2, 30, 50);
        x.letter(0);
        x.price(0, 6000);
        x.sell(0, 5, 50);
        x.work(3, 70);
        x.done(2);
        x.right(1, 800);
        x.pay(4, 1);
        x.rule(0, 100);
        x.worst(2);
        x.alter(1, 1, 7);
        x.drop();
    }

    static void richWithTape(ShareHouse x) {
        rich(x);
        Checks.feed(x, "fire pays 1 of 2;");
    }

    /** As much of all as there is room for, but for what is kept. */
    static void full(ShareHouse x) {
        for (int i = 0; i < 8; i++) {
            x.flat(i, 10 + i, i % 2 == 0);
            Checks.lease(x, i, "all pays area;");
        }
        for (int i = 0; i < 16; i++) {
            x.like(i % 4, 10 * i);
        }
        x.days(10);
        fullOfWorks(x);
        for (int i = 0; i < 20; i++) {
            x.cost(i % 6, i % 10, 50 * i);
            x.sell(i % 8, i % 7, i % 10);
            x.pay(i % 8, i + 1);
        }
        x.days(40);
        for (int i = 0; i < 30; i++) {
            x.right(i % 20, 40 * i);
        }
        for (int i = 0; i < 7; i++) {
            x.piece(2 + i, 100 + i, i % 3);
        }
        x.worst(7);
        fillTape(x);
    }

    private static void fullOfWorks(ShareHouse x) {
        for (int i = 0; i < 6; i++) {
            x.work(i, 100 + i);
            x.letter(i);
            x.letter(i);
            for (int j = 0; j < 4; j++) {
                x.price(i, 100 + j);
            }
        }
    }

    static void fillTape(ShareHouse x) {
        for (int i = 0; i < 25; i++) {
            x.feed(0x2020202020202020L, 8);
        }
    }

    /** So many DAYS go by, 100 at most a call. */
    static void pass(ShareHouse x, int days) {
        for (int left = days; left > 0; left -= 100) {
            x.days(Math.min(100, left));
        }
    }
}
