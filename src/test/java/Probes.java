import java.util.ArrayList;
import java.util.List;

/**
 * Calls that together tell all that a house holds: two houses that answer them alike are alike. They come in groups,
 * each for a new pair of houses, so that no object is used for more than 512 calls.
 */
final class Probes {
    static final List<List<Edges.Call>> GROUPS = groups();
    private static final int GROUP_MOST = 140;

    private Probes() {
    }

    private static List<List<Edges.Call>> groups() {
        List<Edges.Call> all = new ArrayList<>();
        counts(all);
        leases(all);
        costs(all);
        owners(all);
        reserve(all);
        List<List<Edges.Call>> groups = new ArrayList<>();
        for (int at = 0; at < all.size(); at += GROUP_MOST) {
            groups.add(all.subList(at, Math.min(all.size(), at + GROUP_MOST)));
        }
        groups.add(changing());
        groups.add(kept());
        return groups;
    }

    private static void counts(List<Edges.Call> all) {
        for (int i = 0; i < 12; i++) {
            int what = i;
            all.add(x -> x.many(what));
        }
        all.add(ShareHouse::check);
        all.add(ShareHouse::buyers);
        for (int i = 0; i < 6; i++) {
            int number = i;
            all.add(x -> x.fair(number));
            all.add(x -> x.capped(number));
        }
    }

    private static void leases(List<Edges.Call> all) {
        for (int i = 0; i < 8 * 12 * 6; i++) {
            int at = i;
            all.add(x -> x.clause(at / 72, at / 6 % 12, at % 6));
        }
        for (int i = 0; i < 8 * 6 * 2; i++) {
            int at = i;
            all.add(x -> x.share(at / 12, at / 2 % 6, at % 2));
        }
        for (int i = 0; i < 12; i++) {
            int at = i;
            all.add(x -> x.sum(at / 2, at % 2));
        }
    }

    private static void costs(List<Edges.Call> all) {
        for (int i = 0; i < 20 * 8; i++) {
            int at = i;
            all.add(x -> x.costOf(at / 8, at % 8));
            all.add(x -> x.part(at / 8, at % 8, x.many(0)));
        }
        for (int i = 0; i < 20; i++) {
            int cost = i;
            all.add(x -> x.landlord(cost, 0));
            all.add(x -> x.landlord(cost, 10));
            all.add(x -> x.landlord(cost, x.many(0)));
        }
    }

    private static void owners(List<Edges.Call> all) {
        for (int i = 0; i < 8; i++) {
            int number = i;
            for (int day : new int[] {0, 10, 49, 50, 900}) {
                all.add(x -> x.owner(number, day));
            }
            for (int j = 0; j < 4; j++) {
                int what = j;
                all.add(x -> x.account(number, 10, what));
                all.add(x -> x.account(number, x.many(0), what));
            }
            all.add(x -> x.asked(number, 10));
            all.add(x -> x.asked(number, x.many(0)));
        }
    }

    private static void reserve(List<Edges.Call> all) {
        for (int i = 0; i < 128; i++) {
            int number = i;
            all.add(x -> x.level(number, 0));
            all.add(x -> x.level(number, 1));
            all.add(x -> x.left(number, 0, 29));
            for (int j = 0; j < 3; j++) {
                int what = j;
                all.add(x -> x.row(number, what));
            }
        }
    }

    /** What only calls that change something tell: laws, rules, letters, prices, what is on the tape, what was told. */
    private static List<Edges.Call> changing() {
        List<Edges.Call> all = new ArrayList<>();
        for (int i = 0; i < 6; i++) {
            int number = i;
            all.add(x -> x.law(number, 0));
            all.add(x -> x.letter(number));
            all.add(x -> x.price(number, 1));
        }
        all.add(x -> x.lease(0));
        all.add(x -> x.clause(0, 0, 0));
        all.add(x -> x.clause(0, 1, 0));
        all.add(x -> x.worst(1));
        all.add(ShareHouse::drop);
        all.add(ShareHouse::check);
        all.add(x -> x.right(0, 3));
        all.add(x -> x.cost(0, 0, 3));
        all.add(x -> x.sell(0, 0, 0));
        all.add(x -> x.pay(0, 1));
        all.add(x -> x.like(0, 0));
        all.add(x -> x.piece(2, 1, 0));
        all.add(x -> x.flat(0, 1, false));
        all.add(x -> x.work(0, 1));
        all.add(x -> x.days(30));
        for (int i = 0; i < 6; i++) {
            int number = i;
            all.add(x -> x.rule(number, 0));
            all.add(x -> x.capped(number));
            all.add(x -> x.done(number));
        }
        return all;
    }

    private static List<Edges.Call> kept() {
        List<Edges.Call> all = new ArrayList<>();
        all.add(ShareHouse::drop);
        all.add(ShareHouse::check);
        all.add(ShareHouse::back);
        counts(all);
        for (int i = 0; i < 20; i++) {
            int cost = i;
            all.add(x -> x.costOf(cost, 2));
            all.add(x -> x.landlord(cost, x.many(0)));
        }
        for (int i = 0; i < 8; i++) {
            int number = i;
            all.add(x -> x.clause(number, 0, 0));
            all.add(x -> x.owner(number, 900));
            all.add(x -> x.account(number, x.many(0), 2));
            all.add(x -> x.rule(number, 0));
            all.add(x -> x.law(number, 0));
            all.add(x -> x.letter(number));
            all.add(x -> x.price(number, 1));
        }
        all.add(x -> x.level(0, 0));
        return all;
    }
}
