import java.util.ArrayList;
import java.util.List;

/** A ring in which much has happened, all that can be seen of it, and each call with one wrong argument. */
final class Wild {
    interface Call {
        long of(SlateRing x, int... a);
    }

    /** A call by name, its answer when refused, arguments that are right, and for each argument wrong ones. */
    static final class Kind {
        final String name;
        final long refused;
        final Call call;
        final int[] right;
        final int[][] wrong;

        Kind(String name, long refused, Call call, int[] right, int[]... wrong) {
            this.name = name;
            this.refused = refused;
            this.call = call;
            this.right = right;
            this.wrong = wrong;
        }
    }

    private static final int LEAST = Integer.MIN_VALUE;
    private static final int GREATEST = Integer.MAX_VALUE;
    static final int[] BOOKS = {-1, 3, 4, 31, LEAST, GREATEST};
    static final int[] RACES = {-1, 3, 4, 31, 1 << 28, LEAST, GREATEST};
    static final int[] HORSES = {-2, 5, 8, 9, 32, LEAST, GREATEST};
    static final int[] BETTORS = {-1, 16, 32, LEAST, GREATEST};
    static final int[] STAKES = {0, -1, 20001, 1 << 30, LEAST, GREATEST};
    static final int[] ONES = {-1, 2, LEAST, GREATEST};
    static final int[] THREES = {-1, 3, LEAST, GREATEST};
    static final int[] FOURS = {-1, 4, 5, LEAST, GREATEST};

    private Wild() {
    }

    /**
     * Races of 5, 4 and 2 horses, the last one run; horse 3 of race 0 is scratched. Books 0 to 2, of which book 2 is over.
     * At second 9; races 0 and 1 were sure for a while. 20 bytes are on the tape: c(1=1) and the price 1/1.
     */
    static SlateRing ring() {
        SlateRing x = new SlateRing();
        x.race(5);
        x.race(4);
        x.race(2);
        x.book(5000);
        x.book(700);
        x.book(0);
        Due.ladder(x, 1, 2, 1, 1, 2, 1, 3, 1, 5, 1, 10, 1);
        for (int b = 0; b < 3; b++) {
            Due.slates(x, b, 0, 4, 5, 4, 5, 3);
            Due.slates(x, b, 1, 5, 5, 5, b == 1 ? -1 : 5);
            Due.slates(x, b, 2, 2, 5);
        }
        Due.way(x, 0, "s1(k>20);l1(k>30)");
        Due.way(x, 1, "c(n=3)");
        x.bet(1, 0, 0, 0, 0, 25);
        x.bet(2, 1, 2, 0, 1, 40);
        x.now(3);
        x.bet(1, 0, 1, 0, 3, 10);
        x.joined(3, 0, 1, 2, -1, 15);
        x.bet(4, 2, 0, 2, 1, 10);
        x.bet(4, 1, 0, 2, 0, 10);
        x.scratch(0, 3);
        x.now(7);
        x.slate(0, 1, 2, 0);
        x.run(2, 2, 3);
        x.now(9);
        x.bet(2, 0, 0, 0, 0, 10);
        Due.feed(x, 'c', '(', '1', '=', '1', ')', 1, 1);
        return x;
    }

    /** All that can be asked of what is there. */
    static List<Long> shot(SlateRing x) {
        List<Long> all = new ArrayList<>();
        for (int what = 0; what <= 33; what++) {
            all.add((long) x.count(what));
        }
        for (int b = 0; b < x.count(2); b++) {
            for (int what = 0; what < 3; what++) {
                all.add((long) x.bookIs(b, what));
            }
            for (int r = 0; r < 3; r++) {
                all.add(x.round(b, r, 0));
                all.add(x.round(b, r, 1));
                for (int h = 0; h < (r == 0 ? 5 : r == 1 ? 4 : 2); h++) {
                    all.add((long) x.step(b, r, h));
                    all.add((long) x.balance(b, r, h));
                }
            }
        }
        for (int i = 0; i < x.count(3); i++) {
            all.add((long) x.has(i, 0));
            all.add((long) x.has(i, 1));
            all.add((long) x.deduction(i));
        }
        for (int r = 0; r < 3; r++) {
            all.add((long) x.sure(r));
            for (int what = 0; what < 4; what++) {
                all.add((long) x.stood(r, what));
            }
        }
        for (int z = 1; z < 5; z++) {
            all.add((long) x.knew(z, 0) + 100 * x.knew(z, 1) + 10000 * x.purse(z, 1, 5));
        }
        return all;
    }

    /** What comes of a ring later on: bets, ways, seconds, races that are run. */
    static List<Long> later(SlateRing x) {
        List<Long> all = new ArrayList<>();
        all.add((long) x.bet(5, 0, 2, 0, 2, 33));
        all.add((long) x.bet(5, 1, 0, 0, 1, 33));
        all.add((long) x.joined(5, 1, 1, 1, -1, 33));
        all.add((long) x.plan(5, 0, 1, 10, 3, -1));
        all.add((long) x.step(0, 0, 4));
        all.add((long) x.step(1, 0, 1));
        all.add((long) x.book(1));
        all.add((long) x.way(1, 6));
        all.add((long) x.count(5));
        all.add((long) x.bet(5, 1, 0, 0, 0, 33));
        all.add((long) x.step(1, 0, 0));
        all.add((long) (x.now(12) ? 1 : 0));
        all.add((long) x.stood(0, 3));
        all.add((long) x.run(0, 2, 6));
        all.add((long) x.run(1, 4, 4));
        for (int i = 0; i < x.count(3); i++) {
            all.add((long) x.has(i, 0));
            all.add((long) x.has(i, 1));
        }
        for (int b = 0; b < 3; b++) {
            all.add((long) x.bookIs(b, 0));
        }
        return all;
    }

    private static int bit(boolean b) {
        return b ? 1 : 0;
    }

    private static int[] of(int... a) {
        return a;
    }

    /** The calls that change something when they are not refused, as the document has them. */
    static List<Kind> changing() {
        List<Kind> all = new ArrayList<>();
        all.add(new Kind("now", 0, (x, a) -> bit(x.now(a[0])), of(9), of(8, 0, -1, 600, LEAST, GREATEST)));
        all.add(new Kind("race", -1, (x, a) -> x.race(a[0]), of(), of()));
        all.add(new Kind("book", -1, (x, a) -> x.book(a[0]), of(1), of(-1, 1000001, LEAST, GREATEST)));
        all.add(new Kind("ladder", 0, (x, a) -> bit(x.ladder(a[0])), of(), of()));
        all.add(new Kind("way", -1, (x, a) -> x.way(a[0], a[1]), of(0, 6), BOOKS, of(0, -1, 21, 160, 161, 200, LEAST, GREATEST)));
        all.add(new Kind("slate", 0, (x, a) -> bit(x.slate(a[0], a[1], a[2], a[3])), of(0, 0, 0, 0), BOOKS, of(-1, 2, 3, LEAST, GREATEST),
            of(-1, 3, 5, 8, LEAST, GREATEST), of(-2, 6, 24, LEAST, GREATEST)));
        all.add(new Kind("bet", -1, (x, a) -> x.bet(a[0], a[1], a[2], a[3], a[4], a[5]), of(0, 0, 0, 0, 0, 1), BETTORS,
            of(-1, 2, 3, LEAST, GREATEST), THREES, of(-1, 2, 3, LEAST, GREATEST), of(-1, 3, 5, 8, LEAST, GREATEST), STAKES));
        all.add(new Kind("joined", -1, (x, a) -> x.joined(a[0], a[1], a[2], a[3], a[4], a[5]), of(0, 0, 0, 0, -1, 1), BETTORS,
            of(-1, 2, 3, LEAST, GREATEST), of(-1, -2, 3, 5, LEAST, GREATEST), of(-1, -2, 4, LEAST, GREATEST),
            of(0, 1, 2, -2, LEAST, GREATEST), STAKES));
        all.add(new Kind("scratch", 0, (x, a) -> bit(x.scratch(a[0], a[1])), of(0, 0), of(-1, 2, 3, LEAST, GREATEST), of(-1, 3, 5, LEAST, GREATEST)));
        all.add(new Kind("run", -1, (x, a) -> x.run(a[0], a[1], a[2]), of(0, 1, 3), of(-1, 2, 3, LEAST, GREATEST),
            of(0, 4, 8, 9, 32, 33, -1, LEAST, LEAST + 1, GREATEST), of(0, 2, 9, 11, 33, -1, LEAST, LEAST + 3, GREATEST)));
        all.add(new Kind("check", -2, (x, a) -> x.check(a[0], a[1]), of(0, 2), BOOKS, of(-1, 3, 4, 1 << 28, 1 << 29, 1 << 30, LEAST, GREATEST)));
        return all;
    }

    /** The calls that only ask. */
    static List<Kind> asking() {
        List<Kind> all = new ArrayList<>();
        all.add(new Kind("step", -1, (x, a) -> x.step(a[0], a[1], a[2]), of(0, 0, 0), BOOKS, RACES, of(-1, -2, 5, 8, LEAST, GREATEST)));
        all.add(new Kind("balance", -1000000000, (x, a) -> x.balance(a[0], a[1], a[2]), of(0, 0, 0), BOOKS, RACES, HORSES));
        all.add(new Kind("round", -1, (x, a) -> x.round(a[0], a[1], a[2]), of(0, 0, 0), BOOKS, RACES, ONES));
        all.add(new Kind("has", -1, (x, a) -> x.has(a[0], a[1]), of(4, 0), of(-1, 7, 80, LEAST, GREATEST), ONES));
        all.add(new Kind("deduction", -1, (x, a) -> x.deduction(a[0]), of(0), of(3, -1, 7, 80, LEAST, GREATEST)));
        all.add(new Kind("bookIs", -1, (x, a) -> x.bookIs(a[0], a[1]), of(0, 0), BOOKS, THREES));
        all.add(new Kind("sure", -1, (x, a) -> x.sure(a[0]), of(0), RACES));
        all.add(new Kind("stood", -1, (x, a) -> x.stood(a[0], a[1]), of(0, 0), RACES, FOURS));
        all.add(new Kind("most", -1, (x, a) -> x.most(a[0], a[1], a[2]), of(0, 3000, -1), of(2, -1, 3, LEAST, GREATEST),
            of(0, -1, 3001, LEAST, GREATEST), HORSES));
        all.add(new Kind("layOff", -1, (x, a) -> x.layOff(a[0], a[1], a[2], a[3]), of(0, 0, 100, 0), BOOKS, of(2, -1, 3, LEAST, GREATEST),
            of(99, 0, -100, 5001, LEAST, GREATEST), FOURS));
        all.add(new Kind("plan", -1, (x, a) -> x.plan(a[0], a[1], a[2], a[3], a[4], a[5]), of(0, 0, 0, 1, 1, -1), BETTORS,
            of(2, -1, 3, LEAST, GREATEST), of(3, -1, 5, LEAST, GREATEST), STAKES, of(0, -1, 5, LEAST, GREATEST), of(1, 2, -2, LEAST, GREATEST)));
        all.add(new Kind("together", -1, (x, a) -> x.together(a[0], a[1], a[2], a[3]), of(1, 2, 1, 9), of(2, -1, 16, LEAST, GREATEST),
            of(1, -1, 16, LEAST, GREATEST), of(0, -1, 25, LEAST, GREATEST), of(-1, 600, LEAST, GREATEST)));
        all.add(new Kind("purse", -1, (x, a) -> x.purse(a[0], a[1], a[2]), of(1, 1, 9), BETTORS, of(0, -1, 25, LEAST, GREATEST),
            of(-1, 600, LEAST, GREATEST)));
        all.add(new Kind("knew", -1, (x, a) -> x.knew(a[0], a[1]), of(4, 0), BETTORS, ONES));
        all.add(new Kind("chance", -1, (x, a) -> x.chance(a[0], a[1], a[2]), of(0, 0, 0), RACES, of(3, -1, 5, 8, LEAST, GREATEST), FOURS));
        all.add(new Kind("count", -1, (x, a) -> x.count(a[0]), of(0), of(-1, 6, 7, 8, 9, 13, 14, 19, 23, 24, 29, 33, 34, 40, LEAST, GREATEST)));
        return all;
    }
}
