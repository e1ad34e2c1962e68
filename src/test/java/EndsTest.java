/** Promises 14, 15, 19 to 21 and 27: balances, rounds, sure races, the most by them, chances. */
public final class EndsTest {
    private EndsTest() {
    }

    public static void main(String[] args) {
        balances();
        rounds();
        sure();
        stood();
        most();
        mostOfAll();
        chances();
        nearChances();
        Due.end();
    }

    private static void balances() {
        SlateRing x = Due.ring(2, 3, 2);
        Due.slates(x, 0, 0, 0, 2, 4);
        Due.slates(x, 0, 1, 1, 1);
        Due.slates(x, 1, 0, 1, 1, 1);
        Due.is("nothing", x.balance(0, 0, -1), 0);
        x.bet(0, 0, 0, 0, 0, 101);
        x.bet(0, 0, 2, 0, 1, 40);
        x.bet(0, 0, 1, 0, 2, 1000);
        x.joined(0, 0, 0, 0, -1, 1000);
        x.bet(0, 0, 0, 1, 0, 7);
        x.bet(0, 1, 0, 0, 0, 9);
        Due.is("141 less 151", x.balance(0, 0, 0), -10);
        Due.is("141 less 120", x.balance(0, 0, 1), 21);
        Due.is("141", x.balance(0, 0, 2), 141);
        Due.is("worst", x.balance(0, 0, -1), -10);
        Due.is("race 1", x.balance(0, 1, 0), -7);
        Due.is("book 1", x.balance(1, 0, 0), -9);
        Due.is("no book", x.balance(2, 0, 0), -1000000000);
        Due.is("no race", x.balance(0, 2, 0), -1000000000);
        Due.is("no race, worst", x.balance(0, -1, -1), -1000000000);
        Due.is("no horse", x.balance(0, 0, 3), -1000000000);
        Due.is("no horse -2", x.balance(0, 0, -2), -1000000000);
        x.scratch(0, 0);
        Due.is("scratched ones aside", x.balance(0, 0, 0), 40);
        Due.is("at another end", x.balance(0, 0, 1), -80);
        Due.is("worst then", x.balance(0, 0, -1), -80);
        SlateRing y = Due.ring(1, 3);
        Due.slates(y, 0, 0, 5, 5, 5);
        y.bet(0, 0, 0, 0, 1, 100);
        y.bet(0, 0, 0, 0, 2, 10);
        y.scratch(0, 0);
        Due.is("worst of those that run", y.balance(0, 0, -1), -990);
        Due.is("a scratched one's end", y.balance(0, 0, 0), 110);
        y.run(0, 2, 2);
        Due.is("when it is run, too", y.balance(0, 0, 1), -990);
    }

    private static void rounds() {
        SlateRing x = Due.ring(1, 8, 2);
        Due.is("nothing: 0", x.round(0, 0, 0), 0);
        Due.is("through 1", x.round(0, 0, 1), 1);
        Due.slates(x, 0, 0, 1, 2, 4);
        Due.is("1/2, 1/3, 1/6: 1", x.round(0, 0, 0), 1);
        Due.is("through 1", x.round(0, 0, 1), 1);
        x.slate(0, 0, 3, 0);
        Due.is("2/3 more: 5", x.round(0, 0, 0), 5);
        Due.is("through 3", x.round(0, 0, 1), 3);
        x.scratch(0, 0);
        Due.is("1/2 less: 7", x.round(0, 0, 0), 7);
        Due.is("through 6", x.round(0, 0, 1), 6);
        Due.is("no book", x.round(1, 0, 0), -1);
        Due.is("no race", x.round(0, 2, 0), -1);
        Due.is("no what", x.round(0, 0, 2), -1);
        Due.is("no what -1", x.round(0, 0, -1), -1);
        SlateRing y = new SlateRing();
        y.race(8);
        y.book(0);
        Due.ladder(y, 55, 12, 56, 11, 60, 11, 59, 8, 60, 7, 55, 6, 53, 5, 59, 2);
        Due.slates(y, 0, 0, 0, 1, 2, 3, 4, 5, 6, 7);
        java.math.BigInteger above = java.math.BigInteger.ZERO, below = java.math.BigInteger.ONE;
        int[][] all = {{55, 12}, {56, 11}, {60, 11}, {59, 8}, {60, 7}, {55, 6}, {53, 5}, {59, 2}};
        for (int[] p : all) {
            java.math.BigInteger whole = java.math.BigInteger.valueOf(p[0] + p[1]);
            above = above.multiply(whole).add(below.multiply(java.math.BigInteger.valueOf(p[1])));
            below = below.multiply(whole);
        }
        java.math.BigInteger g = above.gcd(below);
        Due.is("eight long ones: above", y.round(0, 0, 0), above.divide(g).longValueExact());
        Due.is("eight long ones: below", y.round(0, 0, 1), below.divide(g).longValueExact());
    }

    private static void sure() {
        SlateRing x = Due.ring(2, 3);
        Due.is("no race", x.sure(1), -1);
        Due.is("no race -1", x.sure(-1), -1);
        Due.is("nothing stands", x.sure(0), 0);
        Due.slates(x, 0, 0, 1, 2, 4);
        Due.is("1 is not less than 1", x.sure(0), 0);
        x.slate(1, 0, 2, 5);
        Due.is("by the longest of each", x.sure(0), 1);
        x.slate(1, 0, 0, 0);
        Due.is("a shorter one is nothing to it", x.sure(0), 1);
        x.slate(0, 0, 1, -1);
        Due.is("one has none", x.sure(0), 0);
        x.scratch(0, 1);
        Due.is("it is scratched: 1/2 and 1/11", x.sure(0), 1);
        x.run(0, 1, 1);
        Due.is("run", x.sure(0), 0);
        SlateRing y = new SlateRing();
        y.race(2);
        y.race(2);
        y.book(0);
        y.book(0);
        Due.ladder(y, 1, 1, 9, 1);
        Due.slates(y, 0, 0, 1, 1);
        Due.slates(y, 0, 1, 1, 1);
        Due.slates(y, 1, 1, 0, 0);
        y.bet(0, 0, 0, 0, 0, 1);
        Due.is("with book 0", y.sure(1), 1);
        y.run(0, 1, 1);
        Due.is("book 0 is over", y.bookIs(0, 1), 1);
        Due.is("without it", y.sure(1), 0);
        Due.is("no most without it", y.most(1, 3000, -1), 0);
    }

    private static void stood() {
        SlateRing x = Due.ring(1, 2, 2);
        Due.slates(x, 0, 0, 2, 2);
        Due.is("none yet", x.stood(0, 0), 0);
        Due.is("no first", x.stood(0, 1), -1);
        Due.is("no last", x.stood(0, 2), -1);
        Due.is("no row", x.stood(0, 3), 0);
        x.now(3);
        Due.is("0 to 2", x.stood(0, 0), 3);
        x.slate(0, 0, 0, 0);
        x.slate(0, 0, 0, 2);
        x.now(4);
        Due.is("as it was when it ended", x.stood(0, 3), 4);
        x.slate(0, 0, 0, 0);
        x.now(5);
        x.slate(0, 0, 0, 2);
        x.now(5);
        x.now(10);
        Due.is("all but second 4", x.stood(0, 0), 9);
        Due.is("first", x.stood(0, 1), 0);
        Due.is("last", x.stood(0, 2), 9);
        Due.is("5 to 9", x.stood(0, 3), 5);
        x.slate(0, 0, 1, 0);
        x.now(11);
        x.slate(0, 0, 1, 2);
        x.now(12);
        Due.is("second 11 alone", x.stood(0, 2), 11);
        Due.is("5 to 9 still", x.stood(0, 3), 5);
        x.run(0, 1, 1);
        x.now(599);
        Due.is("run: not any more", x.stood(0, 0), 10);
        Due.is("the other race: never", x.stood(1, 0), 0);
        Due.is("no race", x.stood(2, 0), -1);
        Due.is("no what", x.stood(0, 4), -1);
        Due.is("no what -1", x.stood(0, -1), -1);
        SlateRing z = Due.ring(1, 2);
        Due.slates(z, 0, 0, 2, 2);
        z.now(1);
        z.now(2);
        z.now(3);
        Due.is("one row, second by second", z.stood(0, 3), 3);
        SlateRing y = Due.ring(1, 2);
        y.now(20);
        y.race(2);
        Due.slates(y, 0, 1, 2, 2);
        y.now(22);
        y.now(599);
        Due.is("from 20 on", y.stood(1, 1), 20);
        Due.is("to 598", y.stood(1, 2), 598);
        Due.is("one row", y.stood(1, 3), 579);
    }

    private static void most() {
        SlateRing x = Due.ring(2, 3);
        Due.slates(x, 0, 0, 2, 2, 4);
        Due.slates(x, 1, 0, 0, 2, 5);
        Due.is("one penny", x.most(0, 1, -1), 0);
        Due.is("4 1 ...", x.most(0, 3, -1), 0);
        Due.is("no purse 0", x.most(0, 0, -1), -1);
        Due.is("no purse 3001", x.most(0, 3001, -1), -1);
        Due.is("no race", x.most(1, 10, -1), -1);
        Due.is("no horse 3", x.most(0, 10, 3), -1);
        Due.is("no horse -2", x.most(0, 10, -2), -1);
        // 2 and 2 at 2/1 and 1 at 10/1 have 6, 6 and 11 back
        Due.is("5 pence", x.most(0, 5, -1), 1);
        Due.is("on 0", x.most(0, 5, 0), 2);
        Due.is("on 1", x.most(0, 5, 1), 2);
        Due.is("on 2", x.most(0, 5, 2), 1);
        // 3, 3 and 1 gain 2; 4, 4 and 2 nothing more: the least stakes of like ones
        Due.is("7 pence", x.most(0, 7, -1), 2);
        Due.is("10 pence", x.most(0, 10, -1), 2);
        Due.is("on 0 of 10", x.most(0, 10, 0), 3);
        Due.is("on 2 of 10", x.most(0, 10, 2), 1);
        x.slate(0, 0, 2, -1);
        x.slate(1, 0, 2, -1);
        Due.is("horse 2 has none", x.most(0, 3000, -1), 0);
        x.scratch(0, 2);
        // 1/3 and 1/3: 2 pence in three
        Due.is("it is scratched", x.most(0, 3000, -1), 1500);
        Due.is("on 0", x.most(0, 3000, 0), 1500);
        Due.is("on it", x.most(0, 3000, 2), 0);
        x.run(0, 1, 1);
        Due.is("run", x.most(0, 10, -1), -1);
    }

    /** Every way to stake a small purse on three horses. */
    private static void mostOfAll() {
        int[][] rings = {{3, 1, 2, 1, 9, 2}, {7, 2, 5, 2, 3, 1}, {60, 1, 59, 1, 1, 12}, {11, 5, 9, 4, 7, 3}, {4, 1, 4, 1, 4, 1},
            {5, 2, 8, 3, 17, 6}, {53, 12, 9, 8, 29, 12}, {20, 9, 20, 9, 59, 12}};
        for (int[] p : rings) {
            SlateRing x = new SlateRing();
            x.race(3);
            x.book(0);
            tell(x, p);
            for (int purse = 1; purse <= 40; purse++) {
                int[] best = best(p, purse);
                Due.is("most of " + purse, x.most(0, purse, -1), best[0]);
                for (int h = 0; h < 3; h++) {
                    Due.is("stake " + h + " of " + purse, x.most(0, purse, h), best[0] == 0 ? 0 : best[h + 1]);
                }
            }
        }
    }

    private static void tell(SlateRing x, int[] p) {
        java.util.TreeMap<Double, int[]> all = new java.util.TreeMap<>();
        for (int h = 0; h < 3; h++) {
            all.put((double) p[2 * h] / p[2 * h + 1], new int[] {p[2 * h], p[2 * h + 1]});
        }
        int[] prices = all.values().stream().flatMapToInt(java.util.Arrays::stream).toArray();
        Due.ladder(x, prices);
        for (int h = 0; h < 3; h++) {
            x.slate(0, 0, h, all.headMap((double) p[2 * h] / p[2 * h + 1]).size());
        }
    }

    private static int[] best(int[] p, int purse) {
        int[] best = {0, 0, 0, 0};
        for (int all = 0; all <= purse; all++) {
            for (int x = 0; x <= all; x++) {
                for (int y = 0; x + y <= all; y++) {
                    int z = all - x - y;
                    int least = Math.min(back(p, 0, x), Math.min(back(p, 1, y), back(p, 2, z)));
                    if (least - all > best[0]) {
                        best = new int[] {least - all, x, y, z};
                    }
                }
            }
        }
        return best;
    }

    private static int back(int[] p, int h, int stake) {
        return stake + stake * p[2 * h] / p[2 * h + 1];
    }

    /** Two horses of which the first has 1/2, 3/5, 4/7, 5/9, 6/11 and so on, by more and more books. */
    private static void nearChances() {
        int[][] steps = {{0, 0}, {1, 2}, {2, 3}, {3, 4}};
        SlateRing x = new SlateRing();
        x.race(2);
        Due.ladder(x, 1, 1, 2, 1, 3, 1, 4, 1, 5, 1);
        for (int b = 0; b < 4; b++) {
            x.book(0);
            Due.slates(x, b, 0, steps[b]);
            Due.is("least above with book " + b, x.chance(0, 0, 0), 1);
            Due.is("least below with book " + b, x.chance(0, 0, 1), 2);
        }
        Due.is("4/7: above", x.chance(0, 0, 2), 4);
        Due.is("4/7: below", x.chance(0, 0, 3), 7);
        Due.is("3/7: above", x.chance(0, 1, 0), 3);
        Due.is("3/7: below", x.chance(0, 1, 1), 7);
        Due.is("1/2: above", x.chance(0, 1, 2), 1);
        Due.is("1/2: below", x.chance(0, 1, 3), 2);
        Due.slates(x, 0, 0, 4, 3);
        // 5/11, 4/7, 5/9 and 6/11
        Due.is("5/11: above", x.chance(0, 0, 0), 5);
        Due.is("5/11: below", x.chance(0, 0, 1), 11);
        Due.is("4/7 still", x.chance(0, 0, 3), 7);
    }

    private static void chances() {
        SlateRing x = Due.ring(3, 3);
        Due.is("no such book", x.chance(0, 0, 0), -2);
        Due.slates(x, 0, 0, 1, 2, 4);
        Due.slates(x, 1, 0, 1, 1, 1);
        Due.slates(x, 2, 0, 5, 0, -1);
        Due.is("least above", x.chance(0, 0, 0), 1);
        Due.is("least below", x.chance(0, 0, 1), 3);
        Due.is("greatest above", x.chance(0, 0, 2), 1);
        Due.is("greatest below", x.chance(0, 0, 3), 2);
        Due.is("like ones", x.chance(0, 1, 0), 1);
        Due.is("like ones below", x.chance(0, 1, 3), 3);
        Due.is("the least of 2", x.chance(0, 2, 1), 6);
        Due.is("the greatest of 2", x.chance(0, 2, 3), 3);
        x.scratch(0, 2);
        // with books 0 and 1 3/5 and 1/2, with book 2 1/11 through 25/33
        Due.is("book 2 has all now", x.chance(0, 0, 0), 3);
        Due.is("through 25", x.chance(0, 0, 1), 25);
        Due.is("3", x.chance(0, 0, 2), 3);
        Due.is("through 5", x.chance(0, 0, 3), 5);
        Due.is("scratched", x.chance(0, 2, 0), -1);
        Due.is("no race", x.chance(1, 0, 0), -1);
        Due.is("no horse", x.chance(0, 3, 0), -1);
        Due.is("no what", x.chance(0, 0, 4), -1);
        Due.is("no what -1", x.chance(0, 0, -1), -1);
        x.run(0, 1, 1);
        Due.is("when it is run, too", x.chance(0, 0, 3), 5);
    }
}
