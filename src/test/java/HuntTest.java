/** Promises 22 to 26: laying off, plans, who bets together, who is of one purse, who knew. */
public final class HuntTest {
    private HuntTest() {
    }

    public static void main(String[] args) {
        layOff();
        layOffAlike();
        plan();
        planMoves();
        together();
        onePurse();
        knew();
        Due.end();
    }

    private static void layOff() {
        SlateRing x = Due.ring(3, 3);
        Due.slates(x, 0, 0, 2, 2, 2);
        Due.slates(x, 1, 0, 1, 5, -1);
        Due.slates(x, 2, 0, 2, 2, 2);
        Due.is("there is none", x.layOff(0, 0, 5000, 0), -2);
        x.bet(0, 0, 0, 0, 0, 400);
        // -800, 400, 400: 400 at 2/1 makes 0, 0, 0
        Due.is("book", x.layOff(0, 0, 5000, 0), 2);
        Due.is("horse", x.layOff(0, 0, 5000, 1), 0);
        Due.is("stake", x.layOff(0, 0, 5000, 2), 400);
        Due.is("worst then", x.layOff(0, 0, 5000, 3), 0);
        Due.is("300 at most", x.layOff(0, 0, 399, 2), 300);
        Due.is("worst of that", x.layOff(0, 0, 399, 3), -200);
        Due.is("100 at most", x.layOff(0, 0, 100, 2), 100);
        Due.is("own book", x.layOff(2, 0, 100, 2), -2);
        Due.is("no book", x.layOff(3, 0, 100, 2), -1);
        Due.is("no race", x.layOff(0, 1, 100, 2), -1);
        Due.is("greatest 99", x.layOff(0, 0, 99, 2), -1);
        Due.is("greatest 5001", x.layOff(0, 0, 5001, 2), -1);
        Due.is("no what", x.layOff(0, 0, 100, 4), -1);
        Due.is("no what -1", x.layOff(0, 0, 100, -1), -1);
        x.slate(2, 0, 0, -1);
        // at 1/1 with book 1: 600 makes -200, -200, -200
        Due.is("book 1 then", x.layOff(0, 0, 5000, 0), 1);
        Due.is("600", x.layOff(0, 0, 5000, 2), 600);
        Due.is("-200", x.layOff(0, 0, 5000, 3), -200);
        x.run(0, 1, 1);
        Due.is("run", x.layOff(0, 0, 5000, 0), -1);
    }

    private static void layOffAlike() {
        SlateRing x = Due.ring(3, 3, 2);
        Due.slates(x, 0, 0, 1, 1, 1);
        Due.slates(x, 1, 0, 3, 3, 3);
        Due.slates(x, 2, 0, 3, 3, 3);
        Due.slates(x, 1, 1, 5, 5);
        x.bet(0, 0, 0, 0, 1, 50);
        x.bet(0, 0, 0, 0, 2, 150);
        // 200, 100, -100: 100 at 3/1 on 2 makes 100, 0, 200
        Due.is("the lowest book", x.layOff(0, 0, 5000, 0), 1);
        Due.is("horse 2", x.layOff(0, 0, 5000, 1), 2);
        Due.is("the least stake", x.layOff(0, 0, 5000, 2), 100);
        Due.is("0", x.layOff(0, 0, 5000, 3), 0);
        x.bet(0, 1, 0, 1, 0, 20000);
        x.run(1, 1, 1);
        Due.is("book 1 is over", x.bookIs(1, 1), 1);
        Due.is("book 2 then", x.layOff(0, 0, 5000, 0), 2);
        Due.is("of one that is over, too", x.layOff(1, 0, 5000, 0), -2);
        SlateRing z = Due.ring(2, 2);
        Due.slates(z, 1, 0, 5, 5);
        Due.slates(z, 0, 0, 0, 0);
        z.bet(0, 1, 0, 0, 1, 30);
        // 30, -300: 200 at 1/2 makes -170, -200
        Due.is("with book 0", z.layOff(1, 0, 5000, 0), 0);
        Due.is("at its shortest", z.layOff(1, 0, 5000, 2), 200);
        Due.is("-200", z.layOff(1, 0, 5000, 3), -200);
        SlateRing y = Due.ring(2, 3);
        Due.slates(y, 0, 0, 1, 1, 1);
        Due.slates(y, 1, 0, 0, 0, 0);
        y.bet(0, 0, 0, 0, 0, 50);
        y.bet(0, 0, 0, 0, 1, 50);
        // 0, 0, 100: none lifts both of the worst
        Due.is("two worst ones", y.layOff(0, 0, 5000, 0), -2);
        Due.slates(y, 1, 0, -1, 5, -1);
        y.bet(0, 0, 0, 0, 1, 300);
        // 300, -300, 400: 100 at 10/1 makes 200, 700, 300
        Due.is("horse 1", y.layOff(0, 0, 5000, 1), 1);
        Due.is("not more than needs be", y.layOff(0, 0, 5000, 2), 100);
        Due.is("the others are worst then", y.layOff(0, 0, 5000, 3), 200);
    }

    private static void plan() {
        SlateRing x = Due.ring(3, 3, 2);
        Due.slates(x, 0, 0, 2, 2, -1);
        Due.slates(x, 1, 0, 3, 3, -1);
        Due.slates(x, 2, 0, 3, 2, -1);
        Due.is("the longest", x.plan(0, 0, 0, 100, 1, -1), 300);
        Due.is("the least row", x.plan(0, 0, 0, 100, 1, 0), 1);
        Due.is("nothing stands", x.plan(0, 0, 2, 100, 1, -1), -2);
        Due.is("nothing stands, a book", x.plan(0, 0, 2, 100, 1, 0), -2);
        Due.is("four", x.plan(15, 0, 1, 7, 4, -1), 84);
        Due.is("the fourth", x.plan(15, 0, 1, 7, 4, 3), 1);
        Due.is("bettor 16", x.plan(16, 0, 0, 100, 1, -1), -1);
        Due.is("no race", x.plan(0, 2, 0, 100, 1, -1), -1);
        Due.is("no horse", x.plan(0, 0, 3, 100, 1, -1), -1);
        Due.is("stake 0", x.plan(0, 0, 0, 0, 1, -1), -1);
        Due.is("stake 20001", x.plan(0, 0, 0, 20001, 1, -1), -1);
        Due.is("n 0", x.plan(0, 0, 0, 100, 0, -1), -1);
        Due.is("n 5", x.plan(0, 0, 0, 100, 5, -1), -1);
        Due.is("no second of one", x.plan(0, 0, 0, 100, 1, 1), -1);
        Due.is("no what -2", x.plan(0, 0, 0, 100, 1, -2), -1);
        Due.is("nothing came", x.count(3), 0);
        x.scratch(0, 1);
        Due.is("scratched", x.plan(0, 0, 1, 100, 1, -1), -1);
        x.run(0, 1, 1);
        Due.is("run", x.plan(0, 0, 0, 100, 1, -1), -1);
    }

    private static void planMoves() {
        SlateRing x = Due.ring(3, 3, 2);
        Due.slates(x, 0, 0, 5, 2, 2);
        Due.slates(x, 1, 0, 4, 2, 2);
        Due.slates(x, 2, 0, 4, 2, 2);
        Due.way(x, 0, "s3(1=1)");
        Due.way(x, 1, "s1(k>9)");
        Due.way(x, 2, "c(n>0)");
        // 0: 10 2 0.5, 1: 5 3 2 1, 2: 5 and nothing
        Due.is("three", x.plan(0, 0, 0, 10, 3, -1), 200);
        Due.is("first", x.plan(0, 0, 0, 10, 3, 0), 0);
        Due.is("second", x.plan(0, 0, 0, 10, 3, 1), 1);
        Due.is("third", x.plan(0, 0, 0, 10, 3, 2), 2);
        Due.is("four", x.plan(0, 0, 0, 10, 4, -1), 230);
        Due.is("four: the third", x.plan(0, 0, 0, 10, 4, 2), 1);
        Due.is("of 9 pence book 1 stays", x.plan(0, 0, 0, 9, 4, -1), 90 + 45 + 45 + 45);
        Due.is("of 9 pence: the fourth", x.plan(0, 0, 0, 9, 4, 3), 1);
        Due.is("the slates stay", x.step(0, 0, 0), 5);
        Due.is("the balances stay", x.balance(0, 0, 0), 0);
        Due.is("the other ends' too", x.balance(0, 0, 1), 0);
        Due.is("the purses stay", x.bookIs(0, 0), 100000);
        x.bet(0, 2, 0, 0, 0, 10);
        Due.is("it counts as many as before", x.step(2, 0, 0), -1);
        Due.is("one book less", x.plan(0, 0, 0, 10, 3, -1), 180);
        // what the plan's own bets bring counts: t, q, n, z, m and k
        SlateRing y = Due.ring(1, 2);
        Due.slates(y, 0, 0, 5, 5);
        y.now(4);
        Due.way(y, 0, "s1(t=20&q=200&n=2&z=3&m=4&k=10)");
        Due.is("after the second", y.plan(3, 0, 0, 10, 4, -1), 100 + 100 + 50 + 50);
        Due.is("of another bettor", y.plan(4, 0, 0, 10, 4, -1), 400);
        // a book that is over takes none
        SlateRing z = Due.ring(2, 2, 2);
        Due.slates(z, 0, 0, 5, 5);
        Due.slates(z, 1, 0, 0, 0);
        Due.slates(z, 0, 1, 5, 5);
        z.bet(0, 0, 0, 1, 0, 20000);
        z.run(1, 1, 1);
        Due.is("over", z.bookIs(0, 1), 1);
        Due.is("the other", z.plan(0, 0, 0, 10, 2, -1), 10);
        Due.is("its number", z.plan(0, 0, 0, 10, 2, 0), 1);
        // not as many can be: there is none
        SlateRing w = Due.ring(1, 2);
        Due.slates(w, 0, 0, 5, 5);
        Due.way(w, 0, "c(n=2)");
        Due.is("two can be", w.plan(0, 0, 0, 10, 2, -1), 200);
        Due.is("three can't", w.plan(0, 0, 0, 10, 3, -1), -2);
    }

    private static SlateRing ringOfBets(int[][] bets) {
        SlateRing x = Due.ring(2, 8, 8, 8);
        for (int b = 0; b < 2; b++) {
            for (int r = 0; r < 3; r++) {
                Due.slates(x, b, r, 1, 1, 1, 1, 1, 1, 1, 1);
            }
        }
        for (int[] bet : bets) {
            x.now(bet[0]);
            Due.is("bet of " + bet[1], x.bet(bet[1], bet[2], bet[3], bet[4], bet[5], 10), x.count(3) - 1);
        }
        return x;
    }

    private static void together() {
        // second, bettor, book, kind, race, horse
        SlateRing x = ringOfBets(new int[][] {
            {0, 0, 0, 0, 0, 0}, {0, 0, 0, 2, 1, 7}, {0, 1, 0, 1, 0, 0}, {5, 1, 1, 0, 0, 0}, {9, 1, 0, 2, 1, 7}, {9, 1, 0, 0, 1, 7},
            {9, 2, 0, 0, 2, 7}, {9, 0, 0, 1, 2, 7}, {9, 15, 0, 0, 0, 1}});
        Due.is("5 apart", x.together(0, 1, 1, 5), 1);
        Due.is("not 4", x.together(0, 1, 1, 4), 0);
        Due.is("the other way", x.together(1, 0, 1, 5), 1);
        Due.is("two horses", x.together(0, 1, 2, 9), 1);
        Due.is("not with 8", x.together(0, 1, 2, 8), 0);
        Due.is("not three", x.together(0, 1, 3, 599), 0);
        Due.is("places count nothing", x.together(0, 2, 1, 599), 0);
        Due.is("one twice", x.together(1, 1, 1, 5), -1);
        Due.is("bettor 16", x.together(0, 16, 1, 5), -1);
        Due.is("bettor -1", x.together(-1, 0, 1, 5), -1);
        Due.is("n 0", x.together(0, 1, 0, 5), -1);
        Due.is("n 25", x.together(0, 1, 25, 5), -1);
        Due.is("n 24", x.together(0, 1, 24, 5), 0);
        Due.is("d -1", x.together(0, 1, 1, -1), -1);
        Due.is("d 600", x.together(0, 1, 1, 600), -1);
        Due.is("d 599", x.together(0, 1, 1, 599), 1);
        x.scratch(0, 0);
        Due.is("scratched ones count", x.together(0, 1, 1, 5), 1);
        SlateRing y = ringOfBets(new int[][] {{3, 4, 0, 0, 0, 0}, {3, 5, 1, 0, 0, 0}});
        Due.is("0 apart", y.together(4, 5, 1, 0), 1);
    }

    private static void onePurse() {
        SlateRing x = ringOfBets(new int[][] {
            {0, 9, 0, 0, 0, 0}, {0, 3, 0, 0, 0, 0}, {0, 3, 0, 0, 1, 1}, {0, 15, 0, 0, 1, 1}, {0, 15, 0, 0, 2, 2}, {0, 0, 0, 0, 2, 2},
            {0, 6, 0, 0, 2, 3}, {1, 7, 0, 0, 2, 3}});
        Due.is("a chain", x.purse(9, 1, 0), 1 << 9 | 1 << 3 | 1 << 15 | 1);
        Due.is("from its other end", x.purse(0, 1, 0), 1 << 9 | 1 << 3 | 1 << 15 | 1);
        Due.is("alone", x.purse(6, 1, 0), 1 << 6);
        Due.is("with another second", x.purse(6, 1, 1), 1 << 6 | 1 << 7);
        Due.is("two horses: alone", x.purse(9, 2, 0), 1 << 9);
        Due.is("who has none", x.purse(1, 1, 599), 2);
        Due.is("bettor 16", x.purse(16, 1, 1), -1);
        Due.is("bettor -1", x.purse(-1, 1, 1), -1);
        Due.is("n 0", x.purse(0, 0, 1), -1);
        Due.is("n 25", x.purse(0, 25, 1), -1);
        Due.is("d -1", x.purse(0, 1, -1), -1);
        Due.is("d 600", x.purse(0, 1, 600), -1);
        int[][] all = new int[30][];
        for (int i = 0; i < 30; i++) {
            // 0 and 15, 15 and 1, 1 and 14, ...: each on a horse of their own
            int k = (i + 1) / 2;
            all[i] = new int[] {0, k % 2 == 0 ? k / 2 : 15 - k / 2, 0, 0, i / 2 / 8, i / 2 % 8};
        }
        Due.is("all sixteen in a chain", ringOfBets(all).purse(0, 1, 0), 65535);
    }

    private static void knew() {
        SlateRing x = Due.ring(2, 4, 2);
        Due.slates(x, 0, 0, 4, 4, 4, 4);
        Due.slates(x, 1, 0, 3, 3, 3, 3);
        Due.slates(x, 0, 1, 4, 4);
        x.bet(1, 0, 0, 0, 0, 10);
        x.bet(1, 0, 2, 0, 1, 10);
        x.bet(1, 0, 1, 0, 0, 10);
        x.bet(1, 0, 0, 0, 2, 10);
        x.bet(1, 1, 0, 0, 0, 10);
        x.bet(1, 0, 0, 1, 0, 10);
        x.bet(1, 0, 0, 0, 3, 10);
        x.joined(1, 0, 0, 0, -1, 10);
        x.bet(2, 0, 0, 0, 0, 10);
        Due.is("not run", x.knew(1, 0), 0);
        x.slate(0, 0, 0, 3);
        x.slate(0, 0, 1, -1);
        x.scratch(0, 2);
        x.slate(0, 0, 3, 5);
        x.slate(0, 1, 0, 0);
        x.run(0, 1, 1);
        Due.is("bets 0, 1, 4 and 6", x.knew(1, 0), 4);
        Due.is("bet 0", x.knew(1, 1), 1);
        Due.is("another's", x.knew(2, 0), 1);
        Due.is("another's, too", x.knew(2, 1), 1);
        Due.is("no one's", x.knew(3, 0), 0);
        x.run(1, 2, 2);
        Due.is("and bet 5", x.knew(1, 0), 5);
        Due.is("lost or not", x.knew(1, 1), 2);
        Due.is("bettor 16", x.knew(16, 0), -1);
        Due.is("bettor -1", x.knew(-1, 0), -1);
        Due.is("no what", x.knew(1, 2), -1);
        Due.is("no what -1", x.knew(1, -1), -1);
    }
}
