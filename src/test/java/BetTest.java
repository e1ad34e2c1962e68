/** Promises 10 to 13 and 16 to 18: bets, joined ones, scratched horses, races run, what is had back. */
public final class BetTest {
    private BetTest() {
    }

    public static void main(String[] args) {
        bets();
        joinedBets();
        eightyBets();
        scratched();
        deductions();
        runs();
        backs();
        places();
        joinedBacks();
        paid();
        Due.end();
    }

    private static void bets() {
        SlateRing x = Due.ring(2, 3, 2);
        Due.slates(x, 0, 0, 0, 1, -1);
        Due.slates(x, 0, 1, 2, 2);
        Due.is("bet", x.bet(0, 0, 0, 0, 0, 1), 0);
        Due.is("its stake in the purse", x.bookIs(0, 0), 100001);
        Due.is("place", x.bet(15, 0, 1, 0, 1, 20000), 1);
        Due.is("its stake, too", x.bookIs(0, 0), 120001);
        Due.is("both", x.bet(15, 0, 2, 1, 1, 500), 2);
        Due.is("twice", x.bookIs(0, 0), 121001);
        Due.is("bets of book 0", x.bookIs(0, 2), 3);
        Due.is("bets of book 1", x.bookIs(1, 2), 0);
        Due.is("bettor 16", x.bet(16, 0, 0, 0, 0, 1), -1);
        Due.is("bettor -1", x.bet(-1, 0, 0, 0, 0, 1), -1);
        Due.is("book 2", x.bet(0, 2, 0, 0, 0, 1), -1);
        Due.is("book -1", x.bet(0, -1, 0, 0, 0, 1), -1);
        Due.is("kind 3", x.bet(0, 0, 3, 0, 0, 1), -1);
        Due.is("kind -1", x.bet(0, 0, -1, 0, 0, 1), -1);
        Due.is("race 2", x.bet(0, 0, 0, 2, 0, 1), -1);
        Due.is("horse 3", x.bet(0, 0, 0, 0, 3, 1), -1);
        Due.is("horse -1", x.bet(0, 0, 0, 0, -1, 1), -1);
        Due.is("stake 0", x.bet(0, 0, 0, 0, 0, 0), -1);
        Due.is("stake 20001", x.bet(0, 0, 0, 0, 0, 20001), -1);
        Due.is("nothing stands", x.bet(0, 0, 0, 0, 2, 1), -1);
        Due.is("nothing stands with book 1", x.bet(0, 1, 0, 0, 0, 1), -1);
        Due.is("count 3", x.count(3), 3);
        Due.is("nothing changed", x.bookIs(0, 0), 121001);
        x.run(1, 1, 1);
        Due.is("the race is run", x.bet(0, 0, 0, 1, 0, 1), -1);
    }

    private static void joinedBets() {
        SlateRing x = Due.ring(1, 3, 2, 4);
        Due.slates(x, 0, 0, 0, 1, -1);
        Due.slates(x, 0, 1, 2, 2);
        Due.slates(x, 0, 2, 2, 2, 2, 2);
        Due.is("two", x.joined(0, 0, 0, 1, -1, 10), 0);
        Due.is("the stake once", x.bookIs(0, 0), 100010);
        Due.is("three", x.joined(0, 0, 1, 0, 3, 10), 1);
        Due.is("races 1 and 2", x.joined(0, 0, -1, 0, 3, 10), 2);
        Due.is("races 0 and 2", x.joined(0, 0, 0, -1, 3, 10), 3);
        Due.is("one", x.joined(0, 0, 0, -1, -1, 10), -1);
        Due.is("one in race 1", x.joined(0, 0, -1, 0, -1, 10), -1);
        Due.is("one in race 2", x.joined(0, 0, -1, -1, 3, 10), -1);
        Due.is("none", x.joined(0, 0, -1, -1, -1, 10), -1);
        Due.is("nothing stands", x.joined(0, 0, 2, 0, -1, 10), -1);
        Due.is("no horse 2 in race 1", x.joined(0, 0, 0, 2, -1, 10), -1);
        Due.is("no horse -2", x.joined(0, 0, 0, 1, -2, 10), -1);
        x.slate(0, 1, 1, -1);
        Due.is("nothing stands in race 1", x.joined(0, 0, 1, 1, -1, 10), -1);
        x.slate(0, 1, 1, 2);
        Due.is("stake 0", x.joined(0, 0, 0, 1, -1, 0), -1);
        Due.is("stake 20001", x.joined(0, 0, 0, 1, -1, 20001), -1);
        Due.is("bettor 16", x.joined(16, 0, 0, 1, -1, 1), -1);
        Due.is("book 1", x.joined(0, 1, 0, 1, -1, 1), -1);
        Due.is("no deduction", x.deduction(0), -1);
        x.run(2, 1, 1);
        Due.is("race 2 is run", x.joined(0, 0, 0, 1, 3, 10), -1);
        Due.is("the others aren't", x.joined(0, 0, 0, 1, -1, 10), 4);
        SlateRing y = Due.ring(1, 3, 2);
        Due.slates(y, 0, 0, 0, 1, 2);
        Due.slates(y, 0, 1, 2, 2);
        Due.is("no race 2", y.joined(0, 0, 0, 0, 0, 1), -1);
        Due.is("no race 2, none told", y.joined(0, 0, 0, 0, -1, 1), 0);
    }

    private static void eightyBets() {
        SlateRing x = Due.ring(1, 2, 2);
        Due.slates(x, 0, 0, 0, 1);
        Due.slates(x, 0, 1, 0, 1);
        for (int i = 0; i < 80; i++) {
            Due.is("bet " + i, x.bet(0, 0, 1, 0, 0, 1), i);
        }
        Due.is("an 81st", x.bet(0, 0, 1, 0, 0, 1), -1);
        Due.is("an 81st, joined", x.joined(0, 0, 0, 0, -1, 1), -1);
        Due.is("80 are there", x.count(3), 80);
        Due.is("80 pence came", x.bookIs(0, 0), 100080);
        Due.is("80 are decided", x.run(0, 1, 1), 80);
    }

    private static void scratched() {
        SlateRing x = Due.ring(2, 4);
        Due.slates(x, 0, 0, 1, 1, 1, 1);
        Due.slates(x, 1, 0, 1, 1, 1, 1);
        Due.no("no race", x.scratch(1, 0));
        Due.no("no horse", x.scratch(0, 4));
        Due.no("no horse -1", x.scratch(0, -1));
        Due.yes("scratch", x.scratch(0, 1));
        Due.no("it is", x.scratch(0, 1));
        Due.is("count 10", x.count(10), 13);
        Due.is("no slate", x.step(0, 0, 1), -1);
        Due.is("no other slate", x.step(1, 0, 1), -1);
        Due.is("no bet", x.bet(0, 0, 0, 0, 1, 1), -1);
        Due.yes("two are left", x.scratch(0, 3));
        Due.no("one would be left", x.scratch(0, 0));
        x.run(0, 1, 1);
        Due.no("the race is run", x.scratch(0, 0));
        SlateRing y = Due.ring(1, 4);
        y.run(0, 1, 1);
        Due.no("the race is run, all there", y.scratch(0, 0));
    }

    private static void deductions() {
        SlateRing x = Due.ring(2, 8);
        Due.slates(x, 0, 0, 2, 2, 2, 3, 4, -1, 1, 2);
        Due.slates(x, 1, 0, 2, 5, -1, 5, 5, 5, 5, 5);
        Due.is("bet 0", x.bet(0, 0, 0, 0, 0, 100), 0);
        Due.is("bet 1 with the other", x.bet(0, 1, 0, 0, 0, 100), 1);
        Due.is("bet 2 on horse 3", x.bet(0, 0, 0, 0, 3, 100), 2);
        Due.is("nothing yet", x.deduction(0), 0);
        x.scratch(0, 1);
        Due.is("1/3: 33 down to 30", x.deduction(0), 30);
        Due.is("1/11: 9 down to 5", x.deduction(1), 5);
        x.scratch(0, 5);
        Due.is("nothing stood", x.deduction(0), 30);
        Due.is("bet 3 behind them", x.bet(0, 0, 2, 0, 0, 100), 3);
        x.scratch(0, 3);
        Due.is("and 1/4: 25", x.deduction(0), 55);
        Due.is("only the later one", x.deduction(3), 25);
        Due.is("not for its own", x.deduction(2), 30);
        x.scratch(0, 4);
        Due.is("and 1/6: 15", x.deduction(0), 70);
        x.scratch(0, 6);
        Due.is("75 at most", x.deduction(0), 75);
        Due.is("for the other book 5, 5, 5, 5, 5", x.deduction(1), 25);
        Due.is("no such bet", x.deduction(4), -1);
        Due.is("no such bet -1", x.deduction(-1), -1);
        Due.is("run", x.run(0, 1, 1), 4);
        Due.is("100 and 25 of 200", x.has(0, 0), 150);
        Due.is("100 and 75 of 200", x.has(1, 0), 250);
        Due.is("its own was scratched", x.has(2, 0), 100);
        // three are left: 100 for the place; 1/4, 1/6 and 1/2 scratched behind: 75
        Due.is("its deduction at last", x.deduction(3), 75);
        Due.is("both", x.has(3, 0), 250);
        SlateRing y = new SlateRing();
        y.race(3);
        y.book(100000);
        Due.ladder(y, 1, 12, 3, 7, 7, 4);
        Due.slates(y, 0, 0, 2, 0, 1);
        y.bet(0, 0, 0, 0, 0, 33);
        y.bet(0, 0, 0, 0, 2, 10);
        y.scratch(0, 1);
        Due.is("12/13: 92 down to 90, 75 at most", y.deduction(0), 75);
        y.run(0, 1, 1);
        // 33 times 7/4 is 57, a quarter of it 14
        Due.is("rounded down twice", y.has(0, 0), 47);
        Due.is("lost", y.has(1, 0), 0);
    }

    private static void runs() {
        SlateRing x = Due.ring(1, 5, 2);
        Due.slates(x, 0, 0, 1, 1, 1, 1, 1);
        Due.slates(x, 0, 1, 1, 1);
        x.bet(0, 0, 0, 0, 0, 10);
        x.bet(0, 0, 0, 1, 0, 10);
        x.joined(0, 0, 0, 0, -1, 10);
        x.scratch(0, 2);
        Due.is("no race", x.run(2, 1, 1), -1);
        Due.is("no race -1", x.run(-1, 1, 1), -1);
        Due.is("none won", x.run(0, 0, 3), -1);
        Due.is("no horse 5 won", x.run(0, 33, 33), -1);
        Due.is("no horse 5 placed", x.run(0, 1, 33), -1);
        Due.is("a scratched one won", x.run(0, 4, 4), -1);
        Due.is("a scratched one is placed", x.run(0, 1, 5), -1);
        Due.is("who won isn't placed", x.run(0, 3, 1), -1);
        Due.is("highest bits", x.run(0, 1, Integer.MIN_VALUE + 1), -1);
        Due.is("not run", x.count(20), 0);
        Due.is("not decided", x.has(0, 0), -2);
        Due.yes("a slate can still be told", x.slate(0, 0, 3, 0));
        Due.is("one is decided", x.run(0, 3, 11), 1);
        Due.is("it is run", x.run(0, 3, 11), -1);
        Due.is("count 20", x.count(20), 1);
        Due.is("count 21", x.count(21), 0);
        Due.is("joined isn't decided", x.has(2, 1), -2);
        Due.is("two are decided", x.run(1, 1, 1), 2);
        Due.is("count 21 now", x.count(21), 1);
        Due.is("no bet", x.has(3, 0), -1);
        Due.is("no bet -1", x.has(-1, 0), -1);
        Due.is("no what", x.has(0, 2), -1);
        Due.is("no what -1", x.has(0, -1), -1);
        SlateRing y = Due.ring(1, 2);
        Due.slates(y, 0, 0, 1, 1);
        y.bet(0, 0, 0, 0, 0, 10);
        Due.is("not decided, no such what: none", y.has(0, 2), -1);
        Due.is("none is decided", Due.ring(1, 2).run(0, 3, 3), 0);
    }

    private static void backs() {
        SlateRing x = Due.ring(1, 4);
        Due.slates(x, 0, 0, 0, 2, 3, 4);
        x.bet(0, 0, 0, 0, 0, 101);
        x.bet(0, 0, 0, 0, 1, 101);
        x.bet(0, 0, 2, 0, 2, 7);
        x.bet(0, 0, 1, 0, 3, 7);
        x.slate(0, 0, 1, 5);
        x.run(0, 7, 7);
        // three won: a third of the stake; 33 at 1/2
        Due.is("33 and 16", x.has(0, 0), 49);
        Due.is("at the price when it was made", x.has(1, 0), 99);
        Due.is("2 and 6, and 7 back", x.has(2, 0), 15);
        Due.is("four horses: 7 back", x.has(3, 0), 7);
    }

    private static void places() {
        SlateRing x = Due.ring(1, 8);
        Due.slates(x, 0, 0, 5, 4, 3, 2, 1, 0, 5, 5);
        x.bet(0, 0, 1, 0, 0, 99);
        x.bet(0, 0, 2, 0, 1, 99);
        x.bet(0, 0, 1, 0, 2, 99);
        x.bet(0, 0, 1, 0, 7, 99);
        x.run(0, 1, 3);
        // eight horses: a fifth of the price
        Due.is("placed and won", x.has(0, 0), 99 + 198);
        Due.is("placed alone", x.has(1, 0), 99 + 99);
        Due.is("not placed", x.has(2, 0), 0);
        SlateRing y = Due.ring(1, 8);
        Due.slates(y, 0, 0, 5, 4, 3, 2, 1, 0, 5, 5);
        y.bet(0, 0, 1, 0, 0, 99);
        y.bet(0, 0, 1, 0, 7, 99);
        y.scratch(0, 7);
        y.bet(0, 0, 2, 0, 2, 99);
        y.run(0, 4, 5);
        // seven: a fourth; 247 less 5 in the hundred
        Due.is("seven left, less the deduction", y.has(0, 0), 99 + 234);
        Due.is("scratched", y.has(1, 0), 99);
        Due.is("both", y.has(2, 0), 99 + 297 + 99 + 74);
        SlateRing z = Due.ring(1, 5);
        Due.slates(z, 0, 0, 5, 4, 3, 2, 5);
        z.bet(0, 0, 1, 0, 3, 99);
        z.run(0, 1, 9);
        Due.is("five: a fourth", z.has(0, 0), 99 + 49);
        SlateRing w = Due.ring(1, 5);
        Due.slates(w, 0, 0, 5, 4, 3, 2, 5);
        w.bet(0, 0, 1, 0, 3, 99);
        w.scratch(0, 4);
        w.run(0, 1, 1);
        Due.is("four are left: the stake, placed or not", w.has(0, 0), 99);
    }

    private static void joinedBacks() {
        SlateRing x = Due.ring(1, 3, 3, 3);
        Due.slates(x, 0, 0, 0, 1, 2);
        Due.slates(x, 0, 1, 0, 0, 2);
        Due.slates(x, 0, 2, 0, 5, 2);
        x.joined(0, 0, 0, 0, 0, 9);
        x.joined(0, 0, 0, 0, 1, 9);
        x.joined(0, 0, 0, 2, 1, 9);
        x.joined(0, 0, 2, 2, -1, 9);
        x.bet(0, 0, 0, 0, 0, 1);
        x.scratch(1, 2);
        x.run(0, 1, 1);
        x.run(1, 1, 1);
        Due.is("one has lost: 0", x.has(3, 0), 0);
        x.run(2, 3, 3);
        // 9, 9, 4: times 3/2 three times at once is 13.5
        Due.is("all at once, rounded down", x.has(0, 0), 13);
        // 4 times 3/2, 3/2, 11/1
        Due.is("99", x.has(1, 0), 99);
        Due.is("one scratched: 4 times 3/2, 11/1", x.has(2, 0), 66);
        SlateRing y = new SlateRing();
        y.race(2);
        y.race(2);
        y.race(2);
        y.book(0);
        Due.ladder(y, 59, 1, 60, 1);
        Due.slates(y, 0, 0, 1, 1);
        Due.slates(y, 0, 1, 1, 1);
        Due.slates(y, 0, 2, 0, 1);
        y.joined(0, 0, 0, 0, 1, 20000);
        y.joined(0, 0, 0, 0, 1, 4405);
        y.joined(0, 0, 0, 0, 0, 4479);
        y.run(0, 1, 1);
        y.run(1, 1, 1);
        y.run(2, 3, 3);
        Due.is("1000000000 at most", y.has(0, 0), 1000000000);
        Due.is("2202 times 226981", y.has(1, 0), 499812162);
        Due.is("2239 times 223260", y.has(2, 0), 499879140);
    }

    private static void paid() {
        SlateRing x = new SlateRing();
        x.race(2);
        x.race(2);
        x.book(60);
        x.book(0);
        Due.ladder(x, 1, 2, 1, 1, 2, 1, 3, 1, 5, 1, 10, 1);
        Due.slates(x, 0, 0, 1, 1);
        Due.slates(x, 0, 1, 1, 1);
        Due.slates(x, 1, 0, 1, 1);
        x.bet(0, 0, 0, 0, 0, 20);
        x.bet(0, 0, 0, 0, 0, 60);
        x.bet(0, 0, 0, 0, 1, 10);
        x.bet(0, 0, 0, 0, 0, 1);
        x.bet(0, 0, 0, 1, 0, 1);
        x.bet(0, 1, 0, 0, 1, 5);
        Due.is("five are decided", x.run(0, 1, 1), 5);
        // 152: 40, then 120 is too much
        Due.is("the first is paid", x.has(0, 1), 1);
        Due.is("the second isn't", x.has(1, 1), 0);
        Due.is("it has it back all the same", x.has(1, 0), 120);
        Due.is("the third, 0, isn't either", x.has(2, 1), 0);
        Due.is("the fourth isn't either", x.has(3, 1), 0);
        Due.is("0 is paid by who is not over", x.has(5, 1), 1);
        Due.is("over", x.bookIs(0, 1), 1);
        Due.is("the other not", x.bookIs(1, 1), 0);
        Due.is("its purse", x.bookIs(0, 0), 112);
        Due.is("no bet with it", x.bet(0, 0, 0, 1, 0, 1), -1);
        Due.yes("its slate still moves", x.slate(0, 1, 0, 2));
        x.run(1, 2, 2);
        Due.is("0 is not paid by who is over", x.has(4, 1), 0);
        Due.is("no book 2", x.bookIs(2, 0), -1);
        Due.is("no what 3", x.bookIs(0, 3), -1);
        Due.is("no what -1", x.bookIs(0, -1), -1);
        SlateRing y = new SlateRing();
        y.race(2);
        y.book(0);
        Due.ladder(y, 1, 1);
        Due.slates(y, 0, 0, 0, 0);
        y.bet(0, 0, 0, 0, 0, 10);
        y.bet(0, 0, 0, 0, 1, 10);
        y.run(0, 1, 1);
        Due.is("just as much is enough", y.has(0, 1), 1);
        Due.is("nothing is left", y.bookIs(0, 0), 0);
        Due.is("not over", y.bookIs(0, 1), 0);
    }
}
