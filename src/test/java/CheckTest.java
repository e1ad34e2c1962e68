/** Promises 28 and 29: what a book has written of its bets, and counts. */
public final class CheckTest {
    private CheckTest() {
    }

    public static void main(String[] args) {
        check();
        checkAndTape();
        count();
        Due.end();
    }

    /** Of book 0 bets 0, 2 and 3 are decided: 20, 0 and 10 back; bet 4 isn't. Of book 1 bet 1: 20. */
    private static SlateRing ring() {
        SlateRing x = Due.ring(3, 3, 2);
        for (int b = 0; b < 2; b++) {
            Due.slates(x, b, 0, 1, 1, 1);
            Due.slates(x, b, 1, 1, 1);
        }
        x.bet(0, 0, 0, 0, 0, 10);
        x.bet(0, 1, 0, 0, 0, 10);
        x.bet(0, 0, 0, 0, 1, 10);
        x.bet(0, 0, 0, 0, 2, 10);
        x.bet(0, 0, 0, 1, 0, 10);
        x.scratch(0, 2);
        x.run(0, 1, 1);
        // bet 0: 10 and half of 10
        return x;
    }

    private static void check() {
        SlateRing x = ring();
        Due.is("right", Due.check(x, 0, 0, 15, 2, 0, 3, 10), -1);
        Due.is("right of book 1", Due.check(x, 1, 1, 15), -1);
        Due.is("right of book 2: nothing", x.check(2, 0), -1);
        Due.is("a wrong bet", Due.check(x, 0, 1, 15, 2, 0, 3, 10), 0);
        Due.is("wrong back", Due.check(x, 0, 0, 16, 2, 0, 3, 10), 1);
        Due.is("another's bet", Due.check(x, 0, 0, 15, 1, 15, 2, 0, 3, 10), 2);
        Due.is("a bet left out", Due.check(x, 0, 0, 15, 3, 10), 2);
        Due.is("twice", Due.check(x, 0, 0, 15, 0, 15), 2);
        Due.is("wrong at last", Due.check(x, 0, 0, 15, 2, 0, 3, -10), 5);
        Due.is("one that isn't decided", Due.check(x, 0, 0, 15, 2, 0, 3, 10, 4, 20), 6);
        Due.is("one is lacking", Due.check(x, 0, 0, 15, 2, 0), 4);
        Due.is("two are lacking", Due.check(x, 0, 0, 15), 2);
        Due.is("all are lacking", x.check(0, 0), 0);
        Due.is("lacking, but one is wrong before", Due.check(x, 0, 0, 15, 2, 9), 3);
        x.run(1, 2, 2);
        Due.is("right later", Due.check(x, 0, 0, 15, 2, 0, 3, 10, 4, 0), -1);
        SlateRing y = Due.ring(1, 2);
        Due.slates(y, 0, 0, 5, 5);
        y.bet(0, 0, 0, 0, 0, 20000);
        y.run(0, 1, 1);
        Due.is("not paid, but had back: of all four bytes", Due.check(y, 0, 0, 220000), -1);
        Due.is("higher bytes count", Due.check(y, 0, 0, 220000 + (1 << 24)), 1);
    }

    private static void checkAndTape() {
        SlateRing x = ring();
        x.feed(0, 15, 2, 0, 3);
        Due.is("not so many", x.check(0, 3), -2);
        Due.is("the tape stays", x.count(5), 20);
        Due.is("not so many, no book", x.check(3, 3), -2);
        Due.is("the tape stays, too", x.count(5), 20);
        Due.is("so many", x.check(0, 2), 4);
        Due.is("empty then", x.count(5), 0);
        x.feed(0, 15, 2, 0, 3);
        Due.is("no book", x.check(3, 1), -2);
        Due.is("no book -1", x.check(-1, 0), -2);
        Due.is("less than none", x.check(0, -1), -2);
        Due.is("more than an int of bytes", x.check(0, 1 << 29), -2);
        Due.is("25 of none", x.check(0, 25), -2);
        Due.is("no such ones: the tape stays", x.count(5), 20);
        Due.is("no numbers", x.check(0, 0), 0);
        Due.is("empty then, too", x.count(5), 0);
    }

    private static void count() {
        SlateRing x = ring();
        x.now(77);
        x.feed(0, 0, 0, 0, 0);
        x.feed(0, 0, 0, 0, 0);
        Due.is("now", x.count(0), 77);
        Due.is("races", x.count(1), 2);
        Due.is("books", x.count(2), 3);
        Due.is("bets", x.count(3), 5);
        Due.is("steps", x.count(4), 6);
        Due.is("bytes", x.count(5), 40);
        Due.is("6", x.count(6), -1);
        Due.is("9", x.count(9), -1);
        Due.is("horses of race 0", x.count(10), 3);
        Due.is("horses of race 1", x.count(11), 3);
        Due.is("no race 2", x.count(12), -1);
        Due.is("19", x.count(19), -1);
        Due.is("race 0 is run", x.count(20), 1);
        Due.is("race 1 isn't", x.count(21), 0);
        Due.is("no race 2", x.count(22), -1);
        Due.is("29", x.count(29), -1);
        Due.is("no clauses", x.count(30), 0);
        Due.is("no book 3", x.count(33), -1);
        Due.is("-1", x.count(-1), -1);
        Due.is("greatest", x.count(Integer.MAX_VALUE), -1);
        Due.is("least", x.count(Integer.MIN_VALUE), -1);
        SlateRing y = Due.ring(2, 2);
        Due.way(y, 1, "c(1=1);c(1=1);c(1=1)");
        Due.is("of book 1", y.count(31), 3);
        Due.is("of book 0", y.count(30), 0);
    }
}
