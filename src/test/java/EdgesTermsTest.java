/** The terms of the document by its order: each sentence that names an end of what can be has a test of its own. */
public final class EdgesTermsTest {
    private static final int LEAST = Integer.MIN_VALUE;
    private static final int GREATEST = Integer.MAX_VALUE;

    private EdgesTermsTest() {
    }

    public static void main(String[] args) {
        seconds();
        races();
        books();
        ladderHolds24();
        ladderIsToldOnce();
        pricesFrom1To60And12();
        pricesGrow();
        stepsOfTheLadder();
        nothingAtFirst();
        betsTo79();
        betsAtNow();
        bettors();
        booksOverTheWall();
        stakes();
        kinds();
        joinedOfTwoOrThree();
        horsesWithStep();
        horsesOfRacesRun();
        atThesePrices();
        stakesAreAdded();
        whoWon();
        whoIsPlaced();
        scratchedNotOfRun();
        scratchedFromThenOn();
        Due.end();
    }

    /** "SECONDS 0 to 599; NOW is one of them (0 at first)." */
    private static void seconds() {
        SlateRing x = new SlateRing();
        Due.is("NOW at first", x.count(0), 0);
        for (int wrong : new int[] {-1, 600, 601, LEAST, GREATEST}) {
            Due.no("second " + wrong, x.now(wrong));
        }
        Due.is("NOW is still", x.count(0), 0);
        Due.yes("second 0", x.now(0));
        Due.yes("second 599", x.now(599));
        Due.is("NOW at last", x.count(0), 599);
        Due.yes("second 599 again", x.now(599));
    }

    /** "RACES 0 to 2, each with 2 to 8 HORSES (0 on)." */
    private static void races() {
        SlateRing x = Due.ring(1);
        for (int wrong : new int[] {1, 0, -1, 9, LEAST, GREATEST}) {
            Due.is("a race of " + wrong, x.race(wrong), -1);
        }
        Due.is("no number is used up", x.race(2), 0);
        Due.is("8 horses", x.race(8), 1);
        Due.is("the last race", x.race(3), 2);
        Due.is("a fourth", x.race(2), -1);
        Due.is("three are there", x.count(1), 3);
        int[] horses = {2, 8, 3};
        for (int r = 0; r < 3; r++) {
            Due.yes("horse 0 of race " + r, x.slate(0, r, 0, 0));
            Due.yes("the last horse of race " + r, x.slate(0, r, horses[r] - 1, 0));
            Due.no("one horse more in race " + r, x.slate(0, r, horses[r], 0));
            Due.no("horse -1 of race " + r, x.slate(0, r, -1, 0));
        }
        Due.no("race 3", x.slate(0, 3, 0, 0));
        Due.no("race -1", x.slate(0, -1, 0, 0));
    }

    /** "BOOKS 0 to 3, each with a PURSE (0 to 1000000 pence)." */
    private static void books() {
        SlateRing x = Due.ring(0, 2);
        for (int wrong : new int[] {-1, 1000001, LEAST, GREATEST}) {
            Due.is("a purse of " + wrong, x.book(wrong), -1);
        }
        Due.is("no number is used up", x.book(0), 0);
        Due.is("the greatest purse", x.book(1000000), 1);
        Due.is("book 2", x.book(1), 2);
        Due.is("the last book", x.book(999999), 3);
        Due.is("a fifth", x.book(0), -1);
        Due.is("four are there", x.count(2), 4);
        int[] purses = {0, 1000000, 1, 999999};
        for (int b = 0; b < 4; b++) {
            Due.is("purse of book " + b, x.bookIs(b, 0), purses[b]);
            Due.yes("slate of book " + b, x.slate(b, 0, 0, 0));
        }
        Due.no("slate of book 4", x.slate(4, 0, 0, 0));
        Due.no("slate of book -1", x.slate(-1, 0, 0, 0));
    }

    private static int[] halves(int n) {
        int[] all = new int[2 * n];
        for (int i = 0; i < n; i++) {
            all[2 * i] = i + 1;
            all[2 * i + 1] = 2;
        }
        return all;
    }

    /** "THE LADDER: up to 24 PRICES" */
    private static void ladderHolds24() {
        SlateRing x = new SlateRing();
        Due.is("none at first", x.count(4), 0);
        Due.feed(x, halves(25));
        Due.no("25 prices", x.ladder(25));
        Due.is("still none", x.count(4), 0);
        Due.yes("24 prices", x.ladder(24));
        Due.is("24 steps", x.count(4), 24);
        SlateRing y = new SlateRing();
        Due.feed(y, halves(1));
        Due.no("no prices", y.ladder(0));
        Due.no("less than none", y.ladder(-1));
        Due.no("far less than none", y.ladder(LEAST));
        Due.no("far too many", y.ladder(GREATEST));
        Due.no("too many for their bytes to be an int", y.ladder(1 << 31 - 1));
        Due.yes("1 price", y.ladder(1));
        Due.is("1 step", y.count(4), 1);
    }

    /** "told once" */
    private static void ladderIsToldOnce() {
        SlateRing x = new SlateRing();
        Due.yes("one price", Due.ladder(x, 2, 1));
        Due.no("a second time", Due.ladder(x, 3, 1, 4, 1));
        Due.is("it has one step", x.count(4), 1);
        SlateRing y = new SlateRing();
        Due.no("one that isn't so", Due.ladder(y, 2, 1, 1, 1));
        Due.yes("is not told", Due.ladder(y, 3, 1, 4, 1));
    }

    /** "a to b (a 1 to 60, b 1 to 12)" */
    private static void pricesFrom1To60And12() {
        for (int a : new int[] {0, 61, 62, 127, 128, 255}) {
            Due.no(a + "/1", Due.ladder(new SlateRing(), a, 1));
            Due.no("2/12 and " + a + "/1", Due.ladder(new SlateRing(), 2, 12, a, 1));
        }
        for (int b : new int[] {0, 13, 14, 127, 128, 255}) {
            Due.no("1/" + b, Due.ladder(new SlateRing(), 1, b));
            Due.no("1/12 and 60/" + b, Due.ladder(new SlateRing(), 1, 12, 60, b));
        }
        Due.yes("1/12 and 60/1", Due.ladder(new SlateRing(), 1, 12, 60, 1));
        Due.yes("60/12", Due.ladder(new SlateRing(), 60, 12));
        Due.yes("1/1", Due.ladder(new SlateRing(), 1, 1));
    }

    /** "growing (a through b)" */
    private static void pricesGrow() {
        Due.no("alike", Due.ladder(new SlateRing(), 1, 2, 1, 2));
        Due.no("alike through b", Due.ladder(new SlateRing(), 1, 2, 2, 4));
        Due.yes("by a hair", Due.ladder(new SlateRing(), 54, 11, 59, 12));
        Due.no("falling by a hair", Due.ladder(new SlateRing(), 59, 12, 54, 11));
        Due.no("the last two alike", Due.ladder(new SlateRing(), 1, 1, 2, 1, 3, 1, 3, 1));
        Due.no("the first two alike", Due.ladder(new SlateRing(), 1, 1, 1, 1, 2, 1, 3, 1));
        Due.no("above the first, not above the second", Due.ladder(new SlateRing(), 1, 1, 3, 1, 2, 1));
    }

    /** "a STEP is the number of a PRICE (0 the shortest)" */
    private static void stepsOfTheLadder() {
        for (int n : new int[] {1, 2, 23, 24}) {
            SlateRing x = Due.bare(1, 2);
            Due.ladder(x, halves(n));
            Due.yes("step 0 of " + n, x.slate(0, 0, 0, 0));
            Due.yes("the last of " + n, x.slate(0, 0, 1, n - 1));
            for (int wrong : new int[] {n, n + 1, 25, -2, LEAST, GREATEST}) {
                Due.no("step " + wrong + " of " + n, x.slate(0, 0, 1, wrong));
            }
            Due.is("it stands still", x.step(0, 0, 1), n - 1);
        }
        SlateRing y = Due.bare(1, 2);
        Due.no("no ladder: step 0", y.slate(0, 0, 0, 0));
        Due.yes("no ladder: nothing", y.slate(0, 0, 0, -1));
        SlateRing z = Due.ring(1, 2);
        Due.slates(z, 0, 0, 0, 5);
        z.bet(0, 0, 0, 0, 0, 100);
        Due.is("step 0 is 1/2", z.balance(0, 0, 0), -50);
        z.bet(0, 0, 0, 0, 1, 100);
        Due.is("step 5 is 10/1", z.balance(0, 0, 1), 200 - 1100);
    }

    /** "of each HORSE a STEP, or nothing (at first)" */
    private static void nothingAtFirst() {
        SlateRing x = Due.ring(4, 8, 8, 8);
        for (int i = 0; i < 96; i++) {
            Due.is("nothing at first, spot " + i, x.step(i % 4, i / 32, i / 4 % 8), -1);
        }
        for (int i = 0; i < 96; i++) {
            x.slate(i % 4, i / 32, i / 4 % 8, i * 7 % 6);
        }
        for (int i = 0; i < 96; i++) {
            Due.is("its own step, spot " + i, x.step(i % 4, i / 32, i / 4 % 8), i * 7 % 6);
        }
        Due.yes("nothing again", x.slate(3, 2, 7, -1));
        Due.is("nothing stands there", x.step(3, 2, 7), -1);
        Due.yes("nothing once more", x.slate(3, 2, 7, -1));
    }

    /** "BETS 0 to 79" */
    private static void betsTo79() {
        SlateRing x = Due.ring(2, 2, 2);
        for (int b = 0; b < 2; b++) {
            Due.slates(x, b, 0, 1, 1);
            Due.slates(x, b, 1, 1, 1);
        }
        for (int i = 0; i < 79; i++) {
            int got = i % 4 == 3 ? x.joined(i % 16, i % 2, 0, 0, -1, 1) : x.bet(i % 16, i % 2, i % 4, 0, 0, 1);
            Due.is("bet " + i, got, i);
        }
        Due.is("the last one, joined", x.joined(0, 0, 1, 1, -1, 1), 79);
        Due.is("an 81st", x.bet(0, 0, 0, 0, 0, 1), -1);
        Due.is("an 81st, with the other book", x.bet(0, 1, 2, 1, 1, 1), -1);
        Due.is("an 81st, joined", x.joined(0, 0, 0, 0, -1, 1), -1);
        Due.is("80 are there", x.count(3), 80);
        Due.is("all are of one book or the other", x.bookIs(0, 2) + x.bookIs(1, 2), 80);
        Due.is("no bet 80", x.has(80, 0), -1);
        Due.is("bet 79", x.has(79, 0), -2);
        SlateRing y = Due.ring(1, 2);
        Due.slates(y, 0, 0, 1, 1);
        for (int i = 0; i < 80; i++) {
            Due.is("bet " + i, y.bet(0, 0, 0, 0, 0, 20000), i);
        }
        Due.is("no room for an 81st", y.bet(0, 0, 0, 0, 0, 20000), -1);
        Due.is("80 greatest stakes", y.bookIs(0, 0), 100000 + 80 * 20000);
    }

    /** "at NOW" */
    private static void betsAtNow() {
        SlateRing x = Due.ring(1, 2);
        Due.slates(x, 0, 0, 1, 1);
        x.bet(0, 0, 0, 0, 0, 1);
        x.now(599);
        x.bet(1, 0, 0, 0, 0, 1);
        Due.is("0 and 599 are 599 apart", x.together(0, 1, 1, 599), 1);
        Due.is("not 598", x.together(0, 1, 1, 598), 0);
    }

    /** "of a BETTOR (0 to 15)" */
    private static void bettors() {
        SlateRing x = Due.ring(1, 2, 2);
        Due.slates(x, 0, 0, 1, 1);
        Due.slates(x, 0, 1, 1, 1);
        for (int wrong : new int[] {-1, 16, LEAST, GREATEST}) {
            Due.is("bettor " + wrong, x.bet(wrong, 0, 0, 0, 0, 1), -1);
            Due.is("bettor " + wrong + ", joined", x.joined(wrong, 0, 0, 0, -1, 1), -1);
        }
        Due.is("bettor 0", x.bet(0, 0, 0, 0, 0, 1), 0);
        Due.is("bettor 15", x.bet(15, 0, 0, 0, 0, 1), 1);
        Due.is("bettor 0, joined", x.joined(0, 0, 0, 0, -1, 1), 2);
        Due.is("bettor 15, joined", x.joined(15, 0, 0, 0, -1, 1), 3);
    }

    /** "with a BOOK that is not OVER THE WALL" */
    private static void booksOverTheWall() {
        SlateRing x = Due.bare(2, 2, 2, 2);
        Due.ladder(x, 60, 1);
        for (int i = 0; i < 12; i++) {
            x.slate(i % 2, i / 4, i / 2 % 2, 0);
        }
        x.bet(0, 0, 0, 0, 0, 20000);
        x.run(0, 1, 1);
        Due.is("over", x.bookIs(0, 1), 1);
        Due.is("no bet with it", x.bet(0, 0, 0, 1, 0, 1), -1);
        Due.is("no bet for a place", x.bet(0, 0, 1, 1, 0, 1), -1);
        Due.is("none both ways", x.bet(0, 0, 2, 1, 0, 1), -1);
        Due.is("none joined", x.joined(0, 0, -1, 0, 0, 1), -1);
        Due.is("with the other", x.bet(0, 1, 0, 1, 0, 1), 1);
        Due.is("joined with the other", x.joined(0, 1, -1, 0, 0, 1), 2);
    }

    /** "of a STAKE (1 to 20000 pence)" */
    private static void stakes() {
        SlateRing x = Due.ring(1, 2, 2);
        Due.slates(x, 0, 0, 1, 1);
        Due.slates(x, 0, 1, 1, 1);
        for (int wrong : new int[] {0, -1, 20001, 1 << 30, LEAST, GREATEST}) {
            for (int kind = 0; kind < 3; kind++) {
                Due.is("a stake of " + wrong + ", kind " + kind, x.bet(0, 0, kind, 0, 0, wrong), -1);
            }
            Due.is("a stake of " + wrong + ", joined", x.joined(0, 0, 0, 0, -1, wrong), -1);
        }
        Due.is("none came", x.bookIs(0, 0), 100000);
        for (int kind = 0; kind < 3; kind++) {
            Due.is("1, kind " + kind, x.bet(0, 0, kind, 0, 0, 1), 2 * kind);
            Due.is("20000, kind " + kind, x.bet(0, 0, kind, 0, 0, 20000), 2 * kind + 1);
        }
        Due.is("1, joined", x.joined(0, 0, 0, 0, -1, 1), 6);
        Due.is("20000, joined", x.joined(0, 0, 0, 0, -1, 20000), 7);
    }

    /** "KIND 0 WIN, 1 PLACE, 2 BOTH, 3 JOINED" */
    private static void kinds() {
        SlateRing x = Due.ring(1, 2);
        Due.slates(x, 0, 0, 1, 1);
        for (int wrong : new int[] {-1, 3, 4, LEAST, GREATEST}) {
            Due.is("kind " + wrong, x.bet(0, 0, wrong, 0, 0, 1), -1);
        }
        for (int kind = 0; kind < 3; kind++) {
            Due.is("kind " + kind, x.bet(0, 0, kind, 0, 0, 1), kind);
        }
    }

    /** "JOINED (to win, of one HORSE in each of two or three RACES)" */
    private static void joinedOfTwoOrThree() {
        SlateRing x = Due.ring(1, 2, 3, 8);
        Due.slates(x, 0, 0, 1, 1);
        Due.slates(x, 0, 1, 1, 1, 1);
        Due.slates(x, 0, 2, 1, 1, 1, 1, 1, 1, 1, 1);
        int[][] tooFew = {{-1, -1, -1}, {0, -1, -1}, {-1, 0, -1}, {-1, -1, 0}};
        for (int[] h : tooFew) {
            Due.is("joined of " + java.util.Arrays.toString(h), x.joined(0, 0, h[0], h[1], h[2], 1), -1);
        }
        int[][] wrong = {{2, 0, 0}, {0, 3, 0}, {0, 0, 8}, {-2, 0, 0}, {0, -2, 0}, {0, 0, -2}, {GREATEST, 0, 0}, {0, LEAST, 0}, {0, 0, GREATEST}};
        for (int[] h : wrong) {
            Due.is("joined of " + java.util.Arrays.toString(h), x.joined(0, 0, h[0], h[1], h[2], 1), -1);
        }
        int[][] right = {{1, 2, 7}, {1, 2, -1}, {1, -1, 7}, {-1, 2, 7}};
        for (int i = 0; i < right.length; i++) {
            int[] h = right[i];
            Due.is("joined of " + java.util.Arrays.toString(h), x.joined(0, 0, h[0], h[1], h[2], 1), i);
        }
        SlateRing y = Due.ring(1, 2, 2);
        Due.slates(y, 0, 0, 1, 1);
        Due.slates(y, 0, 1, 1, 1);
        Due.is("race 2 isn't there", y.joined(0, 0, 0, 0, 0, 1), -1);
        SlateRing z = Due.ring(1, 2);
        Due.slates(z, 0, 0, 1, 1);
        Due.is("one race alone", z.joined(0, 0, 0, 0, -1, 1), -1);
    }

    /** "Each HORSE has a STEP on the BOOK's SLATE" */
    private static void horsesWithStep() {
        SlateRing x = Due.ring(2, 3, 2);
        Due.slates(x, 0, 0, 0, -1, 0);
        Due.slates(x, 1, 0, 0, 0, 0);
        Due.slates(x, 0, 1, 0, -1);
        Due.is("step 0 is one", x.bet(0, 0, 0, 0, 0, 1), 0);
        for (int kind = 0; kind < 3; kind++) {
            Due.is("nothing stands on this slate, kind " + kind, x.bet(0, 0, kind, 0, 1, 1), -1);
        }
        Due.is("on the other's", x.bet(0, 1, 0, 0, 1, 1), 1);
        Due.is("joined: nothing for the first", x.joined(0, 0, 1, 0, -1, 1), -1);
        Due.is("joined: nothing for the second", x.joined(0, 0, 0, 1, -1, 1), -1);
        Due.is("joined: for both", x.joined(0, 0, 0, 0, -1, 1), 2);
        x.scratch(0, 2);
        Due.is("scratched", x.bet(0, 0, 0, 0, 2, 1), -1);
        Due.is("joined: scratched", x.joined(0, 0, 2, 0, -1, 1), -1);
    }

    /** "and its RACE is not RUN" */
    private static void horsesOfRacesRun() {
        SlateRing x = Due.ring(1, 2, 2, 2);
        for (int r = 0; r < 3; r++) {
            Due.slates(x, 0, r, 1, 1);
        }
        x.run(1, 1, 1);
        for (int kind = 0; kind < 3; kind++) {
            Due.is("run, kind " + kind, x.bet(0, 0, kind, 1, 0, 1), -1);
            Due.is("not run, kind " + kind, x.bet(0, 0, kind, 0, 0, 1), kind);
        }
        Due.is("joined of three, one of them run", x.joined(0, 0, 0, 0, 0, 1), -1);
        Due.is("joined of the others", x.joined(0, 0, 0, -1, 0, 1), 3);
    }

    /** "It stands at these PRICES." */
    private static void atThesePrices() {
        SlateRing x = Due.ring(1, 2, 2);
        Due.slates(x, 0, 0, 2, 2);
        Due.slates(x, 0, 1, 2, 2);
        Due.way(x, 0, "s2(1=1)");
        x.bet(0, 0, 0, 0, 0, 100);
        x.bet(0, 0, 0, 0, 0, 100);
        x.joined(0, 0, 1, 1, -1, 100);
        Due.is("its own way's move comes behind it", x.step(0, 0, 1), 0);
        Due.is("300 and 150", x.balance(0, 0, 0), 200 - 450);
        Due.slates(x, 0, 0, 5, 5);
        Due.slates(x, 0, 1, -1, -1);
        Due.is("as before", x.balance(0, 0, 0), 200 - 450);
        x.run(0, 3, 3);
        x.run(1, 2, 2);
        Due.is("50 and twice as much", x.has(0, 0), 150);
        Due.is("50 and half of it", x.has(1, 0), 75);
        Due.is("50 three times three times", x.has(2, 0), 450);
    }

    /** "The STAKE (of BOTH twice) is added to the PURSE." */
    private static void stakesAreAdded() {
        SlateRing x = Due.bare(0, 2, 2);
        Due.ladder(x, 1, 1);
        x.book(1000000);
        Due.slates(x, 0, 0, 0, 0);
        Due.slates(x, 0, 1, 0, 0);
        x.bet(0, 0, 0, 0, 0, 20000);
        Due.is("to win", x.bookIs(0, 0), 1020000);
        x.bet(0, 0, 1, 0, 0, 1);
        Due.is("for a place", x.bookIs(0, 0), 1020001);
        x.bet(0, 0, 2, 0, 0, 20000);
        Due.is("both ways", x.bookIs(0, 0), 1060001);
        x.joined(0, 0, 0, 0, -1, 300);
        Due.is("joined", x.bookIs(0, 0), 1060301);
    }

    /** "A RACE is RUN: told who WON (one HORSE or more, not SCRATCHED)" */
    private static void whoWon() {
        SlateRing x = Due.ring(1, 8);
        x.scratch(0, 3);
        Due.is("none", x.run(0, 0, 0), -1);
        Due.is("none, some are placed", x.run(0, 0, 7), -1);
        Due.is("a scratched one", x.run(0, 8, 8), -1);
        Due.is("a scratched one and another", x.run(0, 9, 9), -1);
        Due.is("horse 8", x.run(0, 256, 256), -1);
        Due.is("horse 8 and another", x.run(0, 257, 257), -1);
        Due.is("the highest bit", x.run(0, LEAST, LEAST), -1);
        Due.is("the highest bit and another", x.run(0, LEAST + 1, LEAST + 1), -1);
        Due.is("all bits", x.run(0, -1, -1), -1);
        Due.is("it isn't run", x.count(20), 0);
        Due.is("all that run", x.run(0, 247, 247), 0);
        Due.is("it is run", x.count(20), 1);
        SlateRing y = Due.ring(1, 2, 2);
        Due.is("horse 2 of two", y.run(0, 4, 4), -1);
        Due.is("the last alone", y.run(0, 2, 2), 0);
        Due.is("the first alone", y.run(1, 1, 1), 0);
    }

    /** "who is PLACED (those who WON among them)" */
    private static void whoIsPlaced() {
        SlateRing x = Due.ring(1, 8);
        x.scratch(0, 3);
        Due.is("none", x.run(0, 1, 0), -1);
        Due.is("others than who won", x.run(0, 1, 2), -1);
        Due.is("one of two who won", x.run(0, 3, 1), -1);
        Due.is("one of two who won and another", x.run(0, 3, 5), -1);
        Due.is("a scratched one", x.run(0, 1, 9), -1);
        Due.is("horse 8", x.run(0, 1, 257), -1);
        Due.is("the highest bit", x.run(0, 1, LEAST + 1), -1);
        Due.is("all bits", x.run(0, 1, -1), -1);
        Due.is("it isn't run", x.count(20), 0);
        Due.is("all that run", x.run(0, 1, 247), 0);
        Due.is("who won alone", Due.ring(1, 8).run(0, 128, 128), 0);
    }

    /** "A HORSE is SCRATCHED (its RACE is not RUN)" */
    private static void scratchedNotOfRun() {
        SlateRing x = Due.ring(1, 8, 8);
        x.run(0, 1, 1);
        for (int h = 0; h < 8; h++) {
            Due.no("horse " + h, x.scratch(0, h));
        }
        Due.is("all are there", x.count(10), 255);
        Due.yes("of the other race", x.scratch(1, 0));
    }

    /** "nothing stands for it on any SLATE from then on" */
    private static void scratchedFromThenOn() {
        SlateRing x = Due.ring(4, 3);
        for (int b = 0; b < 4; b++) {
            Due.slates(x, b, 0, 2, 2, 2);
            Due.way(x, b, "l2(1=1)");
        }
        x.scratch(0, 1);
        for (int b = 0; b < 4; b++) {
            Due.is("on slate " + b, x.step(b, 0, 1), -1);
            Due.is("for the others", x.step(b, 0, 0), 2);
            Due.no("a step for it", x.slate(b, 0, 1, 0));
            Due.no("nothing for it", x.slate(b, 0, 1, -1));
            x.bet(0, b, 0, 0, 0, 1);
            Due.is("no way brings it back", x.step(b, 0, 1), -1);
            Due.is("as it does another", x.step(b, 0, 2), 4);
        }
        Due.is("a book that comes later", x.step(0, 0, 1), -1);
        SlateRing y = Due.ring(1, 3);
        y.scratch(0, 1);
        y.book(0);
        Due.no("on the slate of a later book", y.slate(1, 0, 1, 0));
        Due.is("nothing stands there", y.step(1, 0, 1), -1);
        y.run(0, 1, 1);
        Due.is("when it is run, too", y.step(1, 0, 1), -1);
    }
}
