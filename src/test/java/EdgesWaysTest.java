import java.math.BigInteger;

/** Chapter 2 of the document by its order: balances, rounds, ways, what they ask and their faults, each end by itself. */
public final class EdgesWaysTest {
    /** Two to the 63rd, which is the least number of 64 bits as the machine does. */
    private static final String LEAST = "524288*524288*524288*64";

    private EdgesWaysTest() {
    }

    public static void main(String[] args) {
        endsOfAllHorses();
        scratchedAside();
        kindsToWin();
        backRoundedDown();
        greatestBalance();
        worstOfThoseThatRun();
        roundOfNothing();
        roundWithoutDivisor();
        greatestRound();
        textOf160Bytes();
        inPlaceOfTheOneBefore();
        noneAtFirst();
        twelveClauses();
        fewerSteps();
        moreSteps();
        nothingAnyMore();
        stepsOneToNine();
        notBeyondTheLadder();
        behindEachBet();
        joinedByRaces();
        askedAsItIsThen();
        nothingStandsForIt();
        parts();
        pieces();
        fromTheLeftOn();
        digits();
        lettersAtTheirEnds();
        greatestRoundInThousandths();
        manyBets();
        wrapsAround();
        dividedByZero();
        asMuchAsMatters();
        whatCantStand();
        theEndCantStand();
        seventhDigit();
        noSteps();
        thirteenthClause();
        sixOpen();
        firstFault();
        Due.end();
    }

    // ---- BALANCE, ROUND

    /** "BALANCE of a BOOK at an END (a HORSE of a RACE, SCRATCHED or not, as if it alone won)" */
    private static void endsOfAllHorses() {
        SlateRing x = Due.ring(1, 8, 2);
        for (int h = 0; h < 8; h++) {
            x.slate(0, 0, h, 1);
        }
        x.bet(0, 0, 0, 0, 0, 10);
        x.bet(0, 0, 0, 0, 7, 30);
        Due.is("at the first", x.balance(0, 0, 0), 40 - 20);
        Due.is("at the last", x.balance(0, 0, 7), 40 - 60);
        Due.is("at one without a bet", x.balance(0, 0, 3), 40);
        Due.is("of the other race", x.balance(0, 1, 1), 0);
        x.scratch(0, 3);
        Due.is("at a scratched one", x.balance(0, 0, 3), 40);
        x.scratch(0, 7);
        Due.is("at one scratched with a bet", x.balance(0, 0, 7), 10);
    }

    /** "on HORSES of this RACE (SCRATCHED ones aside)" */
    private static void scratchedAside() {
        SlateRing x = Due.ring(1, 3);
        Due.slates(x, 0, 0, 1, 1, 1);
        x.bet(0, 0, 0, 0, 0, 10);
        x.bet(0, 0, 2, 0, 1, 50);
        Due.is("before", x.balance(0, 0, 2), 60);
        x.scratch(0, 1);
        Due.is("without its stake", x.balance(0, 0, 2), 10);
        Due.is("at its own end, too", x.balance(0, 0, 1), 10);
        Due.is("at another's", x.balance(0, 0, 0), -10);
        x.bet(0, 0, 0, 0, 2, 5);
        Due.is("with a later one", x.balance(0, 0, 0), -5);
        SlateRing y = Due.ring(1, 3);
        Due.slates(y, 0, 0, 1, 2, 1);
        y.bet(0, 0, 0, 0, 0, 10);
        y.bet(0, 0, 0, 0, 1, 50);
        y.bet(0, 0, 0, 0, 1, 7);
        y.bet(0, 0, 2, 0, 1, 300);
        Due.is("three bets on one", y.balance(0, 0, 1), 367 - 3 * 357);
        y.plan(0, 0, 1, 20, 4, -1);
        y.scratch(0, 1);
        Due.is("all three aside", y.balance(0, 0, 2), 10);
        Due.is("at its own end, too", y.balance(0, 0, 1), 10);
        Due.way(y, 0, "c(t=14)");
        y.bet(0, 0, 0, 0, 0, 4);
        Due.is("t has them aside, too", y.step(0, 0, 0), -1);
    }

    /** "by its BETS of KINDS 0 and 2 ..., their parts to win" */
    private static void kindsToWin() {
        SlateRing x = Due.ring(2, 2, 2);
        Due.slates(x, 0, 0, 2, 2);
        Due.slates(x, 0, 1, 2, 2);
        Due.slates(x, 1, 0, 2, 2);
        x.bet(0, 0, 1, 0, 0, 1000);
        x.joined(0, 0, 0, 0, -1, 1000);
        Due.is("place and joined", x.balance(0, 0, 0), 0);
        Due.is("at the other end", x.balance(0, 0, 1), 0);
        x.bet(0, 0, 0, 0, 0, 10);
        Due.is("win", x.balance(0, 0, 0), -20);
        x.bet(0, 0, 2, 0, 0, 10);
        Due.is("both: its part to win", x.balance(0, 0, 0), -40);
        Due.is("the stake once", x.balance(0, 0, 1), 20);
        Due.is("another book's", x.balance(1, 0, 0), 0);
        Due.is("another race's", x.balance(0, 1, 0), 0);
    }

    /** "the STAKE and STAKE times a through b, rounded down" */
    private static void backRoundedDown() {
        SlateRing x = Due.ring(1, 2);
        Due.slates(x, 0, 0, 0, 0);
        x.bet(0, 0, 0, 0, 0, 1);
        Due.is("half a penny is none", x.balance(0, 0, 0), 0);
        x.bet(0, 0, 0, 0, 0, 1);
        Due.is("each by itself", x.balance(0, 0, 0), 0);
        x.bet(0, 0, 0, 0, 0, 3);
        Due.is("of 3 one", x.balance(0, 0, 0), -1);
    }

    /** As much as can be owed: 80 greatest stakes at 60/1. */
    private static void greatestBalance() {
        SlateRing x = Due.bare(1, 2);
        Due.ladder(x, 60, 1);
        Due.slates(x, 0, 0, 0, 0);
        for (int i = 0; i < 80; i++) {
            x.bet(0, 0, 2, 0, 0, 20000);
        }
        Due.is("80 times 1200000", x.balance(0, 0, 0), -96000000);
        Due.is("worst", x.balance(0, 0, -1), -96000000);
        Due.is("80 stakes", x.balance(0, 0, 1), 1600000);
        Due.is("twice as many in the purse", x.bookIs(0, 0), 3200000);
    }

    /** "WORST: the least over all HORSES that are not SCRATCHED." */
    private static void worstOfThoseThatRun() {
        SlateRing x = Due.ring(1, 4);
        Due.slates(x, 0, 0, 1, 2, 5, 5);
        Due.is("no bets", x.balance(0, 0, -1), 0);
        x.bet(0, 0, 0, 0, 0, 10);
        Due.is("the first", x.balance(0, 0, -1), -10);
        x.bet(0, 0, 0, 0, 1, 10);
        x.bet(0, 0, 0, 0, 3, 10);
        Due.is("the last", x.balance(0, 0, -1), 30 - 110);
        x.scratch(0, 3);
        Due.is("that one is scratched", x.balance(0, 0, -1), 20 - 30);
        SlateRing y = Due.ring(1, 3);
        Due.slates(y, 0, 0, 1, 1, 1);
        y.bet(0, 0, 0, 0, 0, 10);
        y.bet(0, 0, 0, 0, 1, 30);
        y.scratch(0, 2);
        // 20 and -20; the scratched one's end would be 40
        Due.is("two are left", y.balance(0, 0, -1), -20);
        SlateRing z = Due.ring(1, 2);
        Due.slates(z, 0, 0, 0, 0);
        z.bet(0, 0, 0, 0, 0, 100);
        z.bet(0, 0, 0, 0, 1, 100);
        Due.is("above 0", z.balance(0, 0, -1), 50);
    }

    /** "0 / 1 if nothing stands" */
    private static void roundOfNothing() {
        SlateRing x = Due.ring(1, 8);
        Due.is("at first", x.round(0, 0, 0), 0);
        Due.is("through", x.round(0, 0, 1), 1);
        x.slate(0, 0, 7, 2);
        Due.is("one horse", x.round(0, 0, 0), 1);
        Due.is("through 3", x.round(0, 0, 1), 3);
        x.slate(0, 0, 7, -1);
        Due.is("nothing again", x.round(0, 0, 0), 0);
        Due.is("through 1", x.round(0, 0, 1), 1);
    }

    /** "a fraction without a common divisor" */
    private static void roundWithoutDivisor() {
        SlateRing x = Due.bare(1, 4);
        Due.ladder(x, 2, 4, 2, 2, 10, 5, 30, 10);
        Due.slates(x, 0, 0, 0, -1, -1, -1);
        Due.is("4 through 6: 2", x.round(0, 0, 0), 2);
        Due.is("3", x.round(0, 0, 1), 3);
        Due.slates(x, 0, 0, 1, 1, -1, -1);
        Due.is("two halves: 1", x.round(0, 0, 0), 1);
        Due.is("1", x.round(0, 0, 1), 1);
        Due.slates(x, 0, 0, 1, 1, 2, 3);
        Due.is("and 1/3 and 1/4: 19", x.round(0, 0, 0), 19);
        Due.is("12", x.round(0, 0, 1), 12);
    }

    /** The longest fraction: eight of 71 and 72 each. */
    private static void greatestRound() {
        SlateRing x = Due.bare(1, 8);
        Due.ladder(x, 1, 12, 59, 12);
        for (int h = 0; h < 8; h++) {
            x.slate(0, 0, h, 0);
        }
        Due.is("eight times 12/13: 96", x.round(0, 0, 0), 96);
        Due.is("13", x.round(0, 0, 1), 13);
        SlateRing y = Due.bare(1, 8);
        int[] p = {55, 12, 59, 12, 57, 11, 60, 11, 59, 10, 60, 7, 58, 1, 60, 1};
        Due.yes("such prices", Due.ladder(y, p));
        BigInteger above = BigInteger.ZERO;
        BigInteger below = BigInteger.ONE;
        for (int h = 0; h < 8; h++) {
            y.slate(0, 0, h, h);
            BigInteger b = BigInteger.valueOf(p[2 * h + 1]);
            BigInteger whole = BigInteger.valueOf(p[2 * h]).add(b);
            above = above.multiply(whole).add(below.multiply(b));
            below = below.multiply(whole);
        }
        BigInteger common = above.gcd(below);
        Due.is("above", y.round(0, 0, 0), above.divide(common).longValueExact());
        Due.is("below", y.round(0, 0, 1), below.divide(common).longValueExact());
    }

    // ---- WAYS

    private static String longText(int bytes) {
        StringBuilder s = new StringBuilder(bytes % 2 == 0 ? "c(1=1" : "c(01=1");
        while (s.length() + 1 < bytes) {
            s.append("+h");
        }
        return s.append(')').toString();
    }

    /** "a TEXT of at most 160 bytes" */
    private static void textOf160Bytes() {
        for (int n : new int[] {159, 160}) {
            SlateRing x = Due.ring(1, 2);
            Due.is(n + " bytes long", longText(n).length(), n);
            Due.is(n + " bytes", Due.way(x, 0, longText(n)), 1);
            Due.slates(x, 0, 0, 1, 1);
            x.bet(0, 0, 0, 0, 1, 1);
            Due.is("h is 1: it doesn't hold", x.step(0, 0, 1), 1);
            x.bet(0, 0, 0, 0, 0, 1);
            Due.is("h is 0: it holds", x.step(0, 0, 0), -1);
        }
        SlateRing y = Due.ring(1, 2);
        Due.is("161 bytes", Due.way(y, 0, longText(161)), -1);
        Due.is("the tape stays", y.count(5), 180);
        Due.is("no clauses", y.count(30), 0);
        Due.is("6 bytes are the fewest", Due.way(Due.ring(1, 2), 0, "c(1=1)"), 1);
    }

    /** "in place of the one before" */
    private static void inPlaceOfTheOneBefore() {
        SlateRing x = Due.ring(2, 2);
        Due.slates(x, 0, 0, 5, 5);
        Due.way(x, 0, "s1(1=1);s1(1=1);s1(1=1)");
        Due.is("three", x.count(30), 3);
        Due.is("a shorter one", Due.way(x, 0, "s1(1=1)"), 1);
        Due.is("one", x.count(30), 1);
        x.bet(0, 0, 0, 0, 0, 1);
        Due.is("nothing is left of the longer one", x.step(0, 0, 0), 4);
        Due.is("one with a fault", Due.way(x, 0, "s4(1=1);c(1=1"), -1013);
        Due.is("one still", x.count(30), 1);
        x.bet(0, 0, 0, 0, 0, 1);
        Due.is("the one before stays", x.step(0, 0, 0), 3);
        Due.is("none of the other book", x.count(31), 0);
    }

    /** "(none at first)" */
    private static void noneAtFirst() {
        SlateRing x = Due.ring(4, 2);
        for (int b = 0; b < 4; b++) {
            Due.is("no clauses of book " + b, x.count(30 + b), 0);
            Due.slates(x, b, 0, 3, 3);
            x.bet(0, b, 0, 0, 0, 20000);
            Due.is("it stays at book " + b, x.step(b, 0, 0), 3);
            Due.is("the other, too, at book " + b, x.step(b, 0, 1), 3);
        }
    }

    private static String clauses(int n, String each) {
        return String.join(";", java.util.Collections.nCopies(n, each));
    }

    /** "CLAUSES (12 at most) with a ; (59) between two" */
    private static void twelveClauses() {
        for (int n : new int[] {1, 2, 11, 12}) {
            SlateRing x = Due.bare(1, 2);
            Due.ladder24(x);
            Due.is(n + " clauses", Due.way(x, 0, clauses(n, "s1(1=1)")), n);
            Due.is("count 30 of " + n, x.count(30), n);
            Due.slates(x, 0, 0, 23, 23);
            x.bet(0, 0, 0, 0, 0, 1);
            Due.is("all of " + n + " are done", x.step(0, 0, 0), 23 - n);
        }
        SlateRing y = Due.ring(1, 2);
        Due.is("a 13th", Due.way(y, 0, clauses(13, "s1(1=1)")), -4000 - 12 * 8);
        Due.is("a ; at the head", Due.way(y, 0, ";s1(1=1)"), -1000);
        Due.is("two ;", Due.way(y, 0, "s1(1=1);;s1(1=1)"), -1008);
        Due.is("a ; at the end", Due.way(y, 0, "s1(1=1);"), -1008);
        Due.is("a : between them", Due.way(y, 0, "s1(1=1):s1(1=1)"), -1007);
    }

    private static SlateRing moved(String text, int horse, int... steps) {
        SlateRing x = Due.ring(2, steps.length, 3);
        Due.slates(x, 0, 0, steps);
        Due.slates(x, 0, 1, 3, 3, 3);
        Due.slates(x, 1, 0, steps);
        Due.way(x, 0, text);
        x.bet(0, 0, 0, 0, horse, 1);
        for (int h = 0; h < 3; h++) {
            Due.is("the other race stays: " + text, x.step(0, 1, h), 3);
        }
        for (int h = 0; h < steps.length; h++) {
            Due.is("the other slate stays: " + text, x.step(1, 0, h), steps[h]);
        }
        return x;
    }

    private static void steps(String text, int horse, int[] before, int... then) {
        SlateRing x = moved(text, horse, before);
        for (int h = 0; h < then.length; h++) {
            Due.is(text + " for " + horse + ": horse " + h, x.step(0, 0, h), then[h]);
        }
    }

    /** "sN(C) that HORSE has N STEPS less" */
    private static void fewerSteps() {
        steps("s1(1=1)", 0, new int[] {5, 5, 5}, 4, 5, 5);
        steps("s2(1=1)", 2, new int[] {5, 5, 5}, 5, 5, 3);
        steps("s5(1=1)", 1, new int[] {5, 5, 5}, 5, 0, 5);
        steps("s1(1=2)", 1, new int[] {5, 5, 5}, 5, 5, 5);
    }

    /** "lN(C) each other HORSE of the RACE that has a STEP has N more" */
    private static void moreSteps() {
        steps("l1(1=1)", 0, new int[] {0, 0, 0}, 0, 1, 1);
        steps("l3(1=1)", 2, new int[] {0, -1, 2}, 3, -1, 2);
        steps("l2(1=1)", 1, new int[] {-1, 0, -1}, -1, 0, -1);
        steps("l1(1=1)", 7, new int[] {0, 1, 2, 3, 4, 0, 1, 2}, 1, 2, 3, 4, 5, 1, 2, 2);
        steps("l1(1=2)", 0, new int[] {0, 0, 0}, 0, 0, 0);
    }

    /** "c(C) nothing stands for that HORSE any more" */
    private static void nothingAnyMore() {
        steps("c(1=1)", 0, new int[] {0, 0, 0}, -1, 0, 0);
        steps("c(1=1)", 2, new int[] {5, 4, 3}, 5, 4, -1);
        steps("c(1=2)", 2, new int[] {5, 4, 3}, 5, 4, 3);
    }

    /** "N a digit, 1 to 9" */
    private static void stepsOneToNine() {
        for (int n = 1; n <= 9; n++) {
            SlateRing x = Due.bare(1, 2);
            Due.ladder24(x);
            Due.slates(x, 0, 0, 12, 12);
            Due.is("s and l of " + n, Due.way(x, 0, "s" + n + "(1=1);l" + n + "(1=1)"), 2);
            x.bet(0, 0, 0, 0, 0, 1);
            Due.is("less " + n, x.step(0, 0, 0), 12 - n);
            Due.is("more " + n, x.step(0, 0, 1), 12 + n);
        }
    }

    /** "not beyond THE LADDER's ends" */
    private static void notBeyondTheLadder() {
        steps("s9(1=1);l9(1=1)", 0, new int[] {5, 0, 5}, 0, 5, 5);
        steps("s1(1=1);l1(1=1)", 0, new int[] {0, 4, 5}, 0, 5, 5);
        steps("s4(1=1)", 0, new int[] {3, 4}, 0, 4);
        steps("l4(1=1)", 0, new int[] {3, 2}, 3, 5);
        SlateRing one = Due.bare(1, 2);
        Due.ladder(one, 1, 1);
        Due.slates(one, 0, 0, 0, 0);
        Due.way(one, 0, "s9(1=1);l9(1=1)");
        one.bet(0, 0, 0, 0, 0, 1);
        Due.is("a ladder of one: less", one.step(0, 0, 0), 0);
        Due.is("a ladder of one: more", one.step(0, 0, 1), 0);
        SlateRing all = Due.bare(1, 2);
        Due.ladder24(all);
        Due.slates(all, 0, 0, 23, 14);
        Due.way(all, 0, "l9(1=1)");
        all.bet(0, 0, 0, 0, 0, 1);
        Due.is("just at the end of 24", all.step(0, 0, 1), 23);
        all.bet(0, 0, 0, 0, 0, 1);
        Due.is("not beyond it", all.step(0, 0, 1), 23);
    }

    /** "Behind each BET, for its HORSE" */
    private static void behindEachBet() {
        SlateRing x = Due.ring(1, 3);
        Due.slates(x, 0, 0, 5, 5, 5);
        Due.way(x, 0, "s1(1=1)");
        for (int kind = 0; kind < 3; kind++) {
            x.bet(0, 0, kind, 0, kind, 1);
            Due.is("kind " + kind, x.step(0, 0, kind), 4);
        }
        Due.is("not behind one that can't be", x.bet(0, 0, 0, 0, 0, 0), -1);
        Due.is("it stays", x.step(0, 0, 0), 4);
        Due.is("not when it is told", Due.way(x, 0, "s3(1=1)"), 1);
        Due.is("it stays, too", x.step(0, 0, 0), 4);
    }

    /** "(of JOINED for each, by RACES)" */
    private static void joinedByRaces() {
        SlateRing x = Due.ring(1, 3, 3, 3);
        for (int r = 0; r < 3; r++) {
            Due.slates(x, 0, r, 5, 5, 5);
        }
        Due.way(x, 0, "s1(h=0);s2(h=1);s3(h=2);l1(h=9)");
        x.joined(0, 0, 2, 0, 1, 1);
        Due.is("race 0", x.step(0, 0, 2), 2);
        Due.is("race 1", x.step(0, 1, 0), 4);
        Due.is("race 2", x.step(0, 2, 1), 3);
        Due.is("no other in race 0", x.step(0, 0, 0), 5);
        x.joined(0, 0, -1, 0, 1, 1);
        Due.is("race 0 isn't of it", x.step(0, 0, 2), 2);
        Due.is("race 1 once more", x.step(0, 1, 0), 3);
        Due.is("race 2 once more", x.step(0, 2, 1), 1);
    }

    /** "the CLAUSES one by one; each asked as it is then" */
    private static void askedAsItIsThen() {
        SlateRing x = Due.ring(1, 2);
        Due.slates(x, 0, 0, 3, 5);
        Due.is("a row", Due.way(x, 0, "s1(i=3);s1(i=2);s1(i=1);s1(i=2)"), 4);
        x.bet(0, 0, 0, 0, 0, 1);
        Due.is("3, 2, 1, 0", x.step(0, 0, 0), 0);
        Due.slates(x, 0, 0, 3, 5);
        Due.way(x, 0, "s1(i=2);s1(i=3)");
        x.bet(0, 0, 0, 0, 0, 1);
        Due.is("only the second", x.step(0, 0, 0), 2);
    }

    /** "s, c do nothing if nothing stands for it" */
    private static void nothingStandsForIt() {
        SlateRing x = Due.ring(1, 3);
        Due.slates(x, 0, 0, 3, 3, -1);
        Due.way(x, 0, "c(1=1);s1(1=1);c(1=1);l1(1=1)");
        x.bet(0, 0, 0, 0, 0, 1);
        Due.is("nothing stands", x.step(0, 0, 0), -1);
        Due.is("l goes on", x.step(0, 0, 1), 4);
        Due.is("not where nothing stands", x.step(0, 0, 2), -1);
    }

    // ---- C

    /** At second 599 bettor 15 bets 20000 both ways on horse 7 of eight at step 23 of 24. */
    private static boolean atTheEnd(String condition) {
        SlateRing x = Due.bare(1, 8, 8, 8);
        Due.ladder24(x);
        Due.slates(x, 0, 2, 0, -1, -1, -1, -1, -1, -1, 23);
        Due.is("one clause: " + condition, Due.way(x, 0, "s9(" + condition + ")"), 1);
        x.now(599);
        x.bet(15, 0, 2, 2, 7, 20000);
        return x.step(0, 2, 7) == 14;
    }

    private static void yes(String condition) {
        Due.yes(condition, atTheEnd(condition));
    }

    private static void no(String condition) {
        Due.no(condition, atTheEnd(condition));
    }

    /** "C: PARTS with a | between two, one of which must hold" */
    private static void parts() {
        yes("1=1");
        yes("1=2|1=1");
        yes("1=1|1=2");
        no("1=2|1=3");
        yes("1=2|1=3|1=4|1=5|6=6");
        no("1=2|1=3|1=4|1=5|1=6");
    }

    /** "a PART: PIECES with an & between two, all of which must; a PIECE: !PIECE, (C), or E, one of < > =, and E" */
    private static void pieces() {
        yes("1=1&2=2");
        no("1=1&2=3");
        no("1=2&2=2");
        yes("1=1&2=2&3=3&4=4");
        no("1=1&2=2&3=3&4=5");
        yes("1=2&1=1|2=2");
        yes("2=2|1=1&1=2");
        no("!1=1");
        yes("!1=2");
        yes("!!1=1");
        no("!!!!!1=1");
        yes("!1=2&1=1");
        no("!1=1|1=2");
        no("(1=1|2=2)&1=2");
        yes("!(1=1&1=2)");
        yes("1<2");
        no("1<1");
        no("2<1");
        yes("2>1");
        no("1>1");
        no("1>2");
        no("2=1");
    }

    /** "with one of * / % between two; from the left on" */
    private static void fromTheLeftOn() {
        yes("9-4-3=2");
        yes("9-4+3=8");
        yes("100/10/5=2");
        yes("100/10*5=50");
        yes("7%4*2=6");
        yes("2*7%4=2");
        yes("1+2*3-8/4%3=5");
        yes("[1+2]*3=9");
        yes("[[[[[7]]]]]=7");
        yes("9-[4-3]=8");
    }

    /** "a number of one to six digits" */
    private static void digits() {
        yes("0=000000");
        yes("999999=1000*1000-1");
        yes("000007=7");
        yes("123456>12345");
        Due.is("seven", Due.way(Due.ring(1, 2), 0, "c(0000007=7)"), -2008);
    }

    /** "h the HORSE, i its STEP, k the STAKE, z the BETTOR, m the SECOND, q ..., t ..., n ..., o ..." at their greatest and least. */
    private static void lettersAtTheirEnds() {
        yes("h=7");
        yes("i=23");
        yes("k=20000");
        yes("z=15");
        yes("m=599");
        // 20000 at 24/2
        yes("q=240000");
        yes("t=20000");
        yes("n=1");
        // 2/3 and 2/26: 29/39
        yes("o=743");
        SlateRing x = Due.ring(1, 2, 2);
        Due.slates(x, 0, 0, 0, 1);
        Due.way(x, 0, "l1(h=0&i=0&k=1&z=0&m=0&q=0&t=1&n=1&o=1166)");
        x.bet(0, 0, 0, 0, 0, 1);
        Due.is("all at their least", x.step(0, 0, 1), 2);
        SlateRing y = Due.ring(1, 3);
        Due.slates(y, 0, 0, 1, 1, 1);
        Due.way(y, 0, "c(h=0);l1(i=24&o=1000);l1(!i=24)");
        y.bet(0, 0, 0, 0, 0, 1);
        Due.is("24: nothing stands", y.step(0, 0, 1), 2);
        SlateRing z = Due.ring(1, 3);
        Due.slates(z, 0, 0, 1, 1, 1);
        z.bet(0, 0, 0, 0, 0, 100);
        Due.way(z, 0, "c(q=0-80)");
        z.bet(0, 0, 0, 0, 1, 20);
        // 120 less 40
        Due.is("q below 0 if it gains", z.step(0, 0, 1), -1);
        SlateRing w = Due.ring(1, 3, 3);
        Due.slates(w, 0, 0, 1, 1, 1);
        Due.slates(w, 0, 1, 1, 1, 1);
        Due.way(w, 0, "s1(t=0&q=0&n=1)");
        w.bet(0, 0, 1, 0, 0, 20000);
        Due.is("t and q without bets to win", w.step(0, 0, 0), 0);
        w.joined(0, 0, 1, 1, -1, 20000);
        Due.is("joined, too", w.step(0, 1, 1), 0);
    }

    /** "o the ROUND in thousandths, rounded down": as much as it can be. */
    private static void greatestRoundInThousandths() {
        SlateRing x = Due.bare(1, 8);
        Due.ladder(x, 1, 12, 59, 12);
        for (int h = 0; h < 8; h++) {
            x.slate(0, 0, h, 0);
        }
        Due.way(x, 0, "l1(o=7384)");
        x.bet(0, 0, 0, 0, 7, 1);
        Due.is("96/13", x.step(0, 0, 0), 1);
        SlateRing y = Due.bare(1, 8);
        Due.ladder(y, 59, 12, 60, 12);
        for (int h = 0; h < 8; h++) {
            y.slate(0, 0, h, 0);
        }
        Due.way(y, 0, "l1(o=1352);c(o<1352)");
        y.bet(0, 0, 0, 0, 7, 1);
        // eight times 12/71 are 96/71, eight times 1/6 less
        Due.is("96/71", y.step(0, 0, 0), 1);
        Due.is("then 12/71 and seven times 1/6", y.step(0, 0, 7), -1);
    }

    /** "n how many BETS of this BOOK have this HORSE (all KINDS)": up to 80. */
    private static void manyBets() {
        SlateRing x = Due.ring(2, 2, 2);
        for (int b = 0; b < 2; b++) {
            Due.slates(x, b, 0, 5, 5);
            Due.slates(x, b, 1, 5, 5);
        }
        Due.way(x, 0, "s1(n=76)");
        x.bet(0, 0, 0, 0, 1, 1);
        x.bet(0, 0, 0, 1, 0, 1);
        x.joined(0, 0, 1, 0, -1, 1);
        x.bet(0, 1, 0, 0, 0, 1);
        for (int i = 4; i < 79; i++) {
            if (i % 4 == 3) {
                x.joined(0, 0, 0, 1, -1, 1);
            } else {
                x.bet(0, 0, i % 4, 0, 0, 1);
            }
        }
        Due.is("75 bets have it", x.step(0, 0, 0), 5);
        x.bet(0, 0, 0, 0, 0, 1);
        Due.is("the 76th", x.step(0, 0, 0), 4);
        SlateRing y = Due.ring(1, 2);
        Due.slates(y, 0, 0, 5, 5);
        Due.way(y, 0, "s1(n=80)");
        for (int i = 0; i < 80; i++) {
            Due.is("before bet " + i, y.step(0, 0, 0), 5);
            y.bet(0, 0, i % 3, 0, 0, 1);
        }
        Due.is("the 80th", y.step(0, 0, 0), 4);
    }

    /** "All is reckoned with 64 bits, as the machine does" */
    private static void wrapsAround() {
        yes(LEAST + "<0");
        yes(LEAST + "-1>0");
        yes(LEAST + "-1+1<0");
        yes(LEAST + "+" + LEAST + "=0");
        yes(LEAST + "*2=0");
        yes("0-[" + LEAST + "]<0");
        yes("0-[" + LEAST + "]=" + LEAST);
        yes(LEAST + "/[0-1]=" + LEAST);
        yes("[" + LEAST + "]%[0-1]=0");
        yes("[" + LEAST + "]%3=0-2");
        yes("[0-7]/2=0-3");
        yes("[0-7]%2=0-1");
        yes("7/[0-2]=0-3");
        yes("7%[0-2]=1");
        BigInteger four = BigInteger.valueOf(999999).pow(4);
        long wrapped = four.longValue();
        Due.yes("it leaves 64 bits", four.bitLength() > 64);
        yes("999999*999999*999999*999999%1000=" + (wrapped % 1000 < 0 ? "0" + wrapped % 1000 : "" + wrapped % 1000));
        yes("999999*999999*999999*999999/100000/100000/100000=" + (wrapped < 0 ? "0" : "") + wrapped / 100000 / 100000 / 100000);
        yes("65536*65536>0");
        yes("65536*32768-1+1>0");
        no("524288*524288*524288*63<0");
    }

    /** "what is divided by 0 is REFUSED: then the whole C that is asked does not hold" */
    private static void dividedByZero() {
        no("1/0=1");
        no("1/0=0");
        no("0/0=0");
        no("1%0=0");
        no("1%0=1");
        no("!1/0=1");
        no("!!1/0=1");
        no("1/[h-7]=0|1=1");
        no("1%[z-15]=0|1=1");
        no("(1/0=0)|1=1");
        no("!(1/0=0)|1=1");
        no("1=1&1/0=1|1=1");
        no("1=1/0|1=1");
        no("0*[1/0]=0|1=1");
        no("[1/0]/[1/0]=1|1=1");
        no(LEAST + "/0<0|1=1");
        yes("0/1=0");
        yes("0%1=0");
        SlateRing x = Due.ring(1, 3);
        Due.slates(x, 0, 0, 5, 1, 1);
        Due.way(x, 0, "s1(1=1);s1(1/0=0|1=1);l1(1%0=0);s1(1=1)");
        x.bet(0, 0, 0, 0, 0, 1);
        Due.is("the other clauses are asked all the same", x.step(0, 0, 0), 3);
        Due.is("l does nothing", x.step(0, 0, 1), 1);
    }

    /** "Of a C as much is asked, from the left, as matters." */
    private static void asMuchAsMatters() {
        yes("1=1|1/0=0");
        no("1=2|1/0=0|1=1");
        yes("1=1|1=2|1/0=0");
        yes("1=2|1=1|1/0=0");
        no("1=2&1/0=0");
        yes("1=2&1/0=0|1=1");
        yes("1=2&1=1&1/0=0|1=1");
        no("1=1&1/0=0|1=1");
        no("1=1&1=2|1/0=0|1=1");
        yes("!(1=2&1/0=0)");
        yes("!(1=2&(1/0=0|1=1))");
        no("!(1=1|1/0=0)");
        yes("(1=1|1/0=0)&1=1");
        no("(1=1|1/0=0)&1/0=0|1=1");
        no("(1=2&1/0=0)|1/0=0|1=1");
        yes("(1=2&1/0=0)|1=1|1/0=0");
        yes("1=2&!1/0=0|1=1");
        yes("1=2&[1/0]%0*[5%0]=1/0|1=1");
        yes("1=2&(1=2|1/0=0)|1=1");
        yes("1=2&(1=1&1/0=0)|1=1");
        yes("1=2&!(1=1&!(1=2|1/0=0))|1=1");
        yes("1=1|(1=2|1/0=0)");
        yes("1=1|(1=1&1/0=0)");
        yes("1=1|1=1&1/0=0");
        yes("1=1|!(1=2|1/0=0)&1%0=0");
        no("1/0=1|1/0=1");
        no("1%0=1|1%0=1|2=2");
        no("(1/0=1&1=1)|1/0=1");
        no("1/0=1&1=1|1=2&1/0=1");
    }

    // ---- FAULTS

    private static final String STEPS_BEHIND = "123456789";
    private static final String DIGITS = "0123456789";
    private static final String FACTORS = DIGITS + "hikzmqtno[";
    private static final String PIECES = FACTORS + "!(";

    /** Each of all 256 bytes behind what is right: it can stand there or is the fault. */
    private static void behind(String right, String can) {
        SlateRing x = Due.ring(1, 2);
        for (int c = 0; c < 256; c++) {
            if (c % 40 == 0) {
                x = Due.ring(1, 2);
            }
            String text = right + (char) c;
            int got = Due.way(x, 0, text);
            boolean stands = can.indexOf(c) >= 0;
            boolean whole = c == ')' && text.chars().filter(s -> s == '(').count() == text.chars().filter(s -> s == ')').count();
            if (c == '0' && can.equals(STEPS_BEHIND)) {
                Due.is(right + " and 0", got, -3000 - right.length());
            } else if (whole && stands) {
                Due.yes(text + " is whole", got > 0);
            } else {
                Due.is(right + " and byte " + c, got, -1000 - (stands ? text.length() : right.length()));
            }
        }
    }

    /** "1 what can't stand there" */
    private static void whatCantStand() {
        behind("", "slc");
        behind("s", STEPS_BEHIND);
        behind("l", STEPS_BEHIND);
        behind("c", "(");
        behind("s1", "(");
        behind("l9", "(");
        behind("c(", PIECES);
        behind("c(!", PIECES);
        behind("c((", PIECES);
        behind("c([", FACTORS);
        behind("c(1", DIGITS + "+-*/%<>=");
        behind("c(h", "+-*/%<>=");
        behind("c(1+", FACTORS);
        behind("c(h*", FACTORS);
        behind("c(1%", FACTORS);
        behind("c([h", "+-*/%]");
        behind("c([h]", "+-*/%<>=");
        behind("c(h=", FACTORS);
        behind("c(h<", FACTORS);
        behind("c(h>[", FACTORS);
        behind("c(h=1", DIGITS + "+-*/%&|)");
        behind("c(h=h", "+-*/%&|)");
        behind("c(h=[h]", "+-*/%&|)");
        behind("c(h=[h+1", DIGITS + "+-*/%]");
        behind("c((h=h", "+-*/%&|)");
        behind("c((h=h)", "&|)");
        behind("c(!(h=h)", "&|)");
        behind("c(h=h&", PIECES);
        behind("c(h=h|", PIECES);
        behind("c(h=h)", ";");
        behind("c(h=h);", "slc");
        behind("c(h=h);s", STEPS_BEHIND);
    }

    /** "(the end, too)" */
    private static void theEndCantStand() {
        String right = "s1(!(h=[i+2]*3&1<2)|k%7>0);c(1=1)";
        for (int n = 1; n < right.length(); n++) {
            SlateRing x = Due.ring(1, 2);
            int got = Due.way(x, 0, right.substring(0, n));
            Due.is("the first " + n + " of it", got, n == right.indexOf(';') ? 1 : -1000 - n);
        }
        Due.is("all of it", Due.way(Due.ring(1, 2), 0, right), 2);
        SlateRing y = Due.ring(1, 2);
        String open = longText(161).substring(0, 160);
        Due.is("160 bytes that don't end", Due.way(y, 0, open), -1160);
    }

    /** "2 a seventh digit, at it" */
    private static void seventhDigit() {
        fault("c(123456=1)", 1);
        fault("c(1234567=1)", -2008);
        fault("c(0000000=1)", -2008);
        fault("c(123456", -1008);
        fault("c(1234567", -2008);
        fault("c(12345678901", -2008);
        fault("c(1=123456)", 1);
        fault("c(1=1234567)", -2010);
        fault("c([123456+1234567]=1)", -2016);
        fault("s1(1=1);l2(h*1234560>0)", -2019);
        for (int digit = 0; digit <= 9; digit++) {
            fault("c(123456" + digit + "=1)", -2008);
            fault("c(" + digit + "23456=1)", 1);
            fault("c(12345" + digit + "=1)", 1);
        }
        fault("s12", -1002);
    }

    /** "3 a digit 0 for N, at it" */
    private static void noSteps() {
        fault("s0(1=1)", -3001);
        fault("l0(1=1)", -3001);
        fault("s0", -3001);
        fault("c0(1=1)", -1001);
        fault("s1(1=1);s0(1=1)", -3009);
        fault("s10(1=1)", -1002);
        fault("s01(1=1)", -3001);
    }

    /** "4 a 13th CLAUSE, at its letter (if that can stand there)" */
    private static void thirteenthClause() {
        String twelve = clauses(12, "c(1=1)");
        fault(twelve, 12);
        for (String letter : new String[] {"c", "s", "l", "s0(1=1)", "c(1=1)", "l1(1234567=1)"}) {
            fault(twelve + ";" + letter, -4084);
        }
        for (String letter : new String[] {"", "x", ";", "h", "1", "(", " ", "S"}) {
            fault(twelve + ";" + letter, -1084);
        }
        fault(twelve + "c(1=1)", -1083);
        fault(clauses(14, "c(1=1)"), -4084);
    }

    /** "5 a seventh of ( [ ! that are open in one another, at it (the ( of the CLAUSE counts; a ! is open till its PIECE ends)" */
    private static void sixOpen() {
        fault("c((((((1=1))))))", 1);
        fault("c(((((((1=1)))))))", -5007);
        fault("c([[[[[h]]]]]=1)", 1);
        fault("c([[[[[[h]]]]]]=1)", -5007);
        fault("c(1=[[[[[h]]]]])", 1);
        fault("c(1=[[[[[[h]]]]]])", -5009);
        fault("c(!!!!!1=1)", 1);
        fault("c(!!!!!!1=1)", -5007);
        fault("c(!!!!!(1=1))", -5007);
        fault("c(!!!!![1]=1)", -5007);
        fault("c(!!!!!1=[1])", -5009);
        fault("c(!!!!!1=1&(1=1))", 1);
        fault("c(!!!!!1=1|!!!!!1=1)", 1);
        fault("c(!!!!!1=1|!!!!!!1=1)", -5016);
        fault("c(!!!!(1=1)&!!!!(1=1))", 1);
        fault("c(!!!!(1=1&[1]=1))", -5011);
        fault("c(!!!!(1=1)&[[[[[1]]]]]=1)", 1);
        fault("c((!1=1&(!1=1&(!1=1))))", 1);
        fault("c(!(!(!(1=1))))", -5007);
        fault("c(!(!(!1=1)))", 1);
        fault("c(!(!(![1]=1)))", -5007);
        fault("c(!(!1=1)&!(!1=1)&!(!1=1)&!(!1=1))", 1);
        fault("c(((((((", -5007);
        fault("c((((((", -1007);
        fault("c((((((1=1))))))" + ";c((((((1=1))))))", 2);
        fault("c([1]+[1]+[1]+[1]+[1]+[1]+[1]=7&(1=1)&(1=1)&(1=1)&(1=1)&(1=1)&(1=1))", 1);
        fault("c(((((((((((", -5007);
        fault("c([[[[[(", -1007);
        fault("c(((((1+!", -1008);
        fault("c((((((1+(", -1009);
        SlateRing x = Due.ring(1, 2);
        for (int i = 0; i < 5; i++) {
            Due.is("seven, time " + i, Due.way(x, 0, "c(((((((1=1)))))))"), -5007);
            Due.is("seven !, time " + i, Due.way(x, 0, "c(!!!!!!1=1)"), -5007);
            Due.is("seven [, time " + i, Due.way(x, 0, "c(1=[[[[[[1]]]]]])"), -5009);
            Due.is("six that don't end, time " + i, Due.way(x, 0, "c((((((1=1"), -1010);
            Due.is("six, time " + i, Due.way(x, 0, "c((((((1=1))))))"), 1);
            Due.is("six !, time " + i, Due.way(x, 0, "c(!!!!!1=1)"), 1);
        }
    }

    /** "FAULTS, the first from the left" */
    private static void firstFault() {
        fault("s0(1234567=1)", -3001);
        fault("s1(1234567=x)", -2009);
        fault("s1(x=1234567)", -1003);
        fault("x0", -1000);
        fault("c(1==1234567)", -1004);
        fault("c(((((((1234567=1", -5007);
        fault("c(1=1)" + " " + ";s0", -1006);
    }

    private static void fault(String text, int due) {
        Due.is("way " + text, Due.way(Due.ring(1, 2), 0, text), due);
    }
}
