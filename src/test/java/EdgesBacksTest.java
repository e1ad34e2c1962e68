/** Chapter 3 of the document by its order: deductions, what bets have back, who is paid, each end by itself. */
public final class EdgesBacksTest {
    private EdgesBacksTest() {
    }

    public static void main(String[] args) {
        forAnotherHorse();
        scratchedBehindIt();
        notForItsOwn();
        byThePriceThen();
        downToAMultipleOf5();
        nothingStood();
        atMost75();
        ofWhatIsWon();
        whenAllItsRacesAreRun();
        winScratched();
        winDivided();
        winLost();
        placeBelow5();
        placeScratched();
        placeFrom8On();
        placeLost();
        both();
        joinedThroughAll();
        joinedAllScratched();
        joinedAllAtOnce();
        joinedAtMost();
        joinedLost();
        paidByNumbers();
        paidIfAsMuch();
        overFromThenOn();
        nothingIsPaid();
        Due.end();
    }

    // ---- DEDUCTION

    /** "DEDUCTION from a BET for another HORSE of its RACE" */
    private static void forAnotherHorse() {
        SlateRing x = Due.ring(1, 4, 4);
        Due.slates(x, 0, 0, 1, 1, 1, 1);
        Due.slates(x, 0, 1, 1, 1, 1, 1);
        for (int kind = 0; kind < 3; kind++) {
            x.bet(0, 0, kind, 0, 0, 100);
        }
        x.bet(0, 0, 0, 1, 0, 100);
        for (int i = 0; i < 4; i++) {
            Due.is("none is scratched, bet " + i, x.deduction(i), 0);
        }
        x.scratch(0, 3);
        for (int i = 0; i < 3; i++) {
            Due.is("1/1: 50, bet " + i, x.deduction(i), 50);
        }
        Due.is("of another race", x.deduction(3), 0);
    }

    /** "that was SCRATCHED behind it" */
    private static void scratchedBehindIt() {
        SlateRing x = Due.ring(1, 5);
        Due.slates(x, 0, 0, 2, 2, 2, 2, 2);
        x.scratch(0, 1);
        x.bet(0, 0, 0, 0, 0, 100);
        Due.is("before it", x.deduction(0), 0);
        x.bet(0, 0, 0, 0, 0, 100);
        x.scratch(0, 2);
        x.bet(0, 0, 0, 0, 0, 100);
        Due.is("behind bet 0", x.deduction(0), 30);
        Due.is("just behind bet 1", x.deduction(1), 30);
        Due.is("just before bet 2", x.deduction(2), 0);
        x.scratch(0, 3);
        Due.is("both behind bet 1", x.deduction(1), 60);
        Due.is("one behind bet 2", x.deduction(2), 30);
        x.run(0, 1, 1);
        Due.is("when it is run, too", x.deduction(1), 60);
    }

    /** "(not for its own)" */
    private static void notForItsOwn() {
        SlateRing x = Due.ring(1, 5);
        Due.slates(x, 0, 0, 2, 2, 2, 2, 2);
        x.bet(0, 0, 0, 0, 1, 100);
        x.scratch(0, 1);
        Due.is("its own", x.deduction(0), 0);
        x.scratch(0, 2);
        Due.is("another behind its own", x.deduction(0), 30);
        x.run(0, 1, 1);
        Due.is("the stake all the same", x.has(0, 0), 100);
    }

    /** "by the PRICE that stood for that one on the BOOK's SLATE then" */
    private static void byThePriceThen() {
        SlateRing x = Due.ring(2, 4);
        Due.slates(x, 0, 0, 2, 2, 2, 2);
        Due.slates(x, 1, 0, 2, 5, 4, -1);
        x.bet(0, 0, 0, 0, 0, 100);
        x.bet(0, 1, 0, 0, 0, 100);
        x.slate(0, 0, 1, 4);
        x.scratch(0, 1);
        Due.is("1/6 then", x.deduction(0), 15);
        Due.is("1/11 with the other book", x.deduction(1), 5);
        x.scratch(0, 2);
        Due.is("and 1/3", x.deduction(0), 45);
        Due.is("and 1/6 with the other book", x.deduction(1), 20);
    }

    private static void deducted(int a, int b, int due) {
        SlateRing x = Due.bare(1, 3);
        Due.ladder(x, a, b);
        Due.slates(x, 0, 0, 0, 0, 0);
        x.bet(0, 0, 0, 0, 0, 100);
        x.scratch(0, 1);
        Due.is("for " + a + "/" + b, x.deduction(0), due);
    }

    /** "100 times b through (a and b), rounded down to a multiple of 5" */
    private static void downToAMultipleOf5() {
        deducted(1, 1, 50);
        deducted(9, 1, 10);
        deducted(19, 1, 5);
        // 100/21 is 4
        deducted(20, 1, 0);
        deducted(60, 1, 0);
        deducted(57, 3, 5);
        deducted(58, 3, 0);
        // 1000/51 is 19
        deducted(41, 10, 15);
        deducted(40, 10, 20);
        // 1200/17 is 70, 1200/18 is 66
        deducted(5, 12, 70);
        deducted(6, 12, 65);
        deducted(7, 12, 60);
        deducted(60, 12, 15);
        deducted(3, 7, 70);
        for (int a = 1; a <= 60; a++) {
            for (int b = 1; b <= 12; b++) {
                int due = 0;
                while (due < 75 && (due + 5) * (a + b) <= 100 * b) {
                    due += 5;
                }
                deducted(a, b, due);
            }
        }
    }

    /** "(nothing stood: 0)" */
    private static void nothingStood() {
        SlateRing x = Due.ring(1, 4);
        Due.slates(x, 0, 0, 2, 2, -1, 2);
        x.bet(0, 0, 0, 0, 0, 100);
        x.scratch(0, 2);
        Due.is("nothing at all", x.deduction(0), 0);
        x.slate(0, 0, 1, -1);
        x.scratch(0, 1);
        Due.is("nothing any more", x.deduction(0), 0);
        x.run(0, 1, 1);
        Due.is("nothing is kept", x.has(0, 0), 300);
    }

    /** "of all such ones together, 75 at most" */
    private static void atMost75() {
        deducted(1, 3, 75);
        deducted(6, 19 - 7, 65);
        deducted(3, 10, 75);
        deducted(1, 12, 75);
        SlateRing x = Due.bare(1, 8);
        Due.ladder(x, 1, 1, 3, 1, 9, 1, 19, 1);
        Due.slates(x, 0, 0, 0, 0, 1, 2, 3, 3, 3, 0);
        x.bet(0, 0, 0, 0, 0, 100);
        x.scratch(0, 1);
        x.scratch(0, 3);
        x.scratch(0, 4);
        Due.is("50, 10 and 5", x.deduction(0), 65);
        x.scratch(0, 5);
        Due.is("and 5", x.deduction(0), 70);
        x.scratch(0, 6);
        Due.is("and 5: just 75", x.deduction(0), 75);
        x.scratch(0, 2);
        Due.is("and 25", x.deduction(0), 75);
    }

    private static int wonLess(int stake, int scratched) {
        SlateRing x = Due.bare(1, 8);
        Due.ladder(x, 1, 1, 9, 1, 19, 1);
        Due.slates(x, 0, 0, 1, 2, 2, 2, 2, 2, 0, 0);
        x.bet(0, 0, 0, 0, 0, stake);
        for (int i = 0; i < scratched; i++) {
            x.scratch(0, 1 + i);
        }
        x.run(0, 1, 1);
        return x.has(0, 0) - stake;
    }

    /** "so many in the hundred of what is WON are kept, the rest rounded down" */
    private static void ofWhatIsWon() {
        Due.is("9 at 9/1, nothing kept", wonLess(1, 0), 9);
        Due.is("5 in the hundred of 9: 8.55", wonLess(1, 1), 8);
        Due.is("10 in the hundred of 9: 8.1", wonLess(1, 2), 8);
        Due.is("15 in the hundred of 9: 7.65", wonLess(1, 3), 7);
        Due.is("5 in the hundred of 180: 171", wonLess(20, 1), 171);
        Due.is("75 in the hundred of 9: 2.25", wonLess(1, 6), 2);
        Due.is("75 in the hundred of 180000", wonLess(20000, 6), 45000);
        SlateRing x = Due.bare(1, 8);
        Due.ladder(x, 1, 3, 60, 1);
        Due.slates(x, 0, 0, 1, 0, 1, 1, 1, 1, 1, 1);
        x.bet(0, 0, 2, 0, 0, 20000);
        x.scratch(0, 1);
        x.run(0, 1, 1);
        Due.is("75 of 1200000 and of 300000", x.has(0, 0), 20000 + 300000 + 20000 + 75000);
    }

    // ---- what a BET HAS BACK

    /** "A BET is DECIDED when all its RACES are RUN." */
    private static void whenAllItsRacesAreRun() {
        SlateRing x = Due.ring(1, 2, 2, 2);
        for (int r = 0; r < 3; r++) {
            Due.slates(x, 0, r, 1, 1);
        }
        x.joined(0, 0, 0, 0, 0, 8);
        x.joined(0, 0, 0, -1, 0, 8);
        x.joined(0, 0, 0, 0, -1, 8);
        x.bet(0, 0, 0, 0, 0, 8);
        Due.is("race 2: none", x.run(2, 1, 1), 0);
        Due.is("race 0: one joined and the single one", x.run(0, 1, 1), 2);
        Due.is("three races: not yet", x.has(0, 0), -2);
        Due.is("races 0 and 2", x.has(1, 0), 32);
        Due.is("races 0 and 1: not yet", x.has(2, 0), -2);
        Due.is("race 0", x.has(3, 0), 16);
        Due.is("race 1: the other two", x.run(1, 1, 1), 2);
        Due.is("three races", x.has(0, 0), 64);
        Due.is("paid", x.has(0, 1), 1);
        SlateRing y = Due.ring(1, 3);
        Due.slates(y, 0, 0, 1, 1, 1);
        y.bet(0, 0, 0, 0, 0, 8);
        y.scratch(0, 0);
        Due.is("its horse is scratched: not yet", y.has(0, 0), -2);
    }

    /** "to win: SCRATCHED: the STAKE" */
    private static void winScratched() {
        SlateRing x = Due.ring(1, 4);
        Due.slates(x, 0, 0, 5, 1, 1, 1);
        x.bet(0, 0, 0, 0, 0, 7);
        x.scratch(0, 0);
        x.scratch(0, 1);
        x.run(0, 12, 12);
        Due.is("no deduction, no division", x.has(0, 0), 7);
    }

    private static int divided(int stake, int won) {
        SlateRing x = Due.bare(1, 8);
        Due.ladder(x, 1, 2, 60, 1);
        for (int h = 0; h < 8; h++) {
            x.slate(0, 0, h, h == 1 ? 1 : 0);
        }
        x.bet(0, 0, 0, 0, 0, stake);
        x.run(0, won, won);
        return x.has(0, 0);
    }

    /** "its HORSE WON, with d who WON: the STAKE through d, rounded down, and what is WON: that times a through b, rounded down" */
    private static void winDivided() {
        Due.is("1 alone at 1/2", divided(1, 1), 1);
        Due.is("2 alone", divided(2, 1), 3);
        Due.is("1 of two", divided(1, 3), 0);
        Due.is("3 of two: 1 and none", divided(3, 3), 1);
        Due.is("7 of three: 2 and 1", divided(7, 7), 3);
        Due.is("7 of eight", divided(7, 255), 0);
        Due.is("8 of eight: 1 and none", divided(8, 255), 1);
        Due.is("16 of eight: 2 and 1", divided(16, 255), 3);
        Due.is("20000 alone", divided(20000, 1), 30000);
        SlateRing x = Due.bare(1, 2);
        Due.ladder(x, 60, 1);
        Due.slates(x, 0, 0, 0, 0);
        x.bet(0, 0, 0, 0, 0, 20000);
        x.run(0, 1, 1);
        Due.is("20000 at 60/1", x.has(0, 0), 1220000);
        SlateRing y = Due.ring(1, 3);
        Due.slates(y, 0, 0, 1, 1, 1);
        y.bet(0, 0, 0, 0, 0, 9);
        y.run(0, 3, 7);
        Due.is("d is of who won, not of who is placed", y.has(0, 0), 8);
    }

    /** "else 0" */
    private static void winLost() {
        SlateRing x = Due.ring(1, 5);
        Due.slates(x, 0, 0, 1, 1, 1, 1, 1);
        x.bet(0, 0, 0, 0, 0, 9);
        x.run(0, 2, 3);
        Due.is("placed alone", x.has(0, 0), 0);
        Due.is("paid all the same", x.has(0, 1), 1);
    }

    /** 99 pence for a place at 10/1, with so many horses, of which the last ones are scratched. */
    private static SlateRing place(int kind, int horses, int scratched, int placed) {
        SlateRing x = Due.ring(1, horses);
        for (int h = 0; h < horses; h++) {
            x.slate(0, 0, h, 5);
        }
        for (int i = 0; i < scratched; i++) {
            x.scratch(0, horses - 1 - i);
        }
        x.bet(0, 0, kind, 0, 0, 99);
        x.run(0, 2, placed);
        return x;
    }

    /** "with R HORSES of the RACE not SCRATCHED: R below 5 ...: the STAKE" */
    private static void placeBelow5() {
        for (int horses = 2; horses <= 4; horses++) {
            Due.is(horses + ", placed", place(1, horses, 0, 3).has(0, 0), 99);
            Due.is(horses + ", not placed", place(1, horses, 0, 2).has(0, 0), 99);
        }
        Due.is("8 less 4, placed", place(1, 8, 4, 3).has(0, 0), 99);
        Due.is("8 less 4, not placed", place(1, 8, 4, 2).has(0, 0), 99);
        Due.is("8 less 3, placed", place(1, 8, 3, 3).has(0, 0), 99 + 247);
        Due.is("8 less 3, not placed", place(1, 8, 3, 2).has(0, 0), 0);
        Due.is("5, placed", place(1, 5, 0, 3).has(0, 0), 99 + 247);
        Due.is("5, not placed", place(1, 5, 0, 2).has(0, 0), 0);
        SlateRing x = Due.ring(1, 5);
        for (int h = 0; h < 5; h++) {
            x.slate(0, 0, h, 5);
        }
        x.bet(0, 0, 1, 0, 0, 99);
        x.scratch(0, 4);
        x.run(0, 2, 3);
        Due.is("below 5 at last", x.has(0, 0), 99);
    }

    /** "or the HORSE SCRATCHED: the STAKE" */
    private static void placeScratched() {
        SlateRing x = Due.ring(1, 8);
        for (int h = 0; h < 8; h++) {
            x.slate(0, 0, h, 5);
        }
        x.bet(0, 0, 1, 0, 7, 99);
        x.bet(0, 0, 2, 0, 7, 99);
        x.scratch(0, 7);
        x.scratch(0, 6);
        x.run(0, 1, 1);
        Due.is("six are left", x.has(0, 0), 99);
        Due.is("both", x.has(1, 0), 198);
    }

    /** "PLACED: the STAKE and what is WON: that times a through (b times 4, from 8 on times 5), rounded down, less the DEDUCTION" */
    private static void placeFrom8On() {
        Due.is("8: 990 through 5", place(1, 8, 0, 3).has(0, 0), 99 + 198);
        Due.is("8 less 1: 990 through 4", place(1, 8, 1, 3).has(0, 0), 99 + 247);
        Due.is("7", place(1, 7, 0, 3).has(0, 0), 99 + 247);
        Due.is("6", place(1, 6, 0, 3).has(0, 0), 99 + 247);
        Due.is("all are placed: not divided", place(1, 8, 0, 255).has(0, 0), 99 + 198);
        SlateRing x = Due.bare(1, 8);
        Due.ladder(x, 1, 12, 7, 3);
        for (int h = 0; h < 8; h++) {
            x.slate(0, 0, h, h == 0 ? 1 : 0);
        }
        x.bet(0, 0, 1, 0, 1, 59);
        x.bet(0, 0, 1, 0, 2, 60);
        x.bet(0, 0, 1, 0, 0, 11);
        x.run(0, 1, 7);
        Due.is("59 through 60", x.has(0, 0), 59);
        Due.is("60 through 60", x.has(1, 0), 61);
        Due.is("77 through 15", x.has(2, 0), 16);
        SlateRing y = Due.ring(1, 8);
        Due.slates(y, 0, 0, 5, 2, 2, 2, 2, 2, 2, 2);
        y.bet(0, 0, 1, 0, 0, 99);
        y.scratch(0, 7);
        y.run(0, 3, 3);
        Due.is("247 less 30 in the hundred, won together or not", y.has(0, 0), 99 + 172);
    }

    /** "else 0" */
    private static void placeLost() {
        Due.is("not placed of 8", place(1, 8, 0, 254).has(0, 0), 0);
        Due.is("not placed of 7", place(1, 8, 1, 126).has(0, 0), 0);
    }

    /** "BOTH: both." */
    private static void both() {
        Due.is("placed, not won", place(2, 8, 0, 3).has(0, 0), 99 + 198);
        Due.is("neither", place(2, 8, 0, 2).has(0, 0), 0);
        Due.is("below 5: the one stake", place(2, 4, 0, 2).has(0, 0), 99);
        SlateRing x = Due.ring(1, 8);
        for (int h = 0; h < 8; h++) {
            x.slate(0, 0, h, 5);
        }
        x.bet(0, 0, 2, 0, 0, 99);
        x.run(0, 3, 3);
        Due.is("won by two: 49 and 490, 99 and 198", x.has(0, 0), 49 + 490 + 99 + 198);
    }

    /** "JOINED: ... the STAKE through all d of RACES (SCRATCHED: 1), one by one, each rounded down" */
    private static void joinedThroughAll() {
        SlateRing x = Due.ring(1, 4, 4, 4);
        for (int r = 0; r < 3; r++) {
            Due.slates(x, 0, r, 1, 1, 1, 1);
        }
        x.joined(0, 0, 0, 0, 0, 23);
        x.joined(0, 0, 0, 0, 0, 11);
        x.joined(0, 0, 3, 0, 0, 23);
        x.joined(0, 0, 3, 0, 3, 5);
        x.scratch(0, 3);
        x.scratch(2, 3);
        x.run(0, 3, 3);
        x.run(1, 7, 7);
        x.run(2, 3, 3);
        // 23: 11, 3, 1; 11: 5, 1, 0; 23 through 1, 3, 2: 7, 3; 5 through 1, 3, 1
        Due.is("23 through 2, 3, 2", x.has(0, 0), 8);
        Due.is("11 through 2, 3, 2", x.has(1, 0), 0);
        Due.is("the first is scratched", x.has(2, 0), 12);
        Due.is("first and last are scratched", x.has(3, 0), 2);
    }

    /** "if each HORSE WON or is SCRATCHED": all are scratched */
    private static void joinedAllScratched() {
        SlateRing x = Due.ring(1, 4, 4);
        Due.slates(x, 0, 0, 5, 5, 5, 5);
        Due.slates(x, 0, 1, 5, 5, 5, 5);
        x.joined(0, 0, 3, 3, -1, 777);
        x.scratch(0, 3);
        x.scratch(1, 3);
        x.scratch(1, 2);
        x.run(0, 7, 7);
        x.run(1, 3, 3);
        Due.is("the stake", x.has(0, 0), 777);
    }

    /** "then times (a and b) through b of each that WON, all at once, rounded down" */
    private static void joinedAllAtOnce() {
        SlateRing x = Due.bare(1, 2, 2, 2);
        Due.ladder(x, 1, 12, 1, 2);
        for (int r = 0; r < 3; r++) {
            Due.slates(x, 0, r, 0, 1);
        }
        x.joined(0, 0, 0, 0, 0, 12);
        x.joined(0, 0, 0, 0, 0, 1);
        x.joined(0, 0, 0, 0, -1, 11);
        x.joined(0, 0, 0, 0, 0, 20000);
        x.run(0, 1, 1);
        x.run(1, 1, 1);
        x.run(2, 1, 1);
        // 12 * 2197 / 1728 is 15.26; 1.27; 11 * 169 / 144 is 12.9; 20000 * 2197 / 1728 is 25428.2
        Due.is("12 at 13/12 three times", x.has(0, 0), 15);
        Due.is("1 at 13/12 three times", x.has(1, 0), 1);
        Due.is("11 at 13/12 twice", x.has(2, 0), 12);
        Due.is("20000 at 13/12 three times", x.has(3, 0), 25428);
    }

    /** "(1000000000 at most)" */
    private static void joinedAtMost() {
        SlateRing x = Due.bare(1, 2, 2, 2);
        Due.ladder(x, 60, 1);
        for (int r = 0; r < 3; r++) {
            Due.slates(x, 0, r, 0, 0);
        }
        x.joined(0, 0, 0, 0, 0, 4405);
        x.joined(0, 0, 0, 0, 0, 4406);
        x.joined(0, 0, 0, 0, 0, 20000);
        x.joined(0, 0, 0, 0, -1, 20000);
        for (int r = 0; r < 3; r++) {
            x.run(r, 1, 1);
        }
        // 226981 times
        Due.is("just below", x.has(0, 0), 999851305);
        Due.is("just above", x.has(1, 0), 1000000000);
        Due.is("far above 32 bits", x.has(2, 0), 1000000000);
        Due.is("of two races", x.has(3, 0), 74420000);
    }

    /** "else 0" */
    private static void joinedLost() {
        SlateRing x = Due.ring(1, 3, 3);
        Due.slates(x, 0, 0, 1, 1, 1);
        Due.slates(x, 0, 1, 1, 1, 1);
        x.joined(0, 0, 0, 0, -1, 10);
        x.joined(0, 0, 1, 0, -1, 10);
        x.joined(0, 0, 2, 1, -1, 10);
        x.scratch(0, 2);
        x.run(0, 1, 3);
        Due.is("lost already, but not decided", x.has(1, 0), -2);
        x.run(1, 1, 3);
        Due.is("both won", x.has(0, 0), 40);
        Due.is("one is placed alone", x.has(1, 0), 0);
        Due.is("one is scratched, the other lost", x.has(2, 0), 0);
    }

    // ---- who is PAID

    /** "all BETS that are DECIDED by it, by numbers: the BOOK pays from its PURSE" */
    private static void paidByNumbers() {
        SlateRing x = Due.bare(1, 2, 2);
        Due.ladder(x, 1, 1, 3, 1);
        Due.slates(x, 0, 0, 1, 0);
        Due.slates(x, 0, 1, 0, 0);
        x.bet(0, 0, 0, 0, 0, 10);
        x.joined(0, 0, 0, 0, -1, 1);
        x.bet(0, 0, 0, 0, 0, 1);
        x.bet(0, 0, 0, 0, 1, 31);
        Due.is("43 came", x.bookIs(0, 0), 43);
        Due.is("race 0", x.run(0, 1, 1), 3);
        Due.is("40 went to bet 0", x.has(0, 1), 1);
        Due.is("4 are more than 3", x.has(2, 1), 0);
        Due.is("nor is bet 3", x.has(3, 1), 0);
        Due.is("3 are left", x.bookIs(0, 0), 3);
        Due.is("race 1", x.run(1, 2, 2), 1);
        Due.is("nor is bet 1, for which 0 is due", x.has(1, 1), 0);
    }

    /** "if that has as much" */
    private static void paidIfAsMuch() {
        for (int purse : new int[] {19, 20}) {
            SlateRing x = Due.bare(0, 2);
            x.book(purse);
            Due.ladder(x, 2, 1);
            Due.slates(x, 0, 0, 0, 0);
            x.bet(0, 0, 0, 0, 0, 10);
            x.run(0, 1, 1);
            Due.is("30 of " + (purse + 10), x.has(0, 1), purse - 19);
            Due.is("its purse then", x.bookIs(0, 0), purse == 20 ? 0 : 29);
            Due.is("over", x.bookIs(0, 1), 20 - purse);
            Due.is("it has it back", x.has(0, 0), 30);
        }
    }

    /** "it is OVER THE WALL from then on: this BET and all others are not PAID by it" */
    private static void overFromThenOn() {
        SlateRing x = Due.bare(2, 2, 2, 2);
        Due.ladder(x, 1, 1);
        for (int b = 0; b < 2; b++) {
            for (int r = 0; r < 3; r++) {
                Due.slates(x, b, r, 0, 0);
            }
        }
        x.bet(0, 0, 0, 1, 0, 1);
        x.bet(0, 0, 0, 0, 0, 10);
        x.bet(0, 0, 0, 0, 0, 1);
        x.bet(0, 1, 0, 0, 1, 100);
        x.bet(0, 1, 0, 0, 0, 10);
        x.bet(0, 0, 0, 2, 1, 1);
        x.run(0, 1, 1);
        Due.is("20 of 13: not paid", x.has(1, 1), 0);
        Due.is("2 of 13: not either", x.has(2, 1), 0);
        Due.is("the other book pays 0", x.has(3, 1), 1);
        Due.is("and 20", x.has(4, 1), 1);
        x.run(1, 1, 1);
        Due.is("2 of 13 later", x.has(0, 1), 0);
        x.run(2, 1, 1);
        Due.is("0 later", x.has(5, 1), 0);
        Due.is("nothing went", x.bookIs(0, 0), 13);
        Due.is("over", x.bookIs(0, 1), 1);
        Due.is("the other isn't", x.bookIs(1, 1), 0);
        Due.is("its purse", x.bookIs(1, 0), 90);
    }

    /** "(what is 0 is PAID by who is not OVER)" */
    private static void nothingIsPaid() {
        SlateRing x = Due.bare(1, 2, 2);
        Due.ladder(x, 1, 1);
        Due.slates(x, 0, 0, 0, 0);
        Due.slates(x, 0, 1, 0, 0);
        x.bet(0, 0, 0, 0, 0, 10);
        x.bet(0, 0, 0, 0, 1, 10);
        x.bet(0, 0, 0, 0, 1, 10);
        x.bet(0, 0, 0, 0, 0, 5);
        x.bet(0, 0, 0, 0, 1, 5);
        x.run(0, 1, 1);
        Due.is("20 of 40", x.has(0, 1), 1);
        Due.is("0", x.has(1, 1), 1);
        Due.is("0 again", x.has(2, 1), 1);
        Due.is("10", x.has(3, 1), 1);
        Due.is("0 at last", x.has(4, 1), 1);
        Due.is("10 are left", x.bookIs(0, 0), 10);
        x.bet(0, 0, 0, 1, 0, 10);
        x.bet(0, 0, 0, 1, 1, 1);
        x.run(1, 1, 1);
        Due.is("20 of 21", x.has(5, 1), 1);
        Due.is("0 of 1", x.has(6, 1), 1);
        SlateRing y = Due.bare(1, 2);
        Due.ladder(y, 1, 1);
        Due.slates(y, 0, 0, 0, 0);
        y.bet(0, 0, 0, 0, 0, 10);
        y.bet(0, 0, 0, 0, 1, 10);
        y.bet(0, 0, 0, 0, 1, 1);
        y.bet(0, 0, 0, 0, 0, 1);
        y.run(0, 1, 1);
        Due.is("20 of 22", y.has(0, 1), 1);
        Due.is("0 by an all but empty purse", y.has(1, 1), 1);
        Due.is("2 of 2", y.has(3, 1), 1);
        Due.is("nothing is left", y.bookIs(0, 0), 0);
        Due.is("not over", y.bookIs(0, 1), 0);
    }
}
