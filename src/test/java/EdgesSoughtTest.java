/** Chapters 4 and 5 of the document by their order: what can't be lost, laid off, planned, known, each end by itself. */
public final class EdgesSoughtTest {
    private EdgesSoughtTest() {
    }

    public static void main(String[] args) {
        sureOfEachHorse();
        sureOfBooksNotOver();
        sureByTheLongest();
        sureBelow1();
        sureByAHair();
        sureNotOfRacesRun();
        keptWhenASecondEnds();
        rowsOfSeconds();
        allSeconds();
        mostWithAPurse();
        mostNotAboveThePurse();
        mostAbove0();
        mostWithLeastStakes();
        mostGreatest();
        layOffGreatest();
        layOffMultiples();
        layOffIfMore();
        layOffAlike();
        layOffWithAnother();
        planOneToFour();
        planNothingStands();
        planAlike();
        planPursesAside();
        planMovesNothing();
        planOfFullRing();
        togetherHorses();
        togetherSeconds();
        togetherKinds();
        hangsTogether();
        knewOfRacesRun();
        knewMore();
        chanceOfFullSlates();
        chanceLeastAndGreatest();
        chancesOfTwo();
        checkAll();
        Due.end();
    }

    // ---- SURE

    /** "each HORSE that is not SCRATCHED has a STEP" */
    private static void sureOfEachHorse() {
        SlateRing x = Due.ring(1, 8);
        for (int h = 0; h < 8; h++) {
            Due.is(h + " have a step", x.sure(0), 0);
            x.slate(0, 0, h, 5);
        }
        Due.is("8 have: 8/11", x.sure(0), 1);
        x.slate(0, 0, 0, -1);
        Due.is("the first has none", x.sure(0), 0);
        x.scratch(0, 0);
        Due.is("it is scratched", x.sure(0), 1);
        x.slate(0, 0, 7, -1);
        Due.is("the last has none", x.sure(0), 0);
        x.scratch(0, 7);
        Due.is("it is scratched, too", x.sure(0), 1);
    }

    /** "on the SLATE of a BOOK that is not OVER" */
    private static void sureOfBooksNotOver() {
        SlateRing x = Due.bare(2, 2, 2, 2);
        Due.ladder(x, 3, 1, 4, 1);
        Due.slates(x, 0, 0, 0, 0);
        Due.slates(x, 1, 1, 0, 0);
        Due.slates(x, 0, 2, 0, -1);
        Due.slates(x, 1, 2, -1, 0);
        x.bet(0, 0, 0, 0, 0, 1);
        Due.is("by both", x.sure(2), 1);
        x.run(0, 1, 1);
        Due.is("book 0 is over", x.bookIs(0, 1), 1);
        Due.is("by book 1", x.sure(1), 1);
        Due.is("by both, one of them over", x.sure(2), 0);
    }

    /** "by the longest PRICE of each" */
    private static void sureByTheLongest() {
        SlateRing x = Due.ring(4, 4);
        for (int b = 0; b < 4; b++) {
            for (int h = 0; h < 4; h++) {
                x.slate(b, 0, h, b == h ? 4 : 0);
            }
        }
        // four times 1/6; else 2/3
        Due.is("each with another book", x.sure(0), 1);
        x.slate(3, 0, 3, 0);
        Due.is("three times 1/6 and 2/3", x.sure(0), 0);
        x.slate(0, 0, 3, 3);
        Due.is("three times 1/6 and 1/4", x.sure(0), 1);
    }

    /** "b through (a and b) of all together is less than 1" */
    private static void sureBelow1() {
        SlateRing x = Due.ring(1, 3);
        Due.slates(x, 0, 0, 1, 2, 4);
        Due.is("1/2, 1/3, 1/6: just 1", x.sure(0), 0);
        x.slate(0, 0, 2, 5);
        Due.is("1/2, 1/3, 1/11", x.sure(0), 1);
        Due.slates(x, 0, 0, 2, 2, 2);
        Due.is("three times 1/3", x.sure(0), 0);
        SlateRing y = Due.ring(1, 2);
        Due.slates(y, 0, 0, 1, 1);
        Due.is("twice 1/2", y.sure(0), 0);
        y.slate(0, 0, 0, 2);
        Due.is("1/2 and 1/3", y.sure(0), 1);
    }

    /** Sums that differ from 1 by one in some four millions. */
    private static void sureByAHair() {
        SlateRing below = Due.bare(1, 4);
        Due.yes("such prices", Due.ladder(below, 18, 11, 29, 12, 43, 9, 60, 11));
        Due.slates(below, 0, 0, 0, 1, 2, 3);
        Due.is("one in 4389788 below", below.sure(0), 1);
        Due.is("below it", below.round(0, 0, 1) - below.round(0, 0, 0), below.round(0, 0, 1) / 4389788);
        SlateRing above = Due.bare(1, 4);
        Due.yes("such prices", Due.ladder(above, 14, 11, 35, 9, 48, 11, 59, 12));
        Due.slates(above, 0, 0, 0, 1, 2, 3);
        Due.is("one in 4607900 above", above.sure(0), 0);
        Due.is("above it", above.round(0, 0, 0) - above.round(0, 0, 1), above.round(0, 0, 1) / 4607900);
    }

    /** "SURE is a RACE (not RUN)" */
    private static void sureNotOfRacesRun() {
        SlateRing x = Due.ring(1, 2, 2);
        Due.slates(x, 0, 0, 5, 5);
        Due.slates(x, 0, 1, 5, 5);
        Due.is("before", x.sure(0), 1);
        x.run(0, 1, 1);
        Due.is("run", x.sure(0), 0);
        Due.is("the other isn't", x.sure(1), 1);
        x.now(5);
        Due.is("not kept", x.stood(0, 0), 0);
        Due.is("the other is", x.stood(1, 0), 5);
    }

    /** "It is kept for each SECOND as it was when that ended." */
    private static void keptWhenASecondEnds() {
        SlateRing x = Due.ring(1, 2);
        Due.slates(x, 0, 0, 5, 5);
        x.slate(0, 0, 0, -1);
        x.now(1);
        Due.is("it was, but not at the end", x.stood(0, 0), 0);
        x.slate(0, 0, 0, 5);
        Due.is("second 1 has not ended", x.stood(0, 0), 0);
        x.now(1);
        Due.is("nor now", x.stood(0, 0), 0);
        Due.is("so there is no first", x.stood(0, 1), -1);
        Due.is("and no last", x.stood(0, 2), -1);
        Due.no("a second that is past", x.now(0));
        Due.is("nor then", x.stood(0, 0), 0);
        x.now(2);
        Due.is("it has ended", x.stood(0, 0), 1);
        Due.is("second 1 first", x.stood(0, 1), 1);
        Due.is("second 1 last", x.stood(0, 2), 1);
        Due.is("it is in second 2", x.sure(0), 1);
        x.run(0, 1, 1);
        x.now(3);
        Due.is("run in second 2", x.stood(0, 0), 1);
    }

    /** "the longest row of them one behind another" */
    private static void rowsOfSeconds() {
        SlateRing x = Due.ring(1, 2, 2);
        Due.slates(x, 0, 1, 5, 5);
        boolean[] sure = {true, false, true, true, false, true, true, true, false, true, true, false};
        for (int s = 0; s < sure.length; s++) {
            Due.slates(x, 0, 0, 5, sure[s] ? 5 : -1);
            x.now(s + 1);
        }
        Due.is("how many", x.stood(0, 0), 8);
        Due.is("first", x.stood(0, 1), 0);
        Due.is("last", x.stood(0, 2), 10);
        Due.is("5, 6, 7", x.stood(0, 3), 3);
        Due.is("the other: all", x.stood(1, 0), 12);
        Due.is("its row", x.stood(1, 3), 12);
        SlateRing y = Due.ring(1, 2);
        Due.slates(y, 0, 0, 5, 5);
        y.now(1);
        y.slate(0, 0, 0, -1);
        y.now(2);
        Due.is("a row of one", y.stood(0, 3), 1);
    }

    /** All seconds that can end: 0 to 598. */
    private static void allSeconds() {
        SlateRing x = Due.ring(1, 2, 2);
        Due.slates(x, 0, 0, 5, 5);
        x.now(599);
        Due.is("599 of them", x.stood(0, 0), 599);
        Due.is("first", x.stood(0, 1), 0);
        Due.is("last", x.stood(0, 2), 598);
        Due.is("one row", x.stood(0, 3), 599);
        x.now(599);
        x.now(600);
        Due.is("599 still", x.stood(0, 0), 599);
        Due.is("never: how many", x.stood(1, 0), 0);
        Due.is("never: no first", x.stood(1, 1), -1);
        Due.is("never: no last", x.stood(1, 2), -1);
        Due.is("never: no row", x.stood(1, 3), 0);
    }

    // ---- MOST

    /** "MOST with a PURSE (1 to 3000)" */
    private static void mostWithAPurse() {
        SlateRing x = Due.ring(1, 2);
        Due.slates(x, 0, 0, 5, 5);
        for (int wrong : new int[] {0, -1, 3001, Integer.MIN_VALUE, Integer.MAX_VALUE}) {
            Due.is("a purse of " + wrong, x.most(0, wrong, -1), -1);
            Due.is("a purse of " + wrong + ", on horse 0", x.most(0, wrong, 0), -1);
        }
        Due.is("1: not on both", x.most(0, 1, -1), 0);
        Due.is("1: nothing on 0", x.most(0, 1, 0), 0);
        Due.is("2", x.most(0, 2, -1), 9);
        Due.is("3000", x.most(0, 3000, -1), 13500);
        Due.is("2999", x.most(0, 2999, -1), 13491);
    }

    /** "STAKES on HORSES ..., together not above it" */
    private static void mostNotAboveThePurse() {
        SlateRing x = Due.ring(1, 3);
        Due.slates(x, 0, 0, 2, 4, 4);
        // 2, 1 and 1 have 6, 6 and 6 back
        Due.is("of 3", x.most(0, 3, -1), 0);
        Due.is("just 4", x.most(0, 4, -1), 2);
        Due.is("2 on 0", x.most(0, 4, 0), 2);
        Due.is("1 on 1", x.most(0, 4, 1), 1);
        Due.is("1 on 2", x.most(0, 4, 2), 1);
        Due.is("of 7", x.most(0, 7, -1), 2);
        Due.is("twice as much of 8", x.most(0, 8, -1), 4);
        SlateRing y = Due.ring(1, 3);
        Due.slates(y, 0, 0, 5, 5, 5);
        Due.is("fewer pence than horses", y.most(0, 2, -1), 0);
        Due.is("one on each", y.most(0, 3, -1), 8);
    }

    /** "this GAIN, if it is above 0" */
    private static void mostAbove0() {
        SlateRing x = Due.ring(1, 2);
        Due.slates(x, 0, 0, 1, 1);
        Due.is("just 0", x.most(0, 3000, -1), 0);
        Due.is("no stake on 0", x.most(0, 3000, 0), 0);
        Due.is("none on 1", x.most(0, 3000, 1), 0);
        Due.slates(x, 0, 0, 0, 0);
        Due.is("below 0", x.most(0, 3000, -1), 0);
        Due.slates(x, 0, 0, 5, -1);
        Due.is("one has no step", x.most(0, 3000, -1), 0);
        Due.is("no stake on the other", x.most(0, 3000, 0), 0);
        SlateRing y = Due.bare(1, 2);
        Due.ladder(y, 1, 1, 12, 11);
        Due.slates(y, 0, 0, 0, 1);
        // 12 on 0 have 24 back, 12 on 1 have 25; 23 and 22 have 46 and 46
        Due.is("sure, but for 44 not above 0", y.most(0, 44, -1), 0);
        Due.is("one penny of 45", y.most(0, 45, -1), 1);
        Due.is("23 on 0", y.most(0, 45, 0), 23);
        Due.is("22 on 1", y.most(0, 45, 1), 22);
    }

    /** "of like ones with the least STAKES together; each the least by which so much is had back" */
    private static void mostWithLeastStakes() {
        SlateRing x = Due.ring(1, 2);
        Due.slates(x, 0, 0, 1, 5);
        // 1 and 1 have 2 and 11 back: 0; 2 and 1: 4 and 11: 1; 5 and 1: 10: 4; 6 and 1: 12, 11: 4
        Due.is("of 6", x.most(0, 6, -1), 4);
        Due.is("of 7 no more", x.most(0, 7, -1), 4);
        Due.is("5 on 0", x.most(0, 7, 0), 5);
        Due.is("1 on 1", x.most(0, 7, 1), 1);
        SlateRing y = Due.ring(2, 3);
        Due.slates(y, 0, 0, 2, 5, 5);
        Due.slates(y, 1, 0, 5, 2, -1);
        Due.is("at the longest of each", y.most(0, 3, -1), 8);
        Due.is("1 on each", y.most(0, 3, 0), 1);
        y.scratch(0, 2);
        Due.is("0 if scratched", y.most(0, 3000, 2), 0);
        Due.is("half on 0", y.most(0, 3000, 0), 1500);
    }

    /** The greatest gains there are. */
    private static void mostGreatest() {
        SlateRing x = Due.bare(1, 2, 8);
        Due.ladder(x, 59, 1, 60, 1);
        Due.slates(x, 0, 0, 1, 1);
        Due.is("two at 60/1", x.most(0, 3000, -1), 88500);
        Due.is("1500 on 1", x.most(0, 3000, 1), 1500);
        for (int h = 0; h < 8; h++) {
            x.slate(0, 1, h, h == 0 ? 0 : 1);
        }
        // 381 at 59/1 have 22860 back, seven times 374 at 60/1 22814: 2999
        Due.is("eight, 375 or more on each", x.most(1, 3000, -1), 22814 - 2999);
        Due.is("on the last", x.most(1, 3000, 7), 374);
        Due.is("on the first", x.most(1, 3000, 0), 381);
    }

    // ---- LAY OFF

    /** Book 0 owes 1000 times so much on horse 0; book 1 has 1/1 for it. */
    private static SlateRing owing(int times) {
        SlateRing x = Due.ring(2, 2);
        Due.slates(x, 0, 0, 5, 5);
        Due.slates(x, 1, 0, 1, -1);
        x.bet(0, 0, 0, 0, 0, 100 * times);
        return x;
    }

    /** "a greatest STAKE (100 to 5000)" */
    private static void layOffGreatest() {
        SlateRing x = owing(10);
        for (int wrong : new int[] {99, 0, -1, -100, 5001, 5100, Integer.MIN_VALUE, Integer.MAX_VALUE}) {
            for (int what = 0; what < 4; what++) {
                Due.is("at most " + wrong + ", what " + what, x.layOff(0, 0, wrong, what), -1);
            }
        }
        Due.is("at most 100", x.layOff(0, 0, 100, 2), 100);
        Due.is("worst then", x.layOff(0, 0, 100, 3), -9900);
        Due.is("at most 5000", x.layOff(0, 0, 5000, 2), 5000);
        Due.is("worst then", x.layOff(0, 0, 5000, 3), -5000);
        Due.is("at most 4999", x.layOff(0, 0, 4999, 2), 4900);
    }

    /** "of a multiple of 100" */
    private static void layOffMultiples() {
        SlateRing x = owing(10);
        for (int most : new int[] {100, 101, 199, 200, 201, 299, 1000, 1099}) {
            Due.is("at most " + most, x.layOff(0, 0, most, 2), most / 100 * 100);
        }
        SlateRing y = Due.ring(2, 2);
        Due.slates(y, 0, 0, 1, 1);
        Due.slates(y, 1, 0, 1, 1);
        y.bet(0, 0, 0, 0, 0, 149);
        // -149 and 149: 100 makes -49 and 49, 200 would make 51 and -51
        Due.is("not 149", y.layOff(0, 0, 5000, 2), 100);
        Due.is("worst then", y.layOff(0, 0, 5000, 3), -49);
        y.bet(0, 0, 0, 0, 0, 2);
        Due.is("not 151", y.layOff(0, 0, 5000, 2), 200);
        Due.is("worst of 49 and -49", y.layOff(0, 0, 5000, 3), -49);
        y.bet(0, 0, 0, 0, 1, 1);
        // -150 and 150: 100 and 200 make the same
        Due.is("of like ones the least stake", y.layOff(0, 0, 5000, 2), 100);
        Due.is("worst then", y.layOff(0, 0, 5000, 3), -50);
    }

    /** "if that is more than without" */
    private static void layOffIfMore() {
        SlateRing x = Due.ring(2, 2);
        Due.slates(x, 0, 0, 1, 1);
        Due.slates(x, 1, 0, 1, 1);
        for (int what = 0; what < 4; what++) {
            Due.is("0 and 0: none, what " + what, x.layOff(0, 0, 5000, what), -2);
        }
        x.bet(0, 0, 0, 0, 0, 50);
        Due.is("-50 and 50: 100 makes 50 and -50", x.layOff(0, 0, 5000, 0), -2);
        x.bet(0, 0, 0, 0, 0, 1);
        Due.is("-51 and 51: 100 makes 49 and -49", x.layOff(0, 0, 5000, 3), -49);
    }

    /** "of like ones with the least STAKE, then the lowest BOOK, then HORSE" */
    private static void layOffAlike() {
        SlateRing x = Due.ring(4, 4);
        for (int b = 0; b < 4; b++) {
            Due.slates(x, b, 0, 3, 3, 3, 3);
        }
        for (int h = 0; h < 3; h++) {
            x.bet(0, 1, 0, 0, h, 50);
        }
        // -50, -50, -50, 150: none helps
        Due.is("three like ones", x.layOff(1, 0, 5000, 0), -2);
        x.bet(0, 1, 0, 0, 2, 50);
        // 0, 0, -200, 200: 100 on 2 makes -100, -100, 100
        Due.is("the lowest book", x.layOff(1, 0, 5000, 0), 0);
        Due.is("its horse", x.layOff(1, 0, 5000, 1), 2);
        Due.is("book 0 owes nothing", x.layOff(0, 0, 5000, 0), -2);
        SlateRing y = Due.bare(3, 2);
        Due.ladder(y, 1, 10, 1, 1, 3, 1);
        Due.slates(y, 0, 0, 1, 1);
        Due.slates(y, 1, 0, 1, -1);
        Due.slates(y, 2, 0, 2, -1);
        y.bet(0, 0, 0, 0, 0, 200);
        // -200 and 200: 100 at 3/1 makes 100 and 100, 200 at 1/1 0 and 0
        Due.is("a higher book by which it is more", y.layOff(0, 0, 5000, 0), 2);
        Due.is("100", y.layOff(0, 0, 5000, 2), 100);
        Due.is("100 then", y.layOff(0, 0, 5000, 3), 100);
        SlateRing z = Due.bare(2, 3);
        Due.ladder(z, 1, 10, 2, 1);
        Due.slates(z, 0, 0, 1, 1, 1);
        Due.slates(z, 1, 0, 1, 1, 1);
        z.bet(0, 0, 0, 0, 0, 200);
        z.bet(0, 0, 0, 0, 1, 150);
        // -250, -100, 350: 100 on 0 makes -50, -200; that is the most of one bet
        Due.is("horse 0", z.layOff(0, 0, 5000, 1), 0);
        Due.is("the next worst then", z.layOff(0, 0, 5000, 3), -200);
    }

    /** "with another BOOK (not OVER) at its SLATE" */
    private static void layOffWithAnother() {
        SlateRing x = Due.bare(3, 2, 2);
        Due.ladder(x, 1, 1, 9, 1);
        Due.slates(x, 0, 0, 0, 0);
        x.bet(0, 0, 0, 0, 0, 200);
        Due.slates(x, 0, 0, 1, 1);
        Due.is("no other has a step", x.layOff(0, 0, 5000, 0), -2);
        Due.slates(x, 1, 0, 1, 1);
        Due.slates(x, 1, 1, 1, 1);
        Due.slates(x, 2, 0, 0, 0);
        Due.is("the longest", x.layOff(0, 0, 5000, 0), 1);
        x.bet(0, 1, 0, 1, 0, 1);
        x.run(1, 1, 1);
        Due.is("it is over: the other", x.layOff(0, 0, 5000, 0), 2);
        Due.is("200", x.layOff(0, 0, 5000, 2), 200);
        x.slate(2, 0, 0, -1);
        Due.is("nothing stands with it", x.layOff(0, 0, 5000, 0), -2);
        SlateRing alone = Due.ring(1, 2);
        Due.slates(alone, 0, 0, 5, 5);
        alone.bet(0, 0, 0, 0, 0, 1000);
        Due.is("no other book", alone.layOff(0, 0, 5000, 0), -2);
    }

    // ---- PLAN

    /** "n BETS (1 to 4) to win of one STAKE each" */
    private static void planOneToFour() {
        SlateRing x = Due.ring(1, 2);
        Due.slates(x, 0, 0, 5, 5);
        Due.way(x, 0, "s1(1=1)");
        int[] won = {100, 150, 180, 200};
        for (int n = 1; n <= 4; n++) {
            Due.is(n + " bets", x.plan(0, 0, 0, 10, n, -1), won[n - 1]);
            for (int what = 0; what < n; what++) {
                Due.is("bet " + what + " of " + n, x.plan(0, 0, 0, 10, n, what), 0);
            }
            Due.is("bet " + n + " of " + n, x.plan(0, 0, 0, 10, n, n), -1);
        }
        for (int wrong : new int[] {0, -1, 5, Integer.MIN_VALUE, Integer.MAX_VALUE}) {
            Due.is(wrong + " bets", x.plan(0, 0, 0, 10, wrong, -1), -1);
            Due.is("the first of " + wrong + " bets", x.plan(0, 0, 0, 10, wrong, 0), -1);
        }
        Due.is("rounded down each", x.plan(0, 0, 0, 1, 4, -1), 10 + 5 + 3 + 2);
        Due.slates(x, 0, 0, 0, 5);
        Due.is("1 at 1/2, four times", x.plan(0, 0, 0, 1, 4, -1), 0);
        Due.is("with book 0 all the same", x.plan(0, 0, 0, 1, 4, 0), 0);
        SlateRing y = Due.bare(4, 2);
        Due.ladder(y, 60, 1);
        for (int b = 0; b < 4; b++) {
            Due.slates(y, b, 0, 0, 0);
        }
        Due.is("as much as can be", y.plan(15, 0, 1, 20000, 4, -1), 4800000);
    }

    /** "where nothing stands then none can be" */
    private static void planNothingStands() {
        SlateRing x = Due.ring(2, 2);
        for (int n = 1; n <= 4; n++) {
            Due.is("nothing at all: " + n, x.plan(0, 0, 0, 10, n, -1), -2);
            Due.is("nothing at all: " + n + ", the last", x.plan(0, 0, 0, 10, n, n - 1), -2);
        }
        Due.is("no books", Due.ring(0, 2).plan(0, 0, 0, 10, 1, -1), -2);
        Due.slates(x, 0, 0, 5, 5);
        Due.slates(x, 1, 0, 2, 5);
        Due.way(x, 0, "c(1=1)");
        Due.way(x, 1, "c(n=2)");
        Due.is("one", x.plan(0, 0, 0, 10, 1, -1), 100);
        Due.is("three", x.plan(0, 0, 0, 10, 3, -1), 140);
        Due.is("0, 1, 1", x.plan(0, 0, 0, 10, 3, 0) * 4 + x.plan(0, 0, 0, 10, 3, 1) * 2 + x.plan(0, 0, 0, 10, 3, 2), 3);
        Due.is("four can't be", x.plan(0, 0, 0, 10, 4, -1), -2);
        Due.is("the fourth", x.plan(0, 0, 0, 10, 4, 3), -2);
    }

    /** "of like ones the least row" */
    private static void planAlike() {
        SlateRing x = Due.ring(4, 2);
        for (int b = 0; b < 4; b++) {
            Due.slates(x, b, 0, b == 0 ? 2 : 3, 5);
        }
        Due.way(x, 1, "s1(1=1)");
        for (int what = 0; what < 4; what++) {
            Due.is("2 before 3: bet " + what, x.plan(0, 0, 0, 10, 4, what), new int[] {1, 2, 2, 2}[what]);
        }
        Due.is("30 each", x.plan(0, 0, 0, 10, 4, -1), 120);
        Due.way(x, 2, "c(1=1)");
        Due.way(x, 3, "c(1=1)");
        for (int what = 0; what < 4; what++) {
            Due.is("0 is the least of like ones: bet " + what, x.plan(0, 0, 0, 10, 4, what), new int[] {0, 1, 2, 3}[what]);
        }
    }

    /** "(as if done; PURSES aside)" */
    private static void planPursesAside() {
        SlateRing x = Due.bare(1, 2);
        Due.ladder(x, 60, 1);
        Due.slates(x, 0, 0, 0, 0);
        Due.is("an empty purse", x.plan(0, 0, 0, 20000, 4, -1), 4800000);
        Due.is("is empty still", x.bookIs(0, 0), 0);
        Due.is("no bets", x.bookIs(0, 2), 0);
        SlateRing y = Due.bare(2, 2, 2);
        Due.ladder(y, 1, 1, 9, 1);
        Due.slates(y, 0, 0, 1, 1);
        Due.slates(y, 0, 1, 1, 1);
        Due.slates(y, 1, 1, 0, 0);
        y.bet(0, 0, 0, 0, 0, 1);
        Due.is("before it is over", y.plan(0, 1, 0, 10, 1, -1), 90);
        y.run(0, 1, 1);
        Due.is("over: the other", y.plan(0, 1, 0, 10, 1, 0), 1);
        Due.is("over: 10", y.plan(0, 1, 0, 10, 1, -1), 10);
        y.slate(1, 1, 0, -1);
        Due.is("over: none", y.plan(0, 1, 0, 10, 1, -1), -2);
    }

    /** What is only planned moves nothing, also where a way moves other horses. */
    private static void planMovesNothing() {
        SlateRing x = Due.ring(1, 8, 2);
        for (int h = 0; h < 8; h++) {
            x.slate(0, 0, h, h % 5);
        }
        x.slate(0, 0, 6, -1);
        Due.slates(x, 0, 1, 3, 3);
        x.bet(1, 0, 0, 0, 4, 77);
        Due.way(x, 0, "s1(n<3);l1(t>100);c(n>3)");
        Due.is("10, 10, 10: the way asks", x.plan(0, 0, 3, 10, 3, -1), 30 + 20 + 10);
        Due.is("four", x.plan(0, 0, 3, 10, 4, -1), 30 + 20 + 10 + 10);
        for (int h = 0; h < 8; h++) {
            Due.is("slate of " + h, x.step(0, 0, h), h == 6 ? -1 : h % 5);
            Due.is("balance at " + h, x.balance(0, 0, h), h == 4 ? -385 : 77);
        }
        x.bet(0, 0, 0, 0, 3, 10);
        Due.is("n is 1", x.step(0, 0, 3), 2);
    }

    /** With 80 bets a plan is still made "as if done". */
    private static void planOfFullRing() {
        SlateRing x = Due.ring(1, 2);
        Due.slates(x, 0, 0, 5, 5);
        for (int i = 0; i < 80; i++) {
            x.bet(0, 0, 1, 0, 0, 1);
        }
        Due.is("none can come", x.bet(0, 0, 0, 0, 0, 1), -1);
        Due.is("planned all the same", x.plan(0, 0, 0, 10, 4, -1), 400);
    }

    // ---- TOGETHER, ONE PURSE, KNEW

    /** "of at least n HORSES (1 to 24; of all RACES)" */
    private static void togetherHorses() {
        SlateRing x = Due.ring(2, 8, 8, 8);
        for (int i = 0; i < 24; i++) {
            x.slate(i % 2, i / 8, i % 8, 1);
            Due.is("before horse " + i, x.together(3, 4, i + 1, 599), 0);
            x.bet(3, i % 2, 0, i / 8, i % 8, 1);
            x.bet(3, i % 2, 0, i / 8, i % 8, 1);
            Due.is("horse " + i + " of one alone", x.together(3, 4, i + 1, 599), 0);
            x.bet(4, i % 2, 2, i / 8, i % 8, 1);
            Due.is("horse " + i, x.together(4, 3, i + 1, 0), 1);
        }
        for (int wrong : new int[] {0, -1, 25, Integer.MIN_VALUE, Integer.MAX_VALUE}) {
            Due.is(wrong + " horses", x.together(3, 4, wrong, 599), -1);
            Due.is(wrong + " horses, one purse", x.purse(3, wrong, 599), -1);
        }
        Due.is("24", x.together(3, 4, 24, 0), 1);
        Due.is("one purse by 24", x.purse(3, 24, 0), 24);
    }

    /** "the one not more than d SECONDS (0 to 599) from the other" */
    private static void togetherSeconds() {
        SlateRing x = Due.ring(1, 2, 2);
        Due.slates(x, 0, 0, 1, 1);
        Due.slates(x, 0, 1, 1, 1);
        x.bet(1, 0, 0, 0, 0, 1);
        x.now(10);
        x.bet(2, 0, 0, 0, 0, 1);
        x.bet(2, 0, 0, 1, 0, 1);
        x.now(17);
        x.bet(1, 0, 0, 0, 0, 1);
        x.bet(1, 0, 0, 1, 1, 1);
        Due.is("the nearest two are 7 apart", x.together(1, 2, 1, 7), 1);
        Due.is("not 6", x.together(1, 2, 1, 6), 0);
        Due.is("that is one horse", x.together(1, 2, 2, 599), 0);
        x.now(599);
        x.bet(3, 0, 0, 0, 0, 1);
        Due.is("599 from the first", x.together(1, 3, 1, 582), 1);
        Due.is("not 581", x.together(1, 3, 1, 581), 0);
        Due.is("589 from 10", x.together(3, 2, 1, 589), 1);
        Due.is("not 588", x.together(3, 2, 1, 588), 0);
        for (int wrong : new int[] {-1, 600, Integer.MIN_VALUE, Integer.MAX_VALUE}) {
            Due.is(wrong + " seconds", x.together(1, 2, 1, wrong), -1);
            Due.is(wrong + " seconds, one purse", x.purse(1, 1, wrong), -1);
        }
    }

    /** "each has a BET (KINDS 0, 2)" */
    private static void togetherKinds() {
        for (int mine = 0; mine < 4; mine++) {
            for (int other = 0; other < 4; other++) {
                SlateRing x = Due.ring(2, 2, 2);
                for (int i = 0; i < 2; i++) {
                    Due.slates(x, i, 0, 1, 1);
                    Due.slates(x, i, 1, 1, 1);
                    int kind = i == 0 ? mine : other;
                    if (kind == 3) {
                        x.joined(i, i, 0, 0, -1, 1);
                    } else {
                        x.bet(i, i, kind, 0, 0, 1);
                    }
                }
                Due.is("kinds " + mine + " and " + other, x.together(0, 1, 1, 0), mine % 2 == 0 && other % 2 == 0 ? 1 : 0);
            }
        }
    }

    /** "ONE PURSE: who hangs together so, and so on." */
    private static void hangsTogether() {
        SlateRing x = Due.ring(1, 8, 8, 8);
        for (int i = 0; i < 24; i++) {
            x.slate(0, i / 8, i % 8, 1);
        }
        for (int y = 0; y < 16; y++) {
            Due.is("alone: " + y, x.purse(y, 1, 599), 1 << y);
        }
        for (int i = 0; i < 15; i++) {
            x.bet(i, 0, 0, i / 8, i % 8, 1);
            x.bet(i + 1, 0, 0, i / 8, i % 8, 1);
            Due.is("from 0 to " + (i + 1), x.purse(0, 1, 0), (1 << i + 2) - 1);
            Due.is("from its end", x.purse(i + 1, 1, 0), (1 << i + 2) - 1);
            Due.is("0 and its end", x.together(0, i + 1, 1, 0), i == 0 ? 1 : 0);
        }
        Due.is("all", x.purse(7, 1, 599), 65535);
        Due.is("by two horses none", x.purse(7, 2, 599), 1 << 7);
    }

    /** "of BETS to win (KINDS 0, 2) of a BETTOR in RACES that were RUN, the HORSE not SCRATCHED" */
    private static void knewOfRacesRun() {
        SlateRing x = Due.ring(1, 4, 4);
        Due.slates(x, 0, 0, 5, 5, 5, 5);
        Due.slates(x, 0, 1, 5, 5, 5, 5);
        for (int kind = 0; kind < 3; kind++) {
            x.bet(15, 0, kind, 0, 0, 1);
            x.bet(15, 0, kind, 0, 3, 1);
            x.bet(15, 0, kind, 1, 0, 1);
        }
        x.joined(15, 0, 0, 0, -1, 1);
        x.scratch(0, 3);
        Due.slates(x, 0, 0, 4, 4, 4);
        Due.slates(x, 0, 1, 4, 4, 4, 4);
        Due.is("none is run", x.knew(15, 0), 0);
        Due.is("none is run: less", x.knew(15, 1), 0);
        x.run(0, 1, 1);
        Due.is("kinds 0 and 2", x.knew(15, 0), 2);
        Due.is("both of them", x.knew(15, 1), 2);
        x.run(1, 2, 2);
        Due.is("of the other race, too", x.knew(15, 0), 4);
        Due.is("all of them", x.knew(15, 1), 4);
        Due.is("no one else's", x.knew(0, 0), 0);
    }

    /** "the STEP was more than that which stood on the BOOK's SLATE last (when the RACE was RUN; nothing: not)" */
    private static void knewMore() {
        int[] last = {-1, 0, 1, 2, 3};
        for (int l : last) {
            SlateRing x = Due.ring(2, 2);
            Due.slates(x, 0, 0, 1, 1);
            Due.slates(x, 1, 0, 0, 0);
            x.bet(0, 0, 0, 0, 0, 1);
            x.slate(0, 0, 0, l);
            x.run(0, 1, 1);
            Due.is("step 1, last " + l + ": one", x.knew(0, 0), 1);
            Due.is("step 1, last " + l, x.knew(0, 1), l == 0 ? 1 : 0);
        }
        SlateRing y = Due.ring(2, 2);
        Due.slates(y, 0, 0, 1, 1);
        Due.slates(y, 1, 0, 5, 5);
        y.bet(0, 0, 0, 0, 0, 1);
        Due.way(y, 0, "s1(1=1)");
        y.bet(1, 0, 1, 0, 0, 1);
        y.run(0, 2, 2);
        Due.is("a later bet's way moved it", y.knew(0, 1), 1);
        Due.no("the slate can't be moved any more", y.slate(0, 0, 0, 5));
        Due.is("so it stays", y.knew(0, 1), 1);
    }

    // ---- CHANCE, CHECK

    /** "over all BOOKS on whose SLATE each HORSE of the RACE that is not SCRATCHED has a STEP" */
    private static void chanceOfFullSlates() {
        SlateRing x = Due.ring(2, 3);
        for (int what = 0; what < 4; what++) {
            Due.is("no such book, what " + what, x.chance(0, 0, what), -2);
        }
        Due.is("no books", Due.ring(0, 3).chance(0, 0, 0), -2);
        Due.slates(x, 0, 0, 1, 1, -1);
        Due.slates(x, 1, 0, -1, 1, 1);
        Due.is("each lacks one", x.chance(0, 1, 0), -2);
        x.scratch(0, 2);
        Due.is("book 0 lacks none now", x.chance(0, 1, 0), 1);
        Due.is("through 2", x.chance(0, 1, 1), 2);
        Due.is("for its first, too", x.chance(0, 0, 3), 2);
        SlateRing y = Due.bare(1, 2, 2);
        Due.ladder(y, 1, 1, 2, 1);
        Due.slates(y, 0, 0, 0, 0);
        Due.slates(y, 0, 1, 0, 1);
        y.bet(0, 0, 0, 0, 0, 1);
        y.run(0, 1, 1);
        Due.is("all books: over, too", y.chance(1, 0, 0), 3);
        Due.is("through 5", y.chance(1, 0, 1), 5);
        Due.is("of the race that was run", y.chance(0, 0, 1), 2);
    }

    /** "the least, the greatest, as fractions without a common divisor" */
    private static void chanceLeastAndGreatest() {
        SlateRing x = Due.bare(4, 2);
        Due.ladder(x, 2, 4, 2, 2, 30, 10);
        Due.slates(x, 0, 0, 1, 1);
        Due.slates(x, 1, 0, 0, 2);
        Due.slates(x, 2, 0, 2, 0);
        Due.slates(x, 3, 0, 2, 2);
        // 1/2; 2/3 through 11/12; 1/4 through 11/12; 1/2
        Due.is("least", x.chance(0, 0, 0), 3);
        Due.is("through", x.chance(0, 0, 1), 11);
        Due.is("greatest", x.chance(0, 0, 2), 8);
        Due.is("through", x.chance(0, 0, 3), 11);
        Due.is("of the other: least", x.chance(0, 1, 0), 3);
        Due.is("of the other: greatest", x.chance(0, 1, 2), 8);
        SlateRing y = Due.ring(2, 2);
        Due.slates(y, 0, 0, 3, 3);
        Due.slates(y, 1, 0, 5, 5);
        for (int what = 0; what < 4; what++) {
            Due.is("like ones, what " + what, y.chance(0, 0, what), 1 + what % 2);
        }
        SlateRing z = Due.bare(2, 8);
        Due.ladder(z, 55, 12, 59, 12, 57, 11, 60, 11, 59, 10, 60, 7, 58, 1, 60, 1);
        for (int h = 0; h < 8; h++) {
            z.slate(0, 0, h, h);
            z.slate(1, 0, h, h == 7 ? 6 : h);
        }
        java.math.BigInteger[] all = {java.math.BigInteger.valueOf(z.round(0, 0, 0)), java.math.BigInteger.valueOf(z.round(0, 0, 1))};
        // 12/67 through above/below
        java.math.BigInteger above = all[1].multiply(java.math.BigInteger.valueOf(12));
        java.math.BigInteger below = all[0].multiply(java.math.BigInteger.valueOf(67));
        java.math.BigInteger common = above.gcd(below);
        Due.is("eight long ones: the greatest", z.chance(0, 0, 2), above.divide(common).longValueExact());
        Due.is("through", z.chance(0, 0, 3), below.divide(common).longValueExact());
    }

    /** Each two slates of two horses, in both orders. */
    private static void chancesOfTwo() {
        int[] a = {1, 1, 2, 3, 5, 10};
        int[] b = {2, 1, 1, 1, 1, 1};
        for (int i = 0; i < 1296; i++) {
            int[] s = {i % 6, i / 6 % 6, i / 36 % 6, i / 216};
            SlateRing x = Due.ring(2, 2);
            Due.slates(x, 0, 0, s[0], s[1]);
            Due.slates(x, 1, 0, s[2], s[3]);
            int[] above = new int[2];
            int[] below = new int[2];
            for (int k = 0; k < 2; k++) {
                int p = 2 * k;
                above[k] = b[s[p]] * (a[s[p + 1]] + b[s[p + 1]]);
                below[k] = above[k] + b[s[p + 1]] * (a[s[p]] + b[s[p]]);
            }
            boolean firstIsLess = above[0] * below[1] <= above[1] * below[0];
            String slates = java.util.Arrays.toString(s);
            for (int what = 0; what < 4; what++) {
                int k = firstIsLess == (what < 2) ? 0 : 1;
                int common = java.math.BigInteger.valueOf(above[k]).gcd(java.math.BigInteger.valueOf(below[k])).intValue();
                Due.is("slates " + slates + ", what " + what, x.chance(0, 0, what), (what % 2 == 0 ? above[k] : below[k]) / common);
            }
        }
    }

    /** "twos of numbers: a BET of its own that is DECIDED, what it HAS BACK: all, by numbers: right, or the first number that is not so" */
    private static void checkAll() {
        SlateRing x = Due.ring(2, 2, 2);
        for (int b = 0; b < 2; b++) {
            Due.slates(x, b, 0, 1, 1);
            Due.slates(x, b, 1, 1, 1);
        }
        Due.is("none is decided: nothing is right", x.check(0, 0), -1);
        Due.is("one too many", Due.check(x, 0, 0, 0), 0);
        x.bet(0, 0, 0, 1, 0, 10);
        x.bet(0, 0, 0, 0, 0, 10);
        x.bet(0, 1, 0, 0, 0, 10);
        x.joined(0, 0, 0, 0, -1, 10);
        x.bet(0, 0, 0, 0, 1, 10);
        Due.is("none is decided yet", x.check(0, 0), -1);
        Due.is("one that isn't decided", Due.check(x, 0, 0, 20), 0);
        x.run(0, 1, 1);
        Due.is("right", Due.check(x, 0, 1, 20, 4, 0), -1);
        Due.is("of the other book", Due.check(x, 1, 2, 20), -1);
        Due.is("the first number", Due.check(x, 0, 0, 20, 4, 0), 0);
        Due.is("the second", Due.check(x, 0, 1, 21, 4, 0), 1);
        Due.is("the third", Due.check(x, 0, 1, 20, 3, 0), 2);
        Due.is("the last", Due.check(x, 0, 1, 20, 4, 1), 3);
        Due.is("the first of two that are not so", Due.check(x, 0, 1, 19, 4, 1), 1);
        Due.is("not by numbers", Due.check(x, 0, 4, 0, 1, 20), 0);
        Due.is("the other book's among them", Due.check(x, 0, 1, 20, 2, 20, 4, 0), 2);
        Due.is("one too many at the end", Due.check(x, 0, 1, 20, 4, 0, 5, 0), 4);
        Due.is("-1 at the end", Due.check(x, 0, 1, 20, 4, 0, -1, 0), 4);
        Due.is("some are lacking", Due.check(x, 0, 1, 20), 2);
        Due.is("all are lacking", x.check(0, 0), 0);
        x.run(1, 1, 1);
        Due.is("all four", Due.check(x, 0, 0, 20, 1, 20, 3, 40, 4, 0), -1);
        SlateRing y = Due.ring(1, 2);
        Due.slates(y, 0, 0, 1, 1);
        for (int i = 0; i < 26; i++) {
            y.bet(0, 0, 0, 0, 0, 1);
        }
        y.run(0, 1, 1);
        int[] all = new int[50];
        for (int i = 0; i < 25; i++) {
            all[2 * i] = i;
            all[2 * i + 1] = 2;
        }
        Due.is("a full tape: 25 are right, one is lacking", Due.check(y, 0, all), 50);
        all[49] = 3;
        Due.is("a full tape: the last is not so", Due.check(y, 0, all), 49);
    }
}
