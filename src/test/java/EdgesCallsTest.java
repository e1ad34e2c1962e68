/** The promises by their numbers: each sentence that names an end and isn't a term's has a test of its own. */
public final class EdgesCallsTest {
    private EdgesCallsTest() {
    }

    public static void main(String[] args) {
        newObject();
        newObjectsAreApart();
        nowIsPast();
        nowTellsNothingElse();
        bytesHighestFirst();
        ladderOfBytes();
        howManyClauses();
        placesOfFaults();
        whatStands();
        numbersOfBets();
        scratchTwoAreLeft();
        decidedByIt();
        balanceOfNone();
        hasBackNotDecided();
        deductionAsItIsNow();
        bookIsNow();
        sureNow();
        stoodNone();
        mostOnEach();
        layOffEach();
        planEach();
        togetherTwice();
        purseWithIt();
        knewNone();
        chanceOfNone();
        checkNothing();
        countEach();
        Due.end();
    }

    /** Promise 1: "SECOND 0; no RACES, BOOKS; no LADDER." */
    private static void newObject() {
        Due.is("NONE", SlateRing.NONE, -1);
        SlateRing x = new SlateRing();
        for (int what = -1; what <= 40; what++) {
            Due.is("count " + what, x.count(what), what >= 0 && what <= 5 ? 0 : -1);
        }
        for (int i = 0; i < 3; i++) {
            Due.no("slate, race " + i, x.slate(0, i, 0, -1));
            Due.is("step, race " + i, x.step(0, i, 0), -1);
            Due.is("bet, race " + i, x.bet(0, 0, 0, i, 0, 1), -1);
            Due.no("scratch, race " + i, x.scratch(i, 0));
            Due.is("run, race " + i, x.run(i, 1, 1), -1);
            Due.is("balance, race " + i, x.balance(0, i, -1), -1000000000);
            Due.is("round, race " + i, x.round(0, i, 1), -1);
            Due.is("sure, race " + i, x.sure(i), -1);
            Due.is("stood, race " + i, x.stood(i, 0), -1);
            Due.is("most, race " + i, x.most(i, 1, -1), -1);
            Due.is("layOff, race " + i, x.layOff(0, i, 100, 0), -1);
            Due.is("plan, race " + i, x.plan(0, i, 0, 1, 1, -1), -1);
            Due.is("chance, race " + i, x.chance(i, 0, 0), -1);
        }
        Due.is("joined", x.joined(0, 0, 0, 0, 0, 1), -1);
        Due.is("way", x.way(0, 1), -1);
        Due.no("ladder", x.ladder(1));
        Due.is("has", x.has(0, 0), -1);
        Due.is("deduction", x.deduction(0), -1);
        Due.is("bookIs", x.bookIs(0, 0), -1);
        Due.is("together: none has a bet", x.together(0, 15, 1, 599), 0);
        Due.is("purse: who has no bet is alone", x.purse(15, 1, 599), 1 << 15);
        Due.is("knew: none", x.knew(0, 0), 0);
        Due.is("knew: none, nor more", x.knew(15, 1), 0);
        Due.is("check", x.check(0, 0), -2);
        Due.is("the first race", x.race(2), 0);
        Due.is("the first book", x.book(0), 0);
        Due.is("feed", x.feed(0, 0, 0, 0, 0), 20);
    }

    /** What one object is told another doesn't hear of. */
    private static void newObjectsAreApart() {
        SlateRing x = Due.ring(4, 8, 8, 8);
        x.now(5);
        SlateRing y = new SlateRing();
        for (int what = 0; what <= 5; what++) {
            Due.is("count " + what, y.count(what), 0);
        }
        Due.is("its own race", y.race(3), 0);
        Due.is("the other's stays", x.count(10), 255);
        Due.is("its own tape", y.feed(0, 0, 0, 0, 0), 20);
        Due.is("the other's is empty", x.count(5), 0);
    }

    /** Promise 2: "false: no such one, it is past." */
    private static void nowIsPast() {
        SlateRing x = new SlateRing();
        for (int s : new int[] {1, 300, 598, 599}) {
            Due.yes("to " + s, x.now(s));
            Due.yes("it is not past: " + s, x.now(s));
            Due.no("it is past: " + (s - 1), x.now(s - 1));
            Due.no("past: 0", x.now(0));
            Due.is("NOW", x.count(0), s);
        }
    }

    private static void nowTellsNothingElse() {
        SlateRing x = Due.ring(1, 2);
        Due.slates(x, 0, 0, 5, 5);
        Due.way(x, 0, "s1(m=599)");
        x.now(598);
        Due.is("no way goes by time", x.step(0, 0, 0), 5);
        x.bet(0, 0, 0, 0, 0, 1);
        Due.is("second 598", x.step(0, 0, 0), 5);
        x.now(599);
        x.bet(0, 0, 0, 0, 0, 1);
        Due.is("second 599", x.step(0, 0, 0), 4);
    }

    /** Promise 5: "Twenty bytes come behind the tape, the highest of each int first" */
    private static void bytesHighestFirst() {
        SlateRing x = Due.bare(1, 2);
        Due.ladder(x, 60, 1);
        Due.slates(x, 0, 0, 0, 0);
        x.bet(0, 0, 0, 0, 0, 20000);
        x.run(0, 1, 1);
        // 1220000 is 0x00129DA0
        x.feed(0, 0x00129DA0, 0, 0, 0);
        Due.is("an int comes as it is", x.check(0, 1), -1);
        x.feed(0, 0xA09D1200, 0, 0, 0);
        Due.is("not turned round", x.check(0, 1), 1);
        SlateRing y = new SlateRing();
        y.feed(0x01020101, 0x02010301, 0x04010501, 0x06010701, 0x08010901);
        y.feed(0x0A010B01, 0x0C01FFFF, -1, -1, -1);
        Due.is("two feeds", y.count(5), 40);
        Due.yes("13 prices, one behind the other", y.ladder(13));
        SlateRing z = new SlateRing();
        z.feed(0xFF010101, 0, 0, 0, 0);
        Due.no("a byte is 0 to 255: 255/1", z.ladder(1));
        for (int i = 0; i < 5; i++) {
            int[] w = new int[5];
            w[i] = 'x' << 24;
            SlateRing v = Due.ring(1, 2);
            v.feed(w[0], w[1], w[2], w[3], w[4]);
            Due.is("the first byte of int " + i, v.way(0, 20), -1000);
            SlateRing u = Due.ring(1, 2);
            int[] spaces = {0x633D3D3D, 0, 0, 0, 0};
            u.feed(spaces[0], w[0], w[1], w[2], w[3]);
            Due.is("c, then what can't stand", u.way(0, 4), -1001);
        }
    }

    /** Promise 6: "n PRICES (1 to 24; two bytes each, a and b; empty then)" */
    private static void ladderOfBytes() {
        SlateRing x = Due.bare(1, 2);
        Due.feed(x, 7, 2, 9, 2, 1, 1);
        Due.yes("a, then b", x.ladder(2));
        Due.slates(x, 0, 0, 0, 1);
        x.bet(0, 0, 0, 0, 0, 100);
        Due.is("7/2", x.balance(0, 0, 0), -350);
        Due.is("empty then", x.count(5), 0);
        SlateRing y = new SlateRing();
        Due.feed(y, 1, 1, 2, 1, 3, 1, 4, 1, 5, 1, 6, 1, 7, 1, 8, 1, 9, 1, 10, 1);
        Due.no("11 of 20 bytes", y.ladder(11));
        Due.is("the tape stays", y.count(5), 20);
        Due.yes("just as many as there are", y.ladder(10));
    }

    /** Promise 7: "how many CLAUSES" */
    private static void howManyClauses() {
        SlateRing x = Due.ring(4, 2);
        for (int b = 0; b < 4; b++) {
            Due.is("way of book " + b, Due.way(x, b, "c(1=2)" + ";c(1=2)".repeat(b)), b + 1);
        }
        for (int b = 0; b < 4; b++) {
            Due.is("clauses of book " + b, x.count(30 + b), b + 1);
        }
        Due.is("no book 4", Due.way(x, 4, "c(1=2)"), -1);
    }

    /** "a FAULT: -1000 times its number, less its place (the TEXT before stays)" */
    private static void placesOfFaults() {
        StringBuilder s = new StringBuilder("c(1=1");
        for (int place = 5; place < 160; place++) {
            if (s.length() % 2 == 1) {
                Due.is("at " + place, Due.way(Due.ring(1, 2), 0, s + "x"), -1000 - place);
                s.append('+');
            } else {
                Due.is("at " + place, Due.way(Due.ring(1, 2), 0, s + "x"), -1000 - place);
                s.append('h');
            }
        }
        Due.is("at the end, behind 160", Due.way(Due.ring(1, 2), 0, s.toString()), -1160);
        Due.is("at the head", Due.way(Due.ring(1, 2), 0, "x"), -1000);
        SlateRing x = Due.ring(1, 2);
        Due.slates(x, 0, 0, 5, 5);
        Due.way(x, 0, "s2(1=1)");
        for (String wrong : new String[] {"x", "s0(1=1)", "s1(1234567=1)", "s1(1=1)s1(1=1)", "s1(((((((1=1", "s1(1=1);".repeat(12) + "s"}) {
            Due.yes("a fault: " + wrong, Due.way(x, 0, wrong) <= -1000);
        }
        Due.is("the text before stays", x.count(30), 1);
        x.bet(0, 0, 0, 0, 0, 1);
        Due.is("and moves", x.step(0, 0, 0), 3);
    }

    /** Promises 8, 9: "a STEP (NONE: nothing) for a HORSE", "What stands there; NONE: nothing, no such ones." */
    private static void whatStands() {
        SlateRing x = Due.ring(1, 2, 2);
        Due.yes("the same again", x.slate(0, 0, 0, 3) && x.slate(0, 0, 0, 3));
        Due.is("it stands", x.step(0, 0, 0), 3);
        Due.is("not in the other race", x.step(0, 1, 0), -1);
        Due.is("not for the other horse", x.step(0, 0, 1), -1);
        x.run(0, 1, 1);
        Due.no("run", x.slate(0, 0, 0, 2));
        Due.is("it stands on", x.step(0, 0, 0), 3);
        Due.yes("not run", x.slate(0, 1, 0, 2));
    }

    /** Promises 10, 11: "its number" */
    private static void numbersOfBets() {
        SlateRing x = Due.ring(2, 2, 2);
        for (int b = 0; b < 2; b++) {
            Due.slates(x, b, 0, 1, 1);
            Due.slates(x, b, 1, 1, 1);
        }
        Due.is("the first", x.bet(0, 1, 0, 0, 0, 1), 0);
        Due.is("one that can't be uses up none", x.bet(0, 1, 0, 0, 0, 0), -1);
        Due.is("the second, joined", x.joined(0, 0, 0, 0, -1, 1), 1);
        Due.is("one joined that can't be", x.joined(0, 0, 0, -1, -1, 1), -1);
        Due.is("the third", x.bet(0, 0, 2, 1, 1, 1), 2);
        Due.is("book 0", x.bookIs(0, 2), 2);
        Due.is("book 1", x.bookIs(1, 2), 1);
    }

    /** Promise 12: "fewer than two would be left" */
    private static void scratchTwoAreLeft() {
        for (int horses = 2; horses <= 8; horses++) {
            SlateRing x = Due.ring(1, horses);
            for (int i = 0; i < horses; i++) {
                boolean may = i < horses - 2;
                Due.is("of " + horses + " one more than " + i, x.scratch(0, horses - 1 - i) ? 1 : 0, may ? 1 : 0);
            }
            Due.is("two are left of " + horses, x.count(10), 3);
        }
    }

    /** Promise 13: "how many BETS are DECIDED by it" */
    private static void decidedByIt() {
        SlateRing x = Due.ring(2, 2, 2, 2);
        for (int b = 0; b < 2; b++) {
            for (int r = 0; r < 3; r++) {
                Due.slates(x, b, r, 1, 1);
            }
        }
        for (int i = 0; i < 80; i++) {
            if (i % 4 == 3) {
                x.joined(0, i % 2, i % 8 == 3 ? 0 : -1, 0, i % 8 == 3 ? -1 : 0, 1);
            } else {
                x.bet(0, i % 2, i % 4, 1, i % 3 % 2, 1);
            }
        }
        Due.is("race 0: none yet", x.run(0, 1, 1), 0);
        Due.is("race 1: 60 and 10 joined with race 0", x.run(1, 1, 1), 70);
        Due.is("race 2: 10 joined with race 1", x.run(2, 1, 1), 10);
        Due.is("none is run twice", x.run(1, 1, 1), -1);
    }

    /** Promise 14: "(horse NONE: WORST); -1000000000: no such ones." */
    private static void balanceOfNone() {
        SlateRing x = Due.ring(1, 2);
        Due.is("worst of nothing", x.balance(0, 0, -1), 0);
        Due.is("horse -2", x.balance(0, 0, -2), -1000000000);
        Due.is("horse 2 of two", x.balance(0, 0, 2), -1000000000);
        Due.is("worst with no such book", x.balance(1, 0, -1), -1000000000);
        Due.is("worst with no such race", x.balance(0, 1, -1), -1000000000);
        Due.slates(x, 0, 0, 5, 5);
        x.bet(0, 0, 0, 0, 1, 10);
        x.run(0, 2, 2);
        Due.is("when it is run, too", x.balance(0, 0, -1), -100);
    }

    /** Promise 16: "-2: it is not DECIDED; NONE: no such ones." */
    private static void hasBackNotDecided() {
        SlateRing x = Due.ring(1, 2);
        Due.slates(x, 0, 0, 1, 1);
        x.bet(0, 0, 0, 0, 0, 10);
        Due.is("what 0", x.has(0, 0), -2);
        Due.is("what 1", x.has(0, 1), -2);
        Due.is("what 2", x.has(0, 2), -1);
        Due.is("bet 1", x.has(1, 0), -1);
        Due.is("bet -1", x.has(-1, 0), -1);
        x.run(0, 1, 1);
        Due.is("decided: what 0", x.has(0, 0), 20);
        Due.is("decided: what 1", x.has(0, 1), 1);
        Due.is("decided: what 2", x.has(0, 2), -1);
    }

    /** Promise 17: "as it is now (KINDS 0 to 2), in the hundred; NONE: no such one, JOINED." */
    private static void deductionAsItIsNow() {
        SlateRing x = Due.ring(1, 4, 2);
        Due.slates(x, 0, 0, 1, 2, 2, 2);
        Due.slates(x, 0, 1, 1, 1);
        x.joined(0, 0, 0, 0, -1, 10);
        for (int kind = 0; kind < 3; kind++) {
            x.bet(0, 0, kind, 0, 0, 10);
        }
        x.scratch(0, 1);
        Due.is("joined", x.deduction(0), -1);
        for (int kind = 0; kind < 3; kind++) {
            Due.is("kind " + kind, x.deduction(1 + kind), 30);
        }
        Due.is("bet 4", x.deduction(4), -1);
        x.scratch(0, 2);
        Due.is("now", x.deduction(1), 60);
        x.run(0, 1, 1);
        Due.is("10 and 4 of 10", x.has(1, 0), 14);
        x.run(1, 1, 1);
        Due.is("joined ones are not lessened", x.has(0, 0), 40);
    }

    /** Promise 18: "what 0 its PURSE, 1 whether OVER THE WALL (1, 0), 2 its BETS. NONE for others." */
    private static void bookIsNow() {
        SlateRing x = Due.ring(1, 2);
        Due.is("purse", x.bookIs(0, 0), 100000);
        Due.is("over", x.bookIs(0, 1), 0);
        Due.is("bets", x.bookIs(0, 2), 0);
        Due.is("what 3", x.bookIs(0, 3), -1);
        Due.is("what -1", x.bookIs(0, -1), -1);
        Due.is("book 1", x.bookIs(1, 0), -1);
        Due.is("book 1, bets", x.bookIs(1, 2), -1);
    }

    /** Promise 19: "Whether a RACE is SURE now: 1, 0; NONE: no such one." */
    private static void sureNow() {
        SlateRing x = Due.ring(1, 2);
        Due.is("nothing stands", x.sure(0), 0);
        Due.slates(x, 0, 0, 2, 2);
        Due.is("1/3 and 1/3", x.sure(0), 1);
        Due.is("no race 1", x.sure(1), -1);
        Due.is("no race -1", x.sure(-1), -1);
        Due.is("no books", Due.ring(0, 2).sure(0), 0);
    }

    /** Promise 20: "NONE: no such ones, (1, 2) none." */
    private static void stoodNone() {
        SlateRing x = Due.ring(1, 2);
        int[] none = {0, -1, -1, 0};
        for (int what = 0; what < 4; what++) {
            Due.is("none yet: what " + what, x.stood(0, what), none[what]);
            Due.is("no race 1: what " + what, x.stood(1, what), -1);
        }
        Due.slates(x, 0, 0, 5, 5);
        x.now(1);
        int[] one = {1, 0, 0, 1};
        for (int what = 0; what < 4; what++) {
            Due.is("second 0: what " + what, x.stood(0, what), one[what]);
        }
        Due.is("what 4", x.stood(0, 4), -1);
        Due.is("what -1", x.stood(0, -1), -1);
    }

    /** Promise 21: "what NONE the GAIN (0: none), else the STAKE on HORSE what (0 if SCRATCHED, or there is no GAIN)" */
    private static void mostOnEach() {
        SlateRing x = Due.ring(1, 4);
        Due.slates(x, 0, 0, 5, 5, 5, 5);
        x.scratch(0, 1);
        int[] due = {20, 0, 20, 20};
        Due.is("60 pence: 220 less 60", x.most(0, 60, -1), 160);
        for (int h = 0; h < 4; h++) {
            Due.is("on " + h, x.most(0, 60, h), due[h]);
            Due.is("no gain: on " + h, x.most(0, 2, h), 0);
        }
        Due.is("horse 4", x.most(0, 60, 4), -1);
        Due.is("horse 4, no gain", x.most(0, 2, 4), -1);
        Due.is("horse -2", x.most(0, 60, -2), -1);
        x.run(0, 1, 1);
        Due.is("run", x.most(0, 60, -1), -1);
        Due.is("run, on 0", x.most(0, 60, 0), -1);
    }

    /** Promise 22: "what 0 the BOOK, 1 the HORSE, 2 the STAKE, 3 the WORST then; -2: there is none" */
    private static void layOffEach() {
        SlateRing x = Due.ring(3, 2);
        Due.slates(x, 0, 0, 1, 1);
        Due.slates(x, 2, 0, -1, 4);
        x.bet(0, 0, 0, 0, 1, 1000);
        int[] due = {2, 1, 400, 600};
        // -1000 and 1000: 300 at 5/1 makes 500 and 700, 400 makes 1000 and 600
        for (int what = 0; what < 4; what++) {
            Due.is("what " + what, x.layOff(0, 0, 5000, what), due[what]);
            Due.is("of book 1 none: what " + what, x.layOff(1, 0, 5000, what), -2);
        }
        Due.is("what 4", x.layOff(0, 0, 5000, 4), -1);
        Due.is("what -1", x.layOff(0, 0, 5000, -1), -1);
        Due.is("the bet isn't made", x.count(3), 1);
        Due.is("the purse of the other stays", x.bookIs(2, 0), 100000);
        x.run(0, 1, 1);
        for (int what = 0; what < 4; what++) {
            Due.is("run: what " + what, x.layOff(0, 0, 5000, what), -1);
        }
    }

    /** Promise 23: "what NONE what would be WON, else the BOOK of BET what; -2: there is none" */
    private static void planEach() {
        SlateRing x = Due.ring(2, 3);
        Due.slates(x, 0, 0, 2, 2, -1);
        Due.slates(x, 1, 0, 5, 2, -1);
        Due.way(x, 1, "s4(1=1)");
        Due.is("100 and 20", x.plan(0, 0, 0, 10, 2, -1), 120);
        Due.is("book 0 first, of like ones", x.plan(0, 0, 0, 10, 2, 0), 0);
        Due.is("then book 1", x.plan(0, 0, 0, 10, 2, 1), 1);
        Due.is("nothing stands", x.plan(0, 0, 2, 10, 2, 1), -2);
        Due.is("no bet 2 of 2", x.plan(0, 0, 0, 10, 2, 2), -1);
        x.scratch(0, 0);
        Due.is("scratched", x.plan(0, 0, 0, 10, 2, -1), -1);
        Due.is("the other is not", x.plan(0, 0, 1, 10, 1, -1), 20);
        x.run(0, 2, 2);
        Due.is("run", x.plan(0, 0, 1, 10, 1, -1), -1);
    }

    /** Promise 24: "NONE: no such ones, one twice." */
    private static void togetherTwice() {
        SlateRing x = Due.ring(1, 2);
        Due.slates(x, 0, 0, 1, 1);
        x.bet(0, 0, 0, 0, 0, 1);
        x.bet(0, 0, 0, 0, 0, 1);
        for (int y = 0; y < 16; y++) {
            Due.is(y + " twice", x.together(y, y, 1, 0), -1);
        }
        Due.is("0 and 15", x.together(0, 15, 1, 0), 0);
        x.bet(15, 0, 0, 0, 0, 1);
        Due.is("0 and 15 now", x.together(0, 15, 1, 0), 1);
        Due.is("15 and 0", x.together(15, 0, 1, 0), 1);
        Due.is("16 and 0", x.together(16, 0, 1, 0), -1);
        Due.is("16 twice", x.together(16, 16, 1, 0), -1);
    }

    /** Promise 25: "Who is of ONE PURSE with BETTOR x (with it), as bits" */
    private static void purseWithIt() {
        SlateRing x = Due.ring(1, 2);
        Due.slates(x, 0, 0, 1, 1);
        for (int y = 0; y < 16; y++) {
            Due.is("alone: " + y, x.purse(y, 1, 0), 1 << y);
        }
        x.bet(15, 0, 0, 0, 0, 1);
        Due.is("with a bet alone", x.purse(15, 1, 0), 1 << 15);
        x.bet(0, 0, 0, 0, 0, 1);
        Due.is("0 and 15", x.purse(15, 1, 0), (1 << 15) + 1);
        Due.is("15 and 0", x.purse(0, 1, 0), (1 << 15) + 1);
        Due.is("7 is not of them", x.purse(7, 1, 0), 1 << 7);
    }

    /** Promise 26: "NONE for others." */
    private static void knewNone() {
        SlateRing x = Due.ring(1, 2);
        for (int z : new int[] {-1, 16}) {
            Due.is("bettor " + z, x.knew(z, 0), -1);
            Due.is("bettor " + z + ", what 1", x.knew(z, 1), -1);
        }
        Due.is("what 2", x.knew(0, 2), -1);
        Due.is("what -1", x.knew(0, -1), -1);
        Due.is("no bets", x.knew(0, 0), 0);
        Due.is("no bets of the last", x.knew(15, 1), 0);
    }

    /** Promise 27: "-2: there is no such BOOK; NONE: no such ones, it is SCRATCHED." */
    private static void chanceOfNone() {
        SlateRing x = Due.ring(1, 3);
        Due.slates(x, 0, 0, 1, 1, -1);
        for (int what = 0; what < 4; what++) {
            Due.is("no such book: what " + what, x.chance(0, 0, what), -2);
        }
        x.scratch(0, 2);
        int[] half = {1, 2, 1, 2};
        for (int what = 0; what < 4; what++) {
            Due.is("1/2: what " + what, x.chance(0, 0, what), half[what]);
            Due.is("scratched: what " + what, x.chance(0, 2, what), -1);
        }
        Due.is("what 4", x.chance(0, 0, 4), -1);
        Due.is("horse 3", x.chance(0, 3, 0), -1);
        Due.is("race 1", x.chance(1, 0, 0), -1);
    }

    /** Promise 28: "(2 n: some are lacking)" and no numbers at all. */
    private static void checkNothing() {
        SlateRing x = Due.ring(1, 2);
        Due.slates(x, 0, 0, 1, 1);
        Due.is("nothing of nothing", x.check(0, 0), -1);
        x.bet(0, 0, 0, 0, 0, 10);
        x.bet(0, 0, 0, 0, 1, 10);
        x.bet(0, 0, 0, 0, 0, 11);
        x.run(0, 1, 1);
        Due.is("all are lacking", x.check(0, 0), 0);
        Due.is("two are lacking", Due.check(x, 0, 0, 20), 2);
        Due.is("one is lacking", Due.check(x, 0, 0, 20, 1, 0), 4);
        Due.is("none", Due.check(x, 0, 0, 20, 1, 0, 2, 22), -1);
    }

    /** Promise 29: "10 + r HORSES of RACE r that are not SCRATCHED (bits), 20 + r whether it is RUN (1, 0), 30 + b CLAUSES of BOOK b. NONE for others." */
    private static void countEach() {
        SlateRing x = Due.ring(4, 2, 5, 8);
        x.scratch(1, 0);
        x.scratch(2, 7);
        x.run(2, 1, 1);
        Due.way(x, 3, "c(1=1);c(1=1)");
        x.feed(0, 0, 0, 0, 0);
        x.now(599);
        int[] first = {599, 3, 4, 0, 6, 20};
        for (int what = -2; what < 50; what++) {
            int due = what >= 0 && what < 6 ? first[what] : -1;
            if (what >= 10 && what < 13) {
                due = new int[] {3, 30, 127}[what - 10];
            }
            if (what >= 20 && what < 23) {
                due = what == 22 ? 1 : 0;
            }
            if (what >= 30 && what < 34) {
                due = what == 33 ? 2 : 0;
            }
            Due.is("count " + what, x.count(what), due);
        }
        for (int what : new int[] {Integer.MIN_VALUE, Integer.MIN_VALUE + 30, Integer.MAX_VALUE, 256, 1 << 30}) {
            Due.is("count " + what, x.count(what), -1);
        }
    }
}
