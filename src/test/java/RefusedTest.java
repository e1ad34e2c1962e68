import java.util.List;

/**
 * "A call that is refused (NONE, false) changes nothing but the tape, where it is told." Each call with each wrong argument on
 * a ring in which much has happened: all that can be seen stays, at once and later on; and what only asks changes nothing.
 */
public final class RefusedTest {
    private RefusedTest() {
    }

    public static void main(String[] args) {
        for (Wild.Kind kind : Wild.changing()) {
            wrongArguments(kind);
        }
        for (Wild.Kind kind : Wild.asking()) {
            wrongArguments(kind);
            rightArguments(kind);
        }
        fullRing();
        scratchedOnes();
        lastBet();
        fullTape();
        ladderAndTape();
        wayAndTape();
        checkAndTape();
        lastToldFirst();
        Due.end();
    }

    private static void same(String what, SlateRing x) {
        SlateRing other = Wild.ring();
        Due.yes(what + ": all is as it was", Wild.shot(x).equals(Wild.shot(other)));
        List<Long> later = Wild.later(x);
        Due.yes(what + ": and goes on so", later.equals(Wild.later(other)));
    }

    private static String told(Wild.Kind kind, int[] a) {
        return kind.name + java.util.Arrays.toString(a);
    }

    private static void wrongArguments(Wild.Kind kind) {
        SlateRing x = Wild.ring();
        if (kind.right.length > 0) {
            Due.no(told(kind, kind.right) + " is right", kind.call.of(Wild.ring(), kind.right) == kind.refused);
        }
        for (int i = 0; i < kind.right.length; i++) {
            for (int wrong : kind.wrong[i]) {
                int[] a = kind.right.clone();
                a[i] = wrong;
                Due.is(told(kind, a), kind.call.of(x, a), kind.refused);
            }
        }
        same(kind.name + " refused", x);
    }

    private static void rightArguments(Wild.Kind kind) {
        SlateRing x = Wild.ring();
        for (int i = 0; i < 10; i++) {
            kind.call.of(x, kind.right);
        }
        same(kind.name + " asked", x);
    }

    /** "three are there", "four are there", "it is told already" */
    private static void fullRing() {
        SlateRing x = Wild.ring();
        for (int horses = 1; horses <= 9; horses++) {
            Due.is("a fourth race of " + horses, x.race(horses), -1);
        }
        for (int n = 0; n <= 10; n++) {
            Due.no("a ladder of " + n + " once more", x.ladder(n));
        }
        same("full", x);
        Due.is("a fourth book", x.bookIs(3, 0), 1);
        Due.is("a fifth", x.book(7), -1);
        Due.is("four", x.count(2), 4);
    }

    /** "it is [scratched]", "fewer than two would be left", "It is SCRATCHED" */
    private static void scratchedOnes() {
        SlateRing x = Wild.ring();
        Due.no("scratched twice", x.scratch(0, 3));
        Due.no("of a race that is run", x.scratch(2, 0));
        Due.no("a step for it", x.slate(0, 0, 3, 1));
        Due.no("nothing for it", x.slate(0, 0, 3, -1));
        Due.no("a step in a race that is run", x.slate(0, 2, 0, 1));
        Due.no("nothing in a race that is run", x.slate(0, 2, 0, -1));
        Due.is("a race that is run", x.run(2, 1, 1), -1);
        same("scratched or run", x);
        SlateRing y = Due.ring(1, 4, 2);
        Due.no("two are left: the first", y.scratch(1, 0));
        Due.no("two are left: the last", y.scratch(1, 1));
        Due.yes("four", y.scratch(0, 0));
        Due.yes("three", y.scratch(0, 3));
        Due.no("two", y.scratch(0, 1));
        Due.no("two, the other", y.scratch(0, 2));
        Due.is("two are left", y.count(10), 6);
    }

    /** "80 are there": no way moves behind a bet that can't be, and no stake comes. */
    private static void lastBet() {
        SlateRing x = Due.ring(1, 2, 2);
        Due.slates(x, 0, 0, 5, 5);
        Due.slates(x, 0, 1, 5, 5);
        for (int i = 0; i < 80; i++) {
            x.bet(0, 0, 0, 0, 0, 1);
        }
        Due.way(x, 0, "s1(1=1)");
        Due.is("an 81st", x.bet(0, 0, 0, 0, 0, 1), -1);
        Due.is("an 81st, joined", x.joined(0, 0, 0, 0, -1, 1), -1);
        Due.is("the slate stays", x.step(0, 0, 0), 5);
        Due.is("of race 1, too", x.step(0, 1, 0), 5);
        Due.is("the purse stays", x.bookIs(0, 0), 100080);
        Due.is("80 bets of it", x.bookIs(0, 2), 80);
        Due.is("their balance stays", x.balance(0, 0, 0), -800);
    }

    /** "how many it has; NONE if that would be more than 200" */
    private static void fullTape() {
        SlateRing x = Due.ring(1, 2);
        for (int i = 1; i <= 9; i++) {
            Due.is("feed " + i, x.feed(0x63283130, 0x3D303129, i, i, i), 20 * i);
        }
        Due.is("just 200", x.feed(0, 0, 0, 0, 0), 200);
        Due.is("more", x.feed(1, 1, 1, 1, 1), -1);
        Due.is("more again", x.feed(1, 1, 1, 1, 1), -1);
        Due.is("200 still", x.count(5), 200);
        Due.is("its first 8 bytes are the first fed", x.way(0, 8), 1);
        Due.is("empty", x.count(5), 0);
        Due.is("room again", x.feed(0, 0, 0, 0, 0), 20);
    }

    /** ladder: "(... empty then): true; false: no such n, it is told already, it has not so many (the tape stays), they are not so" */
    private static void ladderAndTape() {
        SlateRing x = new SlateRing();
        Due.feed(x, 1, 1, 2, 1, 2, 1, 4, 1, 5, 1, 6, 1, 7, 1, 8, 1, 9, 1, 10, 1);
        for (int n : new int[] {0, -1, 25, Integer.MIN_VALUE, Integer.MAX_VALUE, 1 << 30, 1 << 31}) {
            Due.no("no such n: " + n, x.ladder(n));
            Due.is("the tape stays: " + n, x.count(5), 20);
        }
        for (int n : new int[] {11, 12, 24}) {
            Due.no("not so many: " + n, x.ladder(n));
            Due.is("the tape stays: " + n, x.count(5), 20);
        }
        Due.no("not so: 2/1 twice", x.ladder(3));
        Due.is("empty then", x.count(5), 0);
        Due.is("no ladder", x.count(4), 0);
        Due.feed(x, 1, 1, 2, 1, 0, 0);
        Due.yes("the first two are so", x.ladder(2));
        Due.is("empty then, the rest, too", x.count(5), 0);
        Due.feed(x, 1, 1, 2, 1);
        Due.no("told already", x.ladder(2));
        Due.is("the tape stays", x.count(5), 20);
        Due.is("two steps", x.count(4), 2);
    }

    /** way: "by the first n bytes of the tape (1 to 160; empty then) ...; NONE: no such ones, it has not so many (the tape stays)" */
    private static void wayAndTape() {
        SlateRing x = Due.ring(1, 2);
        Due.feed(x, 'c', '(', '1', '=', '1', ')', ';', 'c', '(', '2', '=', '2', ')');
        for (int n : new int[] {0, -1, 161, Integer.MIN_VALUE, Integer.MAX_VALUE}) {
            Due.is("no such n: " + n, x.way(0, n), -1);
            Due.is("the tape stays: " + n, x.count(5), 20);
        }
        Due.is("not so many", x.way(0, 21), -1);
        Due.is("not so many of 160", x.way(0, 160), -1);
        Due.is("no such book", x.way(1, 6), -1);
        Due.is("no such book, not so many", x.way(1, 21), -1);
        Due.is("the tape stays", x.count(5), 20);
        Due.is("no way yet", x.count(30), 0);
        Due.is("the first 6", x.way(0, 6), 1);
        Due.is("empty then, the rest, too", x.count(5), 0);
        Due.feed(x, 'c', '(', '1', '=', '1', ')', ';', 'c', '(', '2', '=', '2', ')');
        Due.is("a fault: the first 7", x.way(0, 7), -1007);
        Due.is("empty then, too", x.count(5), 0);
        Due.is("the text before stays", x.count(30), 1);
        Due.is("nothing on it", x.way(0, 1), -1);
        Due.feed(x, new int[200]);
        Due.is("161 of 200", x.way(0, 161), -1);
        Due.is("200 of 200", x.way(0, 200), -1);
        Due.is("the tape stays", x.count(5), 200);
        Due.is("160 of 200", x.way(0, 160), -1000);
        Due.is("empty then", x.count(5), 0);
    }

    /** check: "(four bytes each; empty then) ...; -2: no such BOOK, it has not so many (the tape stays)" */
    private static void checkAndTape() {
        SlateRing x = Due.ring(1, 2);
        Due.feed(x, new int[20]);
        Due.is("24 of 20", x.check(0, 3), -2);
        for (int n : new int[] {-1, 1 << 28, 1 << 29, 1 << 30, Integer.MIN_VALUE, Integer.MAX_VALUE}) {
            Due.is("no such n: " + n, x.check(0, n), -2);
        }
        Due.is("no such book", x.check(1, 2), -2);
        Due.is("no such book, nothing", x.check(1, 0), -2);
        Due.is("no such book, not so many", x.check(1, 3), -2);
        Due.is("the tape stays", x.count(5), 20);
        Due.is("16 of 20", x.check(0, 2), 0);
        Due.is("empty then, the rest, too", x.count(5), 0);
        Due.is("nothing of nothing", x.check(0, 0), -1);
        Due.is("8 of nothing", x.check(0, 1), -2);
        Due.feed(x, new int[200]);
        Due.is("208 of 200", x.check(0, 26), -2);
        Due.is("the tape stays", x.count(5), 200);
        Due.is("all 200", x.check(0, 25), 0);
        Due.is("empty then", x.count(5), 0);
    }

    /** "Of several reasons of a call that told last in its line is looked at first, then the others as they stand." */
    private static void lastToldFirst() {
        SlateRing x = Due.ring(1, 3, 2);
        Due.slates(x, 0, 0, 1, 1, -1);
        x.bet(0, 0, 0, 0, 0, 1);
        Due.is("has: not decided", x.has(0, 0), -2);
        Due.is("has: not decided, no such what", x.has(0, 2), -1);
        Due.is("layOff: there is none", x.layOff(0, 0, 100, 0), -2);
        Due.is("layOff: there is none, no such what", x.layOff(0, 0, 100, 4), -1);
        Due.is("layOff: there is none, no such greatest", x.layOff(0, 0, 99, 0), -1);
        Due.is("plan: there is none", x.plan(0, 0, 2, 1, 1, 0), -2);
        Due.is("plan: there is none, no such what", x.plan(0, 0, 2, 1, 1, 1), -1);
        Due.is("plan: there is none, no such stake", x.plan(0, 0, 2, 0, 1, 0), -1);
        Due.is("chance: there is no such book", x.chance(0, 0, 0), -2);
        Due.is("chance: no such book, no such what", x.chance(0, 0, 4), -1);
        Due.is("chance: no such book, no such horse", x.chance(0, 3, 0), -1);
        x.scratch(0, 1);
        Due.is("chance: no such book, scratched", x.chance(0, 1, 0), -1);
        Due.is("plan: there is none, scratched", x.plan(0, 0, 1, 1, 1, 0), -1);
        x.run(0, 1, 1);
        Due.is("layOff: there is none, run", x.layOff(0, 0, 100, 0), -1);
        Due.is("plan: there is none, run", x.plan(0, 0, 2, 1, 1, 0), -1);
        Due.is("check: no such book, though nothing is lacking", x.check(1, 0), -2);
        Due.feed(x, 'x');
        Due.is("way: a fault, but no such book", x.way(1, 1), -1);
        Due.is("way: a fault, but no such n", x.way(0, 0), -1);
        Due.is("way: a fault", x.way(0, 1), -1000);
        Due.is("stood: none, no such what", x.stood(1, 4), -1);
        Due.is("most: no gain, run", x.most(0, 1, -1), -1);
        Due.is("most: no gain, no such purse", x.most(1, 0, -1), -1);
        Due.is("most: no gain, no such horse", x.most(1, 1, 2), -1);
    }
}
