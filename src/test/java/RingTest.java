/** Promises 1 to 9: a new object, seconds, races, books, the tape, the ladder, ways, slates, steps. */
public final class RingTest {
    private RingTest() {
    }

    public static void main(String[] args) {
        newObject();
        seconds();
        racesAndBooks();
        tape();
        ladder();
        ladderAndTape();
        slates();
        clauses();
        waysAndTape();
        faults();
        Due.end();
    }

    private static void newObject() {
        SlateRing x = new SlateRing();
        Due.is("NONE", SlateRing.NONE, -1);
        for (int what = 0; what <= 5; what++) {
            Due.is("new: count " + what, x.count(what), 0);
        }
        for (int what = 10; what < 40; what++) {
            Due.is("new: count " + what, x.count(what), -1);
        }
        Due.is("new: sure", x.sure(0), -1);
        Due.is("new: bookIs", x.bookIs(0, 0), -1);
        Due.no("new: slate", x.slate(0, 0, 0, -1));
        Due.is("new: bet", x.bet(0, 0, 0, 0, 0, 1), -1);
    }

    private static void seconds() {
        SlateRing x = new SlateRing();
        Due.no("now -1", x.now(-1));
        Due.no("now 600", x.now(600));
        Due.yes("now 0", x.now(0));
        Due.yes("now 7", x.now(7));
        Due.yes("now 7 again", x.now(7));
        Due.no("now 6", x.now(6));
        Due.is("count 0", x.count(0), 7);
        Due.yes("now 599", x.now(599));
        Due.no("now 600 at last", x.now(600));
        Due.is("count 0 at last", x.count(0), 599);
    }

    private static void racesAndBooks() {
        SlateRing x = new SlateRing();
        Due.is("race 1", x.race(1), -1);
        Due.is("race 9", x.race(9), -1);
        Due.is("race 2", x.race(2), 0);
        Due.is("race 8", x.race(8), 1);
        Due.is("race 5", x.race(5), 2);
        Due.is("a fourth race", x.race(5), -1);
        Due.is("count 1", x.count(1), 3);
        Due.is("count 10", x.count(10), 3);
        Due.is("count 11", x.count(11), 255);
        Due.is("count 12", x.count(12), 31);
        Due.is("book -1", x.book(-1), -1);
        Due.is("book 1000001", x.book(1000001), -1);
        Due.is("book 0", x.book(0), 0);
        Due.is("book 1000000", x.book(1000000), 1);
        Due.is("book 5", x.book(5), 2);
        Due.is("book 6", x.book(6), 3);
        Due.is("a fifth book", x.book(6), -1);
        Due.is("count 2", x.count(2), 4);
        Due.is("purse 1", x.bookIs(1, 0), 1000000);
        Due.is("purse 3", x.bookIs(3, 0), 6);
    }

    private static void tape() {
        SlateRing x = new SlateRing();
        x.book(0);
        for (int i = 1; i <= 10; i++) {
            Due.is("feed " + i, x.feed(-1, 0, 1, 2, 3), 20 * i);
        }
        Due.is("an eleventh feed", x.feed(0, 0, 0, 0, 0), -1);
        Due.is("count 5", x.count(5), 200);
        SlateRing y = Due.ring(1, 2);
        // 's' '1' '(' 'h' comes as the highest byte of an int first
        y.feed('s' << 24 | '1' << 16 | '(' << 8 | 'h', '=' << 24 | '0' << 16 | ')' << 8 | ' ', 0, 0, 0);
        Due.is("highest byte first", y.way(0, 7), 1);
    }

    private static void ladder() {
        Due.no("ladder 0", new SlateRing().ladder(0));
        Due.no("ladder 25", new SlateRing().ladder(25));
        Due.no("ladder -1", new SlateRing().ladder(-1));
        int[] all = new int[48];
        for (int i = 0; i < 24; i++) {
            all[2 * i] = i + 1;
            all[2 * i + 1] = 2;
        }
        SlateRing x = new SlateRing();
        Due.yes("24 prices", Due.ladder(x, all));
        Due.is("count 4", x.count(4), 24);
        Due.is("the tape is empty then", x.count(5), 0);
        Due.no("told already", Due.ladder(x, 1, 1));
        Due.is("count 4 stays", x.count(4), 24);
        SlateRing one = new SlateRing();
        Due.yes("one price", Due.ladder(one, 3, 1));
        Due.no("one is told already", Due.ladder(one, 3, 1, 4, 1));
        Due.is("one stays", one.count(4), 1);
        Due.yes("60/1 and 1/12", Due.ladder(new SlateRing(), 1, 12, 60, 1));
        Due.no("61/1", Due.ladder(new SlateRing(), 61, 1));
        Due.no("0/1", Due.ladder(new SlateRing(), 0, 1));
        Due.no("1/13", Due.ladder(new SlateRing(), 1, 13));
        Due.no("1/0", Due.ladder(new SlateRing(), 1, 0));
        Due.no("255/1", Due.ladder(new SlateRing(), 255, 1));
        Due.no("alike by another name", Due.ladder(new SlateRing(), 1, 2, 2, 4));
        Due.no("falling", Due.ladder(new SlateRing(), 2, 1, 1, 1));
        Due.yes("growing", Due.ladder(new SlateRing(), 7, 4, 9, 5, 11, 6));
    }

    private static void ladderAndTape() {
        SlateRing x = new SlateRing();
        x.feed(0x01010201, 0x03010401, 0x05010601, 0x07010801, 0x09010A01);
        Due.no("11 prices of 20 bytes", x.ladder(11));
        Due.is("not so many: the tape stays", x.count(5), 20);
        Due.no("no such n, though 20 bytes", x.ladder(0));
        Due.no("no such n, -1", x.ladder(-1));
        Due.is("no such n: the tape stays", x.count(5), 20);
        Due.yes("10 prices of 20 bytes", x.ladder(10));
        Due.is("empty then", x.count(5), 0);
        x.feed(0x01010201, 0x03010401, 0x05010601, 0x07010801, 0x09010A01);
        Due.no("told already", x.ladder(10));
        Due.is("told already: the tape stays", x.count(5), 20);
        x.feed(0, 0, 0, 0, 0);
        x.feed(0, 0, 0, 0, 0);
        Due.no("no such n, 25 of 60 bytes", x.ladder(25));
        Due.no("told already, and not so", x.ladder(15));
        Due.is("both: the tape stays", x.count(5), 60);
        SlateRing y = new SlateRing();
        y.feed(0, 0, 0, 0, 0);
        Due.no("not so", y.ladder(3));
        Due.is("empty though not so", y.count(5), 0);
        Due.is("no ladder", y.count(4), 0);
        Due.yes("another try", Due.ladder(y, 1, 1, 2, 1));
        y.race(2);
        y.book(1);
        Due.yes("a step of it", y.slate(0, 0, 0, 1));
        Due.no("a step behind it", y.slate(0, 0, 0, 2));
    }

    private static void slates() {
        SlateRing x = Due.ring(2, 3, 2);
        Due.is("nothing at first", x.step(0, 0, 0), -1);
        Due.yes("slate", x.slate(1, 0, 2, 5));
        Due.is("step", x.step(1, 0, 2), 5);
        Due.is("another book's", x.step(0, 0, 2), -1);
        Due.is("another horse's", x.step(1, 0, 1), -1);
        Due.yes("slate in race 1", x.slate(1, 1, 1, 0));
        Due.is("step in race 1", x.step(1, 1, 1), 0);
        Due.no("no book", x.slate(2, 0, 0, 0));
        Due.no("no race", x.slate(0, 2, 0, 0));
        Due.no("no horse", x.slate(0, 0, 3, 0));
        Due.no("no horse -1", x.slate(0, 0, -1, 0));
        Due.no("no step 6", x.slate(0, 0, 0, 6));
        Due.no("no step -2", x.slate(0, 0, 0, -2));
        Due.is("step: no book", x.step(-1, 0, 0), -1);
        Due.is("step: no race", x.step(0, 2, 0), -1);
        Due.is("step: no horse", x.step(1, 1, 2), -1);
        Due.yes("nothing", x.slate(1, 0, 2, -1));
        Due.is("nothing now", x.step(1, 0, 2), -1);
        Due.yes("step 4", x.slate(1, 0, 2, 4));
        x.scratch(0, 2);
        Due.no("scratched", x.slate(1, 0, 2, 4));
        Due.no("scratched, nothing", x.slate(1, 0, 2, -1));
        Due.is("nothing stands for it", x.step(1, 0, 2), -1);
        x.slate(0, 0, 0, 3);
        x.run(0, 1, 1);
        Due.no("run", x.slate(0, 0, 0, 2));
        Due.is("it stands on", x.step(0, 0, 0), 3);
    }

    private static void clauses() {
        SlateRing x = Due.ring(1, 4, 3);
        Due.slates(x, 0, 0, 3, 4, -1, 1);
        Due.is("no way at first", x.count(30), 0);
        x.bet(0, 0, 0, 0, 0, 1);
        Due.is("no way: it stays", x.step(0, 0, 0), 3);
        Due.is("two clauses", Due.way(x, 0, "s2(h=0);l1(h=0)"), 2);
        Due.is("count 30", x.count(30), 2);
        x.bet(0, 0, 1, 0, 0, 1);
        Due.is("2 less", x.step(0, 0, 0), 1);
        Due.is("1 more", x.step(0, 0, 1), 5);
        Due.is("nothing stays nothing", x.step(0, 0, 2), -1);
        Due.is("1 more, too", x.step(0, 0, 3), 2);
        x.bet(0, 0, 2, 0, 0, 1);
        Due.is("not below 0", x.step(0, 0, 0), 0);
        Due.is("not above 5", x.step(0, 0, 1), 5);
        Due.is("another in its place", Due.way(x, 0, "c(1=1);s9(1=1);l9(i=24)"), 3);
        Due.is("count 30 now", x.count(30), 3);
        x.bet(0, 0, 0, 0, 3, 1);
        Due.is("nothing any more", x.step(0, 0, 3), -1);
        Due.is("the others all the same", x.step(0, 0, 0), 5);
        Due.way(x, 0, "l2(h=1)");
        Due.slates(x, 0, 0, 2, 2, 2, 2);
        x.bet(0, 0, 0, 0, 1, 1);
        Due.is("l: its own stays", x.step(0, 0, 1), 2);
        Due.is("l: the one behind it", x.step(0, 0, 2), 4);
        Due.is("l: the one before it", x.step(0, 0, 0), 4);
        Due.slates(x, 0, 1, 2, 2, 2);
        Due.slates(x, 0, 0, 2, 2, 2, 2);
        Due.way(x, 0, "s1(h=1);l2(h=0)");
        x.joined(0, 0, 1, 0, -1, 5);
        Due.is("joined: its horse in race 0", x.step(0, 0, 1), 1);
        Due.is("joined: the others in race 0", x.step(0, 0, 0), 2);
        Due.is("joined: its horse in race 1", x.step(0, 1, 0), 2);
        Due.is("joined: the others in race 1", x.step(0, 1, 1), 4);
        Due.is("another book has none", Due.way(x, 1, "c(1=1)"), -1);
    }

    private static void waysAndTape() {
        SlateRing x = Due.ring(1, 2);
        x.feed('c' << 24 | '(' << 16 | '1' << 8 | '=', '1' << 24 | ')' << 16, 0, 0, 0);
        Due.is("21 of 20", x.way(0, 21), -1);
        Due.is("not so many: the tape stays", x.count(5), 20);
        Due.is("21 of 20, no book", x.way(7, 21), -1);
        Due.is("it stays, too", x.count(5), 20);
        Due.is("its first 6", x.way(0, 6), 1);
        Due.is("empty then", x.count(5), 0);
        x.feed(0, 0, 0, 0, 0);
        Due.is("a fault at 0", x.way(0, 3), -1000);
        Due.is("empty though a fault", x.count(5), 0);
        Due.is("the text before stays", x.count(30), 1);
        x.feed(0, 0, 0, 0, 0);
        Due.is("no bytes", x.way(0, 0), -1);
        Due.is("less than none", x.way(0, -1), -1);
        Due.is("no book", x.way(1, 6), -1);
        Due.is("no book -1", x.way(-1, 6), -1);
        Due.is("no such ones: the tape stays", x.count(5), 20);
        for (int i = 0; i < 9; i++) {
            x.feed(0, 0, 0, 0, 0);
        }
        Due.is("161 of 200", x.way(0, 161), -1);
        Due.is("more than 160: the tape stays", x.count(5), 200);
        Due.is("160 of 200", x.way(0, 160), -1000);
        StringBuilder s = new StringBuilder("c(1=1");
        while (s.length() < 159) {
            s.append("+h");
        }
        Due.is("160 bytes", Due.way(x, 0, s + ")"), 1);
        Due.is("161 bytes", Due.way(x, 0, s + "h)"), -1);
    }

    private static void fault(String text, int due) {
        Due.is("way " + text, Due.way(Due.ring(1, 2), 0, text), due);
    }

    private static void faults() {
        fault("s", -1001);
        fault("x", -1000);
        fault(" c(1=1)", -1000);
        fault("c1(1=1)", -1001);
        fault("s(1=1)", -1001);
        fault("s12(1=1)", -1002);
        fault("s0(1=1)", -3001);
        fault("l0", -3001);
        fault("c(1=1", -1005);
        fault("c(1=1);", -1007);
        fault("c(1=1)c", -1006);
        fault("c(1=1) ", -1006);
        fault("c()", -1002);
        fault("c(1)", -1003);
        fault("c(1=)", -1004);
        fault("c(1=2=3)", -1005);
        fault("c(-1=1)", -1002);
        fault("c(1+=1)", -1004);
        fault("c(a=1)", -1002);
        fault("c([1=1)", -1004);
        fault("c((1)=1)", -1004);
        fault("c((1=1)", -1007);
        fault("c(1=1))", -1006);
        fault("c(1=1&)", -1006);
        fault("c(1=1|&1=1)", -1006);
        fault("c(1!=1)", -1003);
        fault("c((1=1)=1)", -1007);
        fault("c(1=1]", -1005);
        fault("c(" + (char) 233 + "=1)", -1002);
        fault("c(123456=1)", 1);
        fault("c(000000=1)", 1);
        fault("c(1234567=1)", -2008);
        fault("c(1234567", -2008);
        fault("c(1=1);s1(1=12345678)", -2018);
        fault("c(!!!!!1=1)", 1);
        fault("c(!!!!!!1=1)", -5007);
        fault("c(!!!!![1]=1)", -5007);
        fault("c((((((1=1))))))", 1);
        fault("c(((((((1=1)))))))", -5007);
        fault("c([[[[[1]]]]]=1)", 1);
        fault("c([[[[[[1]]]]]]=1)", -5007);
        fault("c(1=[[[[[[", -5009);
        fault("c(!(!(!1=1)))", 1);
        fault("c(!(!(![1]=1)))", -5007);
        fault("c(!1=1&!1=1&!1=1|!1=1&!1=1&!1=1&!(1=1))", 1);
        fault("c(!!!!(1=1)&(((((1=1)))))", -1025);
        fault("c(!!!!(1=1)&!!!!(1=1))", 1);
        fault("c([1]+[1]+[1]+[1]+[1]+[1]+[1]=7)", 1);
        String many = "c(1=1);c(1=1);c(1=1);c(1=1);c(1=1);c(1=1);c(1=1);c(1=1);c(1=1);c(1=1);c(1=1);c(1=1)";
        fault(many, 12);
        fault(many + ";", -1084);
        fault(many + ";c(1=1)", -4084);
        fault(many + ";s0", -4084);
        fault(many + ";x", -1084);
        fault(many + "c", -1083);
    }
}
