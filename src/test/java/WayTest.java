/** What a way's letters and signs mean: each text moves horse 1 of race 0 or it doesn't. */
public final class WayTest {
    private WayTest() {
    }

    public static void main(String[] args) {
        signs();
        letters();
        lettersAsThen();
        refused();
        Due.end();
    }

    /** At second 9 bettor 7 bets 50 on horse 1, behind 30 to win and 20 for a place on horse 0. */
    private static boolean holds(String condition) {
        SlateRing x = Due.ring(1, 4, 3);
        Due.slates(x, 0, 0, 1, 2, 4);
        Due.slates(x, 0, 1, 1, 1, 1);
        x.now(9);
        x.bet(2, 0, 0, 0, 0, 30);
        x.bet(2, 0, 1, 0, 0, 20);
        x.bet(2, 0, 1, 0, 1, 11);
        x.bet(2, 0, 0, 1, 1, 1000);
        Due.is("one clause: " + condition, Due.way(x, 0, "c(" + condition + ")"), 1);
        x.bet(7, 0, 2, 0, 1, 50);
        return x.step(0, 0, 1) == -1;
    }

    private static void yes(String condition) {
        Due.yes(condition, holds(condition));
    }

    private static void no(String condition) {
        Due.no(condition, holds(condition));
    }

    private static void signs() {
        yes("1=1");
        no("1=2");
        yes("1<2");
        no("2<2");
        yes("3>2");
        no("2>2");
        yes("!1=2");
        no("!!1=2");
        yes("1=2|1=1");
        no("1=2|1=3");
        no("1=1&1=2");
        yes("1=1|1=1&1=2");
        no("(1=1|1=1)&1=2");
        no("!1=1&1=2");
        yes("!(1=1&1=2)");
        yes("2+3*4=14");
        yes("[2+3]*4=20");
        yes("10-4-3=3");
        yes("10-[4-3]=9");
        yes("100/7/2=7");
        yes("17%5*3=6");
        yes("2*7/3=4");
        yes("[0-7]/2=0-3");
        yes("[0-7]%3=0-1");
        yes("999999*999999*999999*999999<0");
        yes("007=7");
        yes("0-1<0");
    }

    private static void letters() {
        yes("h=1");
        yes("i=2");
        yes("k=50");
        yes("z=7");
        yes("m=9");
        yes("t=80");
        // 80 less 50 and 100 for it: the book loses 70
        yes("q=70");
        // the place bet and this one
        yes("n=2");
        // 1/2, 1/3 and 1/6 together are one
        yes("o=1000");
    }

    private static void lettersAsThen() {
        SlateRing x = Due.ring(1, 3);
        Due.slates(x, 0, 0, 2, 2, 2);
        Due.way(x, 0, "s1(i=2);l1(i=1&o=1166);c(o=1000)");
        x.bet(0, 0, 0, 0, 0, 10);
        // 1/2, 1/3 and 1/3 are 1166, then 1/2, 1/4 and 1/4 are 1000
        Due.is("each clause as it is then: s, l, c", x.step(0, 0, 0), -1);
        Due.is("the others", x.step(0, 0, 1), 3);
        Due.slates(x, 0, 0, 0, 0, 4);
        Due.way(x, 0, "c(o=1500)");
        x.bet(0, 0, 0, 0, 0, 10);
        Due.is("2/3, 2/3 and 1/6 are 1500", x.step(0, 0, 0), -1);
        Due.slates(x, 0, 0, 2, 2, 2);
        Due.way(x, 0, "c(1=1);l1(i=24);s1(i=24)");
        x.bet(0, 0, 0, 0, 0, 10);
        Due.is("24: nothing", x.step(0, 0, 1), 3);
        Due.is("s does nothing then", x.step(0, 0, 0), -1);
        SlateRing y = Due.ring(1, 3, 3);
        Due.slates(y, 0, 0, 2, 2, 2);
        Due.slates(y, 0, 1, 2, 2, 2);
        y.joined(0, 0, 1, 1, -1, 10);
        Due.way(y, 0, "c(n=2&t=0&q=0)");
        y.joined(0, 0, 1, 2, -1, 10);
        Due.is("joined ones count in n, not in t and q", y.step(0, 0, 1), -1);
        Due.is("by races", y.step(0, 1, 2), 2);
        SlateRing z = Due.ring(2, 3);
        Due.slates(z, 0, 0, 2, 2, 2);
        Due.slates(z, 1, 0, 2, 2, 2);
        z.bet(0, 1, 0, 0, 0, 10);
        z.bet(0, 0, 0, 0, 2, 77);
        z.scratch(0, 2);
        Due.way(z, 0, "c(n=1&t=10&q=20&o=666)");
        z.bet(0, 0, 0, 0, 0, 10);
        Due.is("its own book's bets, scratched ones aside", z.step(0, 0, 0), -1);
        Due.is("not on the other slate", z.step(1, 0, 0), 2);
    }

    private static void refused() {
        no("1/0=1");
        no("!1/0=1");
        no("1%0=1|1=1");
        no("(1/0=1)|1=1");
        no("!(1/[h-1]=0)");
        yes("1=1|1/0=1");
        no("1=2&1/0=1");
        yes("1=2&1/0=1|1=1");
        yes("!(1=2&1/0=1)");
        no("1=1&(1=2|1/0=1)");
        yes("1=1&(1=1|1/0=1)");
        yes("1=2&1=1|h=1");
        yes("(1=1|1=1)&h=1");
        no("(1=1|1=1)&1/0=1");
        no("0*[1/0]=0");
        no("1=1/0");
        SlateRing x = Due.ring(1, 3);
        Due.slates(x, 0, 0, 3, 3, 3);
        Due.way(x, 0, "s1(1/0=1);s1(1=1)");
        x.bet(0, 0, 0, 0, 0, 1);
        Due.is("only that clause does nothing", x.step(0, 0, 0), 2);
    }
}
