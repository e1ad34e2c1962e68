import java.nio.file.Files;
import java.nio.file.Path;
import java.util.ArrayList;
import java.util.List;

/** README.md's example: its calls, done here in their order, answer what is written behind them. */
public final class ReadmeTest {
    private final List<String> done = new ArrayList<>();

    public static void main(String[] args) throws Exception {
        ReadmeTest t = new ReadmeTest();
        t.example();
        List<String> told = told();
        if (!t.done.equals(told)) {
            System.out.println("README.md tells  " + told);
            System.out.println("the class answers " + t.done);
            System.exit(1);
        }
        System.out.println(told.size() + " calls of README.md answer as it says");
    }

    /** Each line of the first Java block that calls the ring: the call, and what stands before the colon. */
    private static List<String> told() throws Exception {
        List<String> told = new ArrayList<>();
        boolean inside = false;
        for (String line : Files.readAllLines(Path.of("README.md"))) {
            if (line.startsWith("```")) {
                if (inside) {
                    break;
                }
                inside = line.equals("```java");
            } else if (inside && line.contains("ring.")) {
                String call = line.substring(line.indexOf("ring."), line.indexOf(';'));
                String answer = line.substring(line.indexOf("// ") + 3, line.indexOf(':'));
                told.add(call + " = " + answer);
            }
        }
        return told;
    }

    private void is(String call, Object answer) {
        done.add(call + " = " + answer);
    }

    private void example() {
        SlateRing ring = new SlateRing();
        int race = ring.race(3);
        is("ring.race(3)", race);
        int book = ring.book(1000);
        is("ring.book(1000)", book);
        is("ring.feed(0x01020101, 0x02010301, 0x05010A01, 0, 0)", ring.feed(0x01020101, 0x02010301, 0x05010A01, 0, 0));
        is("ring.ladder(6)", ring.ladder(6));
        is("ring.slate(book, race, 0, 1)", ring.slate(book, race, 0, 1));
        is("ring.feed(0x7331286B, 0x3E393929, 0, 0, 0)", ring.feed(0x7331286B, 0x3E393929, 0, 0, 0));
        is("ring.way(book, 8)", ring.way(book, 8));
        int bet = ring.bet(3, book, 0, race, 0, 100);
        is("ring.bet(3, book, 0, race, 0, 100)", bet);
        is("ring.step(book, race, 0)", ring.step(book, race, 0));
        is("ring.balance(book, race, 0)", ring.balance(book, race, 0));
        is("ring.run(race, 1, 1)", ring.run(race, 1, 1));
        is("ring.has(bet, 0)", ring.has(bet, 0));
        is("ring.bookIs(book, 0)", ring.bookIs(book, 0));
    }
}
