import java.util.ArrayList;
import java.util.List;
import java.util.Random;

/** Random runs of 512 calls, right and wrong ones, each answer held against the plain model's. */
public final class RandomRunsTest {
    private final Random r;
    private final SlateRing x = new SlateRing();
    private final Model m = new Model();
    private final Texts texts;
    private final List<String> told = new ArrayList<>();
    private int calls = 0;

    private RandomRunsTest(long seed) {
        r = new Random(seed);
        texts = new Texts(r);
    }

    public static void main(String[] args) {
        int runs = args.length > 0 ? Integer.parseInt(args[0]) : 1500;
        int first = args.length > 1 ? Integer.parseInt(args[1]) : 1;
        for (int seed = first; seed < first + runs; seed++) {
            RandomRunsTest t = new RandomRunsTest(seed);
            if (!t.goesWell()) {
                System.out.println("seed " + seed + ":");
                for (String s : t.told.subList(Math.max(0, t.told.size() - 60), t.told.size())) {
                    System.out.println("  " + s);
                }
                System.exit(1);
            }
        }
        System.out.println(runs + " runs answered as the model does");
    }

    private boolean goesWell() {
        begin();
        while (calls < 512 && same()) {
            call();
        }
        return same();
    }

    private boolean same = true;

    private boolean same() {
        return same;
    }

    private void due(String call, long got, long want) {
        calls++;
        told.add(call + " = " + got + (got == want ? "" : ", the model says " + want));
        same &= got == want;
    }

    private void begin() {
        int races = 1 + r.nextInt(3);
        for (int i = 0; i < races; i++) {
            race(r.nextInt(4) == 0 ? 8 : 2 + r.nextInt(7));
        }
        int books = 1 + r.nextInt(4);
        for (int i = 0; i < books; i++) {
            book(r.nextInt(3) == 0 ? r.nextInt(3000) : r.nextInt(1000001));
        }
        if (r.nextInt(20) != 0) {
            ladder();
        }
        int kept = r.nextInt(10);
        for (int b = 0; b < books; b++) {
            for (int i = 0; i < races; i++) {
                for (int h = 0; h < m.horses.get(i); h++) {
                    if (r.nextInt(10) < 6 + kept && m.a.length > 0) {
                        slate(b, i, h, r.nextInt(m.a.length));
                    }
                }
            }
        }
    }

    private void call() {
        switch (r.nextInt(36)) {
            case 0:
                now(r.nextInt(10) == 0 ? any(600) : m.second + r.nextInt(12) - 1);
                break;
            case 1:
                if (r.nextInt(8) == 0) {
                    race(any(10));
                } else if (r.nextInt(8) == 0) {
                    book(any(1000002));
                } else if (r.nextInt(8) == 0) {
                    ladder();
                } else {
                    now(m.second + r.nextInt(3));
                }
                break;
            case 2:
                way();
                break;
            case 3:
            case 4:
            case 5:
                slate(bookNo(), raceNo(), horse(), r.nextInt(5) == 0 ? any(25) : r.nextInt(Math.max(1, m.a.length)));
                break;
            case 6:
                step(bookNo(), raceNo(), horse());
                break;
            case 7:
            case 8:
            case 9:
            case 10:
            case 11:
                likelyBet();
                break;
            case 12:
            case 15:
                likelyJoined();
                break;
            case 13:
                scratch(raceNo(), horse());
                break;
            case 14:
                run();
                break;
            default:
                ask();
        }
    }

    private void ask() {
        switch (r.nextInt(17)) {
            case 0:
            case 1: {
                int b = bookNo(), i = raceNo(), h = r.nextInt(3) == 0 ? -1 : horse();
                due("balance " + b + " " + i + " " + h, x.balance(b, i, h), m.balance(b, i, h));
                break;
            }
            case 2: {
                int b = bookNo(), i = raceNo(), w = what(2);
                due("round " + b + " " + i + " " + w, x.round(b, i, w), m.round(b, i, w));
                break;
            }
            case 3: {
                int i = betNo(), w = what(2);
                due("has " + i + " " + w, x.has(i, w), m.has(i, w));
                break;
            }
            case 4: {
                int i = betNo();
                due("deduction " + i, x.deduction(i), m.deduction(i));
                break;
            }
            case 5: {
                int b = bookNo(), w = what(3);
                due("bookIs " + b + " " + w, x.bookIs(b, w), m.bookIs(b, w));
                break;
            }
            case 6: {
                int i = raceNo();
                due("sure " + i, x.sure(i), m.sure(i));
                break;
            }
            case 7: {
                int i = raceNo(), w = what(4);
                due("stood " + i + " " + w, x.stood(i, w), m.stood(i, w));
                break;
            }
            case 8: {
                int i = raceNo(), p = r.nextInt(8) == 0 ? any(3001) : 1 + r.nextInt(r.nextInt(10) == 0 ? 3000 : 200);
                int w = r.nextInt(3) == 0 ? -1 : horse();
                due("most " + i + " " + p + " " + w, x.most(i, p, w), m.most(i, p, w));
                break;
            }
            case 9:
            case 10: {
                int b = bookNo(), i = raceNo(), g = r.nextInt(8) == 0 ? any(5001) : 100 + r.nextInt(r.nextInt(5) == 0 ? 4901 : 500), w = what(4);
                due("layOff " + b + " " + i + " " + g + " " + w, x.layOff(b, i, g, w), m.layOff(b, i, g, w));
                break;
            }
            case 11: {
                int z = bettor(), i = raceNo(), h = horse(), s = stake(), n = r.nextInt(10) == 0 ? any(5) : 1 + r.nextInt(r.nextInt(4) == 0 ? 4 : 3);
                int w = r.nextInt(2) == 0 ? -1 : what(4);
                due("plan " + z + " " + i + " " + h + " " + s + " " + n + " " + w, x.plan(z, i, h, s, n, w), m.plan(z, i, h, s, n, w));
                break;
            }
            case 12: {
                int y = bettor(), z = bettor(), n = r.nextInt(10) == 0 ? any(25) : 1 + r.nextInt(3), d = gap();
                due("together " + y + " " + z + " " + n + " " + d, x.together(y, z, n, d), m.together(y, z, n, d));
                break;
            }
            case 13: {
                int y = bettor(), n = r.nextInt(10) == 0 ? any(25) : 1 + r.nextInt(3), d = gap();
                due("purse " + y + " " + n + " " + d, x.purse(y, n, d), m.purse(y, n, d));
                break;
            }
            case 14: {
                int y = bettor(), w = what(2);
                due("knew " + y + " " + w, x.knew(y, w), m.knew(y, w));
                break;
            }
            case 15: {
                int i = raceNo(), h = horse(), w = what(4);
                due("chance " + i + " " + h + " " + w, x.chance(i, h, w), m.chance(i, h, w));
                break;
            }
            default:
                if (r.nextInt(2) == 0) {
                    check();
                } else {
                    int w = r.nextInt(4) == 0 ? any(40) : r.nextInt(2) == 0 ? r.nextInt(6) : 10 + 10 * r.nextInt(3) + r.nextInt(4);
                    due("count " + w, x.count(w), m.count(w));
                }
        }
    }

    // ---- arguments, now and then wrong ones

    private int any(int below) {
        int[] wild = {-1, -2, -3, below, below + 1, Integer.MAX_VALUE, Integer.MIN_VALUE, 1 << 30, -below, 1 << 29, 1 << 28};
        return r.nextInt(2) == 0 ? r.nextInt(Math.max(1, below)) : r.nextInt(4) == 0 ? r.nextInt() : wild[r.nextInt(wild.length)];
    }

    private int one(int below) {
        return r.nextInt(40) == 0 ? any(below) : r.nextInt(Math.max(1, below));
    }

    private int bookNo() {
        return one(m.books);
    }

    private int raceNo() {
        return one(m.horses.size());
    }

    private int horse() {
        return r.nextInt(12) == 0 ? any(8) : r.nextInt(r.nextInt(2) == 0 ? 3 : 8);
    }

    private int bettor() {
        return r.nextInt(5) == 0 ? one(16) : one(4);
    }

    /** Mostly on a horse on which something stands. */
    private void likelyBet() {
        int b = bookNo(), i = raceNo(), h = horse();
        for (int k = 0; k < 6 && m.step(b, i, h) < 0; k++) {
            b = bookNo();
            i = raceNo();
            h = horse();
        }
        bet(bettor(), b, kind(), i, h, stake());
    }

    private void likelyJoined() {
        int b = bookNo();
        int[] hs = {-1, -1, -1};
        for (int i = 0; i < 3; i++) {
            for (int k = 0; k < 6 && i < m.horses.size() && m.step(b, i, hs[i]) < 0; k++) {
                hs[i] = horse();
            }
        }
        if (r.nextInt(2) == 0) {
            hs[r.nextInt(3)] = -1;
        }
        joined(bettor(), b, hs[0], hs[1], hs[2], stake());
    }

    private int kind() {
        return one(3);
    }

    private int what(int below) {
        return r.nextInt(10) == 0 ? any(below) : r.nextInt(below);
    }

    private int stake() {
        return r.nextInt(20) == 0 ? any(20001) : 1 + r.nextInt(r.nextInt(5) == 0 ? 20000 : 500);
    }

    private int gap() {
        return r.nextInt(10) == 0 ? any(600) : r.nextInt(30);
    }

    private int betNo() {
        return one(m.bets.size());
    }

    // ---- calls on both

    private void now(int to) {
        due("now " + to, x.now(to) ? 1 : 0, m.now(to));
    }

    private void race(int n) {
        due("race " + n, x.race(n), m.race(n));
    }

    private void book(int p) {
        due("book " + p, x.book(p), m.book(p));
    }

    private void feed(int[] bytes) {
        for (int from = 0; from < bytes.length; from += 20) {
            int[] w = new int[5];
            for (int i = 0; i < 20; i++) {
                w[i / 4] = w[i / 4] << 8 | (from + i < bytes.length ? bytes[from + i] & 255 : r.nextInt(256));
            }
            due("feed", x.feed(w[0], w[1], w[2], w[3], w[4]), m.feed(w));
        }
    }

    private void ladder() {
        int n = r.nextInt(3) == 0 ? 24 : 1 + r.nextInt(24);
        int long_ = r.nextInt(2);
        List<int[]> prices = new ArrayList<>();
        for (int i = 0; i < n; i++) {
            prices.add(new int[] {1 + r.nextInt(60), 1 + r.nextInt(long_ == 0 ? 12 : 3)});
        }
        prices.sort((p, q) -> p[0] * q[1] - q[0] * p[1]);
        for (int i = prices.size() - 1; i > 0; i--) {
            if (prices.get(i)[0] * prices.get(i - 1)[1] == prices.get(i - 1)[0] * prices.get(i)[1] && r.nextInt(20) != 0) {
                prices.remove(i);
            }
        }
        if (r.nextInt(10) == 0) {
            prices.get(r.nextInt(prices.size()))[r.nextInt(2)] = r.nextInt(70);
        }
        int[] bytes = new int[2 * prices.size()];
        for (int i = 0; i < bytes.length; i++) {
            bytes[i] = prices.get(i / 2)[i % 2];
        }
        feed(bytes);
        int told = r.nextInt(10) == 0 ? any(30) : prices.size();
        due("ladder " + told, x.ladder(told) ? 1 : 0, m.ladder(told));
    }

    /** Mostly, so that what is fed next stands first on the tape. */
    private void emptyTape() {
        if (!m.tape.isEmpty() && r.nextInt(4) != 0) {
            due("check 0 0", x.check(0, 0), m.check(0, 0));
        }
    }

    private void way() {
        String text = texts.any();
        emptyTape();
        int[] bytes = text.chars().toArray();
        feed(bytes);
        int b = bookNo();
        int n = r.nextInt(10) == 0 ? any(161) : bytes.length;
        due("way " + b + " " + n + " " + text, x.way(b, n), m.way(b, n));
    }

    private void slate(int b, int i, int h, int s) {
        due("slate " + b + " " + i + " " + h + " " + s, x.slate(b, i, h, s) ? 1 : 0, m.slate(b, i, h, s));
    }

    private void step(int b, int i, int h) {
        due("step " + b + " " + i + " " + h, x.step(b, i, h), m.step(b, i, h));
    }

    private void bet(int z, int b, int k, int i, int h, int s) {
        due("bet " + z + " " + b + " " + k + " " + i + " " + h + " " + s, x.bet(z, b, k, i, h, s), m.bet(z, b, k, i, h, s));
        for (int g = 0; g < 8 && b >= 0 && b < m.books && i >= 0 && i < m.horses.size(); g++) {
            if (x.step(b, i, g) != m.step(b, i, g)) {
                due("then step " + b + " " + i + " " + g, x.step(b, i, g), m.step(b, i, g));
            }
        }
    }

    private void joined(int z, int b, int h, int i, int j, int s) {
        due("joined " + z + " " + b + " " + h + " " + i + " " + j + " " + s, x.joined(z, b, h, i, j, s), m.joined(z, b, h, i, j, s));
    }

    private void scratch(int i, int h) {
        due("scratch " + i + " " + h, x.scratch(i, h) ? 1 : 0, m.scratch(i, h));
    }

    private void run() {
        if (r.nextInt(600) > calls) {
            return;
        }
        int i = raceNo();
        int won = r.nextInt(4) == 0 ? r.nextInt(256) : 1 << r.nextInt(8);
        int placed = r.nextInt(10) == 0 ? any(256) : won | 1 << r.nextInt(8) | 1 << r.nextInt(8);
        if (i >= 0 && i < m.horses.size() && r.nextInt(6) != 0) {
            int all = r.nextInt(6) == 0 ? (1 << m.horses.get(i)) - 1 : (int) m.count(10 + i);
            won &= all;
            placed &= all;
        }
        due("run " + i + " " + won + " " + placed, x.run(i, won, placed), m.run(i, won, placed));
    }

    private void check() {
        int b = bookNo();
        List<Integer> due = new ArrayList<>();
        for (int i = 0; i < m.bets.size() && due.size() < 50; i++) {
            if (m.bets.get(i).book == b && m.bets.get(i).decided) {
                due.add(i);
                due.add(m.bets.get(i).back);
            }
        }
        if (!due.isEmpty() && r.nextInt(3) == 0) {
            due.set(r.nextInt(due.size()), r.nextInt(200));
        }
        emptyTape();
        int[] bytes = new int[4 * due.size()];
        for (int i = 0; i < bytes.length; i++) {
            bytes[i] = due.get(i / 4) >> 8 * (3 - i % 4);
        }
        feed(bytes);
        int n = r.nextInt(6) == 0 ? any(30) : due.size() / 2;
        due("check " + b + " " + n, x.check(b, n), m.check(b, n));
    }
}
