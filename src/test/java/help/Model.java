import java.math.BigInteger;
import java.util.ArrayList;
import java.util.List;

/**
 * The document once more, as plainly and slowly as can be: all is reckoned from what was told,
 * fractions are of big numbers, and what is sought is sought among all there is.
 */
final class Model {
    static final class Bet {
        int bettor, book, kind, stake, second;
        int[] horse = {-1, -1, -1};
        int[] step = {-1, -1, -1};
        boolean decided, paid;
        int back;

        boolean toWin() {
            return kind == 0 || kind == 2;
        }

        int race() {
            return horse[0] >= 0 ? 0 : horse[1] >= 0 ? 1 : 2;
        }
    }

    static final class Lost {
        int race, horse, bets;
        int[] step = {-1, -1, -1, -1};
    }

    static final BigInteger ONE = BigInteger.ONE;

    int second;
    List<Integer> horses = new ArrayList<>();
    List<Integer> tape = new ArrayList<>();
    int[] a = new int[0], b = new int[0];
    int books;
    int[] purse = new int[4];
    boolean[] over = new boolean[4];
    int[][][] slate = new int[4][3][8];
    String[] text = {"", "", "", ""};
    List<Bet> bets = new ArrayList<>();
    List<Lost> lost = new ArrayList<>();
    boolean[] ended = new boolean[3];
    int[] won = new int[3], placed = new int[3];
    boolean[][] wasSure = new boolean[3][600];

    Model() {
        for (int[][] book : slate) {
            for (int[] row : book) {
                java.util.Arrays.fill(row, -1);
            }
        }
    }

    Model copy() {
        Model m = new Model();
        m.second = second;
        m.horses.addAll(horses);
        m.a = a;
        m.b = b;
        m.books = books;
        m.purse = purse.clone();
        m.over = over.clone();
        for (int i = 0; i < 4; i++) {
            for (int r = 0; r < 3; r++) {
                m.slate[i][r] = slate[i][r].clone();
            }
        }
        m.text = text.clone();
        m.bets.addAll(bets);
        m.lost.addAll(lost);
        m.ended = ended.clone();
        m.won = won;
        m.placed = placed;
        return m;
    }

    boolean isRace(int r) {
        return 0 <= r && r < horses.size();
    }

    boolean isBook(int k) {
        return 0 <= k && k < books;
    }

    boolean isHorse(int r, int h) {
        return isRace(r) && 0 <= h && h < horses.get(r);
    }

    boolean gone(int r, int h) {
        return lost.stream().anyMatch(l -> l.race == r && l.horse == h);
    }

    List<Integer> left(int r) {
        List<Integer> all = new ArrayList<>();
        for (int h = 0; h < horses.get(r); h++) {
            if (!gone(r, h)) {
                all.add(h);
            }
        }
        return all;
    }

    // ---- the calls

    long now(int to) {
        if (to < 0 || to > 599 || to < second) {
            return 0;
        }
        for (; second < to; second++) {
            for (int r = 0; r < horses.size(); r++) {
                wasSure[r][second] = sure(r) == 1;
            }
        }
        return 1;
    }

    long race(int n) {
        if (n < 2 || n > 8 || horses.size() == 3) {
            return -1;
        }
        horses.add(n);
        return horses.size() - 1;
    }

    long book(int p) {
        if (p < 0 || p > 1000000 || books == 4) {
            return -1;
        }
        purse[books] = p;
        return books++;
    }

    long feed(int... words) {
        if (tape.size() + 20 > 200) {
            return -1;
        }
        for (int w : words) {
            tape.add(w >>> 24);
            tape.add(w >> 16 & 255);
            tape.add(w >> 8 & 255);
            tape.add(w & 255);
        }
        return tape.size();
    }

    /** The first n bytes, of at least so many; the tape is empty then. */
    List<Integer> take(int n) {
        List<Integer> first = new ArrayList<>(tape.subList(0, n));
        tape.clear();
        return first;
    }

    long ladder(int n) {
        if (n < 1 || n > 24 || a.length > 0 || tape.size() < 2 * n) {
            return 0;
        }
        List<Integer> t = take(2 * n);
        int[] as = new int[n], bs = new int[n];
        for (int i = 0; i < n; i++) {
            as[i] = t.get(2 * i);
            bs[i] = t.get(2 * i + 1);
            if (as[i] < 1 || as[i] > 60 || bs[i] < 1 || bs[i] > 12) {
                return 0;
            }
            if (i > 0 && (long) as[i - 1] * bs[i] >= (long) as[i] * bs[i - 1]) {
                return 0;
            }
        }
        a = as;
        b = bs;
        return 1;
    }

    long way(int k, int n) {
        if (!isBook(k) || n < 1 || n > 160 || tape.size() < n) {
            return -1;
        }
        List<Integer> t = take(n);
        int fault = Faults.of(t);
        if (fault != 0) {
            return fault;
        }
        StringBuilder s = new StringBuilder();
        for (int c : t) {
            s.append((char) c);
        }
        text[k] = s.toString();
        return clauses(k);
    }

    int clauses(int k) {
        return text[k].isEmpty() ? 0 : text[k].split(";").length;
    }

    long slate(int k, int r, int h, int step) {
        if (!isBook(k) || !isHorse(r, h) || step < -1 || step >= a.length || gone(r, h) || ended[r]) {
            return 0;
        }
        slate[k][r][h] = step;
        return 1;
    }

    long step(int k, int r, int h) {
        return isBook(k) && isHorse(r, h) ? slate[k][r][h] : -1;
    }

    long bet(int bettor, int k, int kind, int r, int h, int stake) {
        if (kind < 0 || kind > 2 || !isHorse(r, h)) {
            return -1;
        }
        int[] hs = {-1, -1, -1};
        hs[r] = h;
        return place(bettor, k, kind, hs, stake, 80);
    }

    long joined(int bettor, int k, int x, int y, int z, int stake) {
        int[] hs = {x, y, z};
        int many = 0;
        for (int r = 0; r < 3; r++) {
            if (hs[r] != -1) {
                many++;
                if (!isHorse(r, hs[r])) {
                    return -1;
                }
            }
        }
        return many < 2 ? -1 : place(bettor, k, 3, hs, stake, 80);
    }

    long place(int bettor, int k, int kind, int[] hs, int stake, int room) {
        if (bettor < 0 || bettor > 15 || !isBook(k) || over[k] || stake < 1 || stake > 20000 || bets.size() >= room) {
            return -1;
        }
        Bet made = new Bet();
        for (int r = 0; r < 3; r++) {
            if (hs[r] >= 0) {
                if (ended[r] || slate[k][r][hs[r]] < 0) {
                    return -1;
                }
                made.horse[r] = hs[r];
                made.step[r] = slate[k][r][hs[r]];
            }
        }
        made.bettor = bettor;
        made.book = k;
        made.kind = kind;
        made.stake = stake;
        made.second = second;
        bets.add(made);
        purse[k] += kind == 2 ? 2 * stake : stake;
        for (int r = 0; r < 3; r++) {
            if (hs[r] >= 0 && !text[k].isEmpty()) {
                Ways.follow(this, text[k], made, r);
            }
        }
        return bets.size() - 1;
    }

    long scratch(int r, int h) {
        if (!isHorse(r, h) || gone(r, h) || ended[r] || left(r).size() <= 2) {
            return 0;
        }
        Lost l = new Lost();
        l.race = r;
        l.horse = h;
        l.bets = bets.size();
        for (int k = 0; k < books; k++) {
            l.step[k] = slate[k][r][h];
            slate[k][r][h] = -1;
        }
        lost.add(l);
        return 1;
    }

    long run(int r, int w, int p) {
        if (!isRace(r) || ended[r] || w == 0 || (w & p) != w) {
            return -1;
        }
        for (int h = 0; h < 32; h++) {
            if ((p >> h & 1) == 1 && (!isHorse(r, h) || gone(r, h))) {
                return -1;
            }
        }
        ended[r] = true;
        won[r] = w;
        placed[r] = p;
        int many = 0;
        for (int i = 0; i < bets.size(); i++) {
            Bet bet = bets.get(i);
            boolean all = bet.horse[r] >= 0;
            for (int q = 0; q < 3; q++) {
                all &= bet.horse[q] < 0 || ended[q];
            }
            if (all) {
                many++;
                bet.decided = true;
                bet.back = back(i);
                if (!over[bet.book] && purse[bet.book] < bet.back) {
                    over[bet.book] = true;
                }
                if (!over[bet.book]) {
                    purse[bet.book] -= bet.back;
                    bet.paid = true;
                }
            }
        }
        return many;
    }

    int back(int i) {
        Bet bet = bets.get(i);
        if (bet.kind == 3) {
            return joinedBack(bet);
        }
        int r = bet.race();
        int h = bet.horse[r];
        int deduction = (int) deduction(i);
        int back = 0;
        if (bet.kind != 1) {
            if (gone(r, h)) {
                back += bet.stake;
            } else if ((won[r] >> h & 1) == 1) {
                int s = bet.stake / Integer.bitCount(won[r]);
                back += s + s * a[bet.step[r]] / b[bet.step[r]] * (100 - deduction) / 100;
            }
        }
        if (bet.kind != 0) {
            int left = left(r).size();
            if (left < 5 || gone(r, h)) {
                back += bet.stake;
            } else if ((placed[r] >> h & 1) == 1) {
                int under = b[bet.step[r]] * (left < 8 ? 4 : 5);
                back += bet.stake + bet.stake * a[bet.step[r]] / under * (100 - deduction) / 100;
            }
        }
        return back;
    }

    int joinedBack(Bet bet) {
        BigInteger above = ONE, below = ONE;
        int stake = bet.stake;
        for (int r = 0; r < 3; r++) {
            int h = bet.horse[r];
            if (h >= 0 && !gone(r, h)) {
                if ((won[r] >> h & 1) == 0) {
                    return 0;
                }
                stake /= Integer.bitCount(won[r]);
                above = above.multiply(BigInteger.valueOf(a[bet.step[r]] + b[bet.step[r]]));
                below = below.multiply(BigInteger.valueOf(b[bet.step[r]]));
            }
        }
        return BigInteger.valueOf(stake).multiply(above).divide(below).min(BigInteger.valueOf(1000000000)).intValue();
    }

    long deduction(int i) {
        if (i < 0 || i >= bets.size() || bets.get(i).kind == 3) {
            return -1;
        }
        Bet bet = bets.get(i);
        int all = 0;
        for (Lost l : lost) {
            if (l.race == bet.race() && l.horse != bet.horse[l.race] && i < l.bets && l.step[bet.book] >= 0) {
                int s = l.step[bet.book];
                int one = 100 * b[s] / (a[s] + b[s]);
                all += one - one % 5;
            }
        }
        return Math.min(75, all);
    }

    long balance(int k, int r, int h) {
        if (!isBook(k) || !isRace(r) || h != -1 && !isHorse(r, h)) {
            return -1000000000;
        }
        if (h == -1) {
            return left(r).stream().mapToLong(x -> balance(k, r, x)).min().getAsLong();
        }
        long all = 0;
        for (Bet bet : bets) {
            if (bet.book == k && bet.toWin() && bet.horse[r] >= 0 && !gone(r, bet.horse[r])) {
                all += bet.stake;
                if (bet.horse[r] == h) {
                    all -= bet.stake + bet.stake * a[bet.step[r]] / b[bet.step[r]];
                }
            }
        }
        return all;
    }

    BigInteger[] add(BigInteger[] x, BigInteger p, BigInteger q) {
        return shorten(x[0].multiply(q).add(p.multiply(x[1])), x[1].multiply(q));
    }

    BigInteger[] shorten(BigInteger p, BigInteger q) {
        BigInteger g = p.gcd(q);
        return new BigInteger[] {p.divide(g), q.divide(g)};
    }

    BigInteger[] roundOf(int k, int r) {
        BigInteger[] all = {BigInteger.ZERO, ONE};
        for (int h = 0; h < 8; h++) {
            int s = slate[k][r][h];
            if (s >= 0) {
                all = add(all, BigInteger.valueOf(b[s]), BigInteger.valueOf(a[s] + b[s]));
            }
        }
        return all;
    }

    long round(int k, int r, int what) {
        if (!isBook(k) || !isRace(r) || what < 0 || what > 1) {
            return -1;
        }
        return roundOf(k, r)[what].longValueExact();
    }

    long has(int i, int what) {
        if (i < 0 || i >= bets.size() || what < 0 || what > 1) {
            return -1;
        }
        Bet bet = bets.get(i);
        return !bet.decided ? -2 : what == 0 ? bet.back : bet.paid ? 1 : 0;
    }

    long bookIs(int k, int what) {
        if (!isBook(k) || what < 0 || what > 2) {
            return -1;
        }
        return what == 0 ? purse[k] : what == 1 ? (over[k] ? 1 : 0) : bets.stream().filter(x -> x.book == k).count();
    }

    int longest(int r, int h) {
        int most = -1;
        for (int k = 0; k < books; k++) {
            if (!over[k]) {
                most = Math.max(most, slate[k][r][h]);
            }
        }
        return most;
    }

    long sure(int r) {
        if (!isRace(r)) {
            return -1;
        }
        BigInteger[] all = {BigInteger.ZERO, ONE};
        for (int h : left(r)) {
            int s = longest(r, h);
            if (s < 0) {
                return 0;
            }
            all = add(all, BigInteger.valueOf(b[s]), BigInteger.valueOf(a[s] + b[s]));
        }
        return !ended[r] && all[0].compareTo(all[1]) < 0 ? 1 : 0;
    }

    long stood(int r, int what) {
        if (!isRace(r) || what < 0 || what > 3) {
            return -1;
        }
        int many = 0, first = -1, last = -1, row = 0, most = 0;
        for (int s = 0; s < second; s++) {
            if (wasSure[r][s]) {
                many++;
                first = first < 0 ? s : first;
                last = s;
                row++;
                most = Math.max(most, row);
            } else {
                row = 0;
            }
        }
        return new int[] {many, first, last, most}[what];
    }

    long most(int r, int p, int what) {
        if (!isRace(r) || ended[r] || p < 1 || p > 3000 || what != -1 && !isHorse(r, what)) {
            return -1;
        }
        List<Integer> left = left(r);
        for (int h : left) {
            if (longest(r, h) < 0) {
                return 0;
            }
        }
        int gain = 0, spent = 0, level = 0;
        for (int back = 1;; back++) {
            int all = 0;
            for (int h : left) {
                all += least(back, longest(r, h));
            }
            if (all > p) {
                break;
            }
            if (back - all > gain || back - all == gain && gain > 0 && all < spent) {
                gain = back - all;
                spent = all;
                level = back;
            }
        }
        if (what == -1) {
            return gain;
        }
        return gain == 0 || gone(r, what) ? 0 : least(level, longest(r, what));
    }

    /** The least stake that has so much back. */
    int least(int back, int s) {
        int stake = (int) ((long) back * b[s] / (a[s] + b[s]));
        while (stake + stake * a[s] / b[s] < back) {
            stake++;
        }
        return stake;
    }

    long layOff(int k, int r, int greatest, int what) {
        if (!isBook(k) || !isRace(r) || ended[r] || greatest < 100 || greatest > 5000 || what < 0 || what > 3) {
            return -1;
        }
        long[] best = {-2, -2, -2, balance(k, r, -1)};
        for (int stake = 100; stake <= greatest; stake += 100) {
            for (int other = 0; other < books; other++) {
                for (int h = 0; h < horses.get(r); h++) {
                    int s = slate[other][r][h];
                    if (other != k && !over[other] && s >= 0) {
                        long worst = Long.MAX_VALUE;
                        for (int end : left(r)) {
                            long back = end == h ? stake + stake * a[s] / b[s] : 0;
                            worst = Math.min(worst, balance(k, r, end) + back - stake);
                        }
                        if (worst > best[3]) {
                            best = new long[] {other, h, stake, worst};
                        }
                    }
                }
            }
        }
        return best[0] == -2 ? -2 : best[what];
    }

    long plan(int bettor, int r, int h, int stake, int n, int what) {
        if (bettor < 0 || bettor > 15 || !isHorse(r, h) || ended[r] || gone(r, h)) {
            return -1;
        }
        if (stake < 1 || stake > 20000 || n < 1 || n > 4 || what < -1 || what >= n) {
            return -1;
        }
        long most = -2;
        int best = 0;
        for (int row = 0; row < Math.pow(10, n); row++) {
            String digits = String.format("%0" + n + "d", row);
            long won = wonBy(digits, bettor, r, h, stake);
            if (won > most) {
                most = won;
                best = Integer.parseInt(digits);
            }
        }
        if (most == -2) {
            return -2;
        }
        return what == -1 ? most : String.format("%0" + n + "d", best).charAt(what) - '0';
    }

    long wonBy(String digits, int bettor, int r, int h, int stake) {
        for (char d : digits.toCharArray()) {
            if (d - '0' >= books) {
                return -2;
            }
        }
        Model m = copy();
        long won = 0;
        for (char d : digits.toCharArray()) {
            int k = d - '0';
            int s = m.slate[k][r][h];
            int[] hs = {-1, -1, -1};
            hs[r] = h;
            if (m.place(bettor, k, 0, hs, stake, 1000) < 0) {
                return -2;
            }
            won += stake * a[s] / b[s];
        }
        return won;
    }

    long together(int x, int y, int n, int d) {
        if (x < 0 || x > 15 || y < 0 || y > 15 || x == y || n < 1 || n > 24 || d < 0 || d > 599) {
            return -1;
        }
        int many = 0;
        for (int r = 0; r < horses.size(); r++) {
            for (int h = 0; h < 8; h++) {
                if (near(x, y, r, h, d)) {
                    many++;
                }
            }
        }
        return many >= n ? 1 : 0;
    }

    boolean near(int x, int y, int r, int h, int d) {
        for (Bet p : bets) {
            for (Bet q : bets) {
                if (p.bettor == x && q.bettor == y && p.toWin() && q.toWin() && p.horse[r] == h && q.horse[r] == h
                        && Math.abs(p.second - q.second) <= d) {
                    return true;
                }
            }
        }
        return false;
    }

    long purse(int x, int n, int d) {
        if (x < 0 || x > 15 || n < 1 || n > 24 || d < 0 || d > 599) {
            return -1;
        }
        List<Integer> all = new ArrayList<>(List.of(x));
        for (int i = 0; i < all.size(); i++) {
            for (int y = 0; y < 16; y++) {
                if (!all.contains(y) && together(all.get(i), y, n, d) == 1) {
                    all.add(y);
                }
            }
        }
        return all.stream().mapToInt(y -> 1 << y).sum();
    }

    long knew(int x, int what) {
        if (x < 0 || x > 15 || what < 0 || what > 1) {
            return -1;
        }
        int many = 0, longer = 0;
        for (Bet bet : bets) {
            int r = bet.race();
            if (bet.bettor == x && bet.toWin() && ended[r] && !gone(r, bet.horse[r])) {
                many++;
                int last = slate[bet.book][r][bet.horse[r]];
                longer += last >= 0 && bet.step[r] > last ? 1 : 0;
            }
        }
        return what == 0 ? many : longer;
    }

    long chance(int r, int h, int what) {
        if (!isHorse(r, h) || gone(r, h) || what < 0 || what > 3) {
            return -1;
        }
        BigInteger[] best = null;
        for (int k = 0; k < books; k++) {
            int at = k;
            if (left(r).stream().allMatch(x -> slate[at][r][x] >= 0)) {
                BigInteger[] all = roundOf(k, r);
                int s = slate[k][r][h];
                BigInteger[] one = shorten(all[1].multiply(BigInteger.valueOf(b[s])), all[0].multiply(BigInteger.valueOf(a[s] + b[s])));
                int order = best == null ? 0 : one[0].multiply(best[1]).compareTo(best[0].multiply(one[1]));
                if (best == null || (what < 2 ? order < 0 : order > 0)) {
                    best = one;
                }
            }
        }
        return best == null ? -2 : best[what % 2].longValueExact();
    }

    long check(int k, int n) {
        if (!isBook(k) || n < 0 || tape.size() < 8L * n) {
            return -2;
        }
        List<Integer> t = take(8 * n);
        List<Integer> due = new ArrayList<>();
        for (int i = 0; i < bets.size(); i++) {
            if (bets.get(i).book == k && bets.get(i).decided) {
                due.add(i);
                due.add(bets.get(i).back);
            }
        }
        for (int i = 0; i < 2 * n; i++) {
            int number = t.get(4 * i) << 24 | t.get(4 * i + 1) << 16 | t.get(4 * i + 2) << 8 | t.get(4 * i + 3);
            if (i >= due.size() || due.get(i) != number) {
                return i;
            }
        }
        return due.size() == 2 * n ? -1 : 2 * n;
    }

    long count(int what) {
        int[] first = {second, horses.size(), books, bets.size(), a.length, tape.size()};
        if (what >= 0 && what <= 5) {
            return first[what];
        }
        if (what >= 10 && isRace(what - 10)) {
            return left(what - 10).stream().mapToInt(h -> 1 << h).sum();
        }
        if (what >= 20 && isRace(what - 20)) {
            return ended[what - 20] ? 1 : 0;
        }
        return what >= 30 && isBook(what - 30) ? clauses(what - 30) : -1;
    }
}
