/**
 * A ring of books with slates of prices, the bets on them and what is owed at each end.
 * What each call answers stands in shared/DOC.md; the words of that document are used here.
 */
public final class SlateRing {
    public static final int NONE = -1;

    private static final int SECONDS = 600;
    private static final int RACES = 3;
    private static final int HORSES = 8;
    private static final int SPOTS = RACES * HORSES;
    private static final int BOOKS = 4;
    private static final int BETTORS = 16;
    private static final int BETS = 80;
    private static final int STEPS = 24;
    private static final int CLAUSES = 12;
    private static final int OPEN_AT_ONCE = 6;
    private static final int TAPE_BYTES = 200;
    private static final int TEXT_BYTES = 160;
    private static final int PLANNED = 4;

    private static final int GREATEST_PURSE = 1000000;
    private static final int GREATEST_STAKE = 20000;
    private static final int GREATEST_GAIN_PURSE = 3000;
    private static final int LEAST_LAID = 100;
    private static final int GREATEST_LAID = 5000;
    private static final long GREATEST_BACK = 1000000000L;
    private static final int NO_BALANCE = -1000000000;
    private static final int ABOVE_ALL = 2000000000;
    private static final int NO_ANSWER = -2;

    private static final int WIN = 0;
    private static final int PLACE = 1;
    private static final int BOTH = 2;
    private static final int JOINED = 3;

    private final Tape tape;
    private final Ladder prices;
    private final Race[] races;
    private final Book[] books;
    private final Bet[] bets;
    private final Scene scene;
    private final Reader reader;
    private final Sum sum;
    private final GainHunt gains;
    private final LayOffHunt laying;
    private final PlanHunt planning;
    private final int[] shared;
    private int second;
    private int raceCount;
    private int bookCount;
    private int betCount;

    public SlateRing() {
        tape = new Tape();
        prices = new Ladder();
        races = new Race[RACES];
        books = new Book[BOOKS];
        bets = new Bet[BETS];
        scene = new Scene(prices);
        reader = new Reader(scene);
        sum = new Sum();
        gains = new GainHunt();
        laying = new LayOffHunt();
        planning = new PlanHunt();
        shared = new int[BETTORS * BETTORS];
    }

    // ---- the ring: seconds, races, books, the tape, the ladder, slates

    public boolean now(int second) {
        if (second < this.second || second >= SECONDS) {
            return false;
        }
        for (int r = 0; r < raceCount; r++) {
            Race race = raceAt(r);
            if (race != null && second > this.second && isSureNow(r)) {
                race.endSure(this.second, second - 1);
            }
        }
        this.second = second;
        return true;
    }

    public int race(int horses) {
        if (horses < 2 || horses > HORSES || raceCount >= RACES) {
            return NONE;
        }
        races[raceCount] = new Race(horses);
        raceCount++;
        return raceCount - 1;
    }

    public int book(int purse) {
        if (purse < 0 || purse > GREATEST_PURSE || bookCount >= BOOKS) {
            return NONE;
        }
        books[bookCount] = new Book(purse);
        bookCount++;
        return bookCount - 1;
    }

    public int feed(int a, int b, int c, int d, int e) {
        if (!tape.hasRoom()) {
            return NONE;
        }
        tape.put(a);
        tape.put(b);
        tape.put(c);
        tape.put(d);
        tape.put(e);
        return tape.length;
    }

    public boolean ladder(int n) {
        if (n < 1 || n > STEPS || prices.steps > 0 || !tape.give(2L * n)) {
            return false;
        }
        return prices.fill(tape, n);
    }

    public int way(int b, int n) {
        Book book = bookAt(b);
        if (book == null || n < 1 || n > TEXT_BYTES || !tape.give(n)) {
            return NONE;
        }
        int clauses = reader.read(tape.bytes, n, false);
        if (clauses > 0) {
            book.tell(tape.bytes, n, clauses);
        }
        return clauses;
    }

    public boolean slate(int b, int race, int horse, int step) {
        Book book = bookAt(b);
        Race where = raceAt(race);
        if (book == null || where == null || !where.runs(horse) || where.ended) {
            return false;
        }
        if (step != NONE && !prices.holds(step)) {
            return false;
        }
        book.steps[spot(race, horse)] = step;
        return true;
    }

    public int step(int b, int race, int horse) {
        Book book = bookAt(b);
        Race where = raceAt(race);
        if (book == null || where == null || !where.holds(horse)) {
            return NONE;
        }
        return book.steps[spot(race, horse)];
    }

    // ---- bets, scratched horses, races that are run

    public int bet(int bettor, int b, int kind, int race, int horse, int stake) {
        Book book = bookAt(b);
        if (kind < WIN || kind > BOTH || !mayBet(bettor, book, stake) || !standsOpen(book, race, horse)) {
            return NONE;
        }
        Bet made = new Bet(bettor, b, kind, stake, second);
        made.take(race, horse, book.steps[spot(race, horse)]);
        put(made, book);
        follow(made, book);
        return betCount - 1;
    }

    public int joined(int bettor, int b, int x, int y, int z, int stake) {
        Book book = bookAt(b);
        if (!mayBet(bettor, book, stake) || !mayJoin(book, 0, x) || !mayJoin(book, 1, y) || !mayJoin(book, 2, z)) {
            return NONE;
        }
        if ((x == NONE ? 0 : 1) + (y == NONE ? 0 : 1) + (z == NONE ? 0 : 1) < 2) {
            return NONE;
        }
        Bet made = new Bet(bettor, b, JOINED, stake, second);
        takeIfAny(made, book, 0, x);
        takeIfAny(made, book, 1, y);
        takeIfAny(made, book, 2, z);
        put(made, book);
        follow(made, book);
        return betCount - 1;
    }

    public boolean scratch(int race, int horse) {
        Race where = raceAt(race);
        if (where == null || !where.runs(horse) || where.ended || where.left() <= 2) {
            return false;
        }
        where.lose(horse, betCount);
        for (int b = 0; b < bookCount; b++) {
            Book book = bookAt(b);
            if (book != null) {
                book.lose(spot(race, horse));
            }
        }
        return true;
    }

    public int run(int race, int won, int placed) {
        Race where = raceAt(race);
        if (where == null || where.ended || won == 0 || (won & ~where.runners()) != 0) {
            return NONE;
        }
        if ((placed & ~where.runners()) != 0 || (won & ~placed) != 0) {
            return NONE;
        }
        where.end(won, placed);
        int decided = 0;
        for (int i = 0; i < betCount; i++) {
            Bet bet = betAt(i);
            if (bet != null && bet.horseIn(race) != NONE && allEnded(bet)) {
                decide(i, bet);
                decided++;
            }
        }
        return decided;
    }

    // ---- what is owed

    public int balance(int b, int race, int horse) {
        Book book = bookAt(b);
        Race where = raceAt(race);
        if (book == null || where == null || horse != NONE && !where.holds(horse)) {
            return NO_BALANCE;
        }
        return horse == NONE ? worst(book, where, race) : book.balanceAt(race, horse);
    }

    public long round(int b, int race, int what) {
        Book book = bookAt(b);
        if (book == null || raceAt(race) == null || what < 0 || what > 1) {
            return NONE;
        }
        sumSlate(book, race);
        sum.shorten();
        return what == 0 ? sum.above : sum.below;
    }

    public int has(int i, int what) {
        Bet bet = betAt(i);
        if (bet == null || what < 0 || what > 1) {
            return NONE;
        }
        if (!bet.decided) {
            return NO_ANSWER;
        }
        if (what == 0) {
            return bet.back;
        }
        return bet.paid ? 1 : 0;
    }

    public int deduction(int i) {
        Bet bet = betAt(i);
        if (bet == null || bet.kind == JOINED) {
            return NONE;
        }
        return deductionFrom(i, bet);
    }

    public int bookIs(int b, int what) {
        Book book = bookAt(b);
        if (book == null) {
            return NONE;
        }
        switch (what) {
            case 0:
                return book.purse;
            case 1:
                return book.over ? 1 : 0;
            case 2:
                return book.betCount;
            default:
                return NONE;
        }
    }

    // ---- slates on which together one can't lose

    public int sure(int race) {
        if (raceAt(race) == null) {
            return NONE;
        }
        return isSureNow(race) ? 1 : 0;
    }

    public int stood(int race, int what) {
        Race where = raceAt(race);
        if (where == null) {
            return NONE;
        }
        switch (what) {
            case 0:
                return where.sureSeconds;
            case 1:
                return where.firstSure;
            case 2:
                return where.lastSure;
            case 3:
                return where.longestRow;
            default:
                return NONE;
        }
    }

    public int most(int race, int purse, int what) {
        Race where = raceAt(race);
        if (where == null || where.ended || purse < 1 || purse > GREATEST_GAIN_PURSE) {
            return NONE;
        }
        if (what != NONE && !where.holds(what)) {
            return NONE;
        }
        // Only a SURE race can gain: else the stakes for any sum had back are at least that sum.
        if (!isSureNow(race)) {
            return 0;
        }
        gains.clear();
        for (int h = 0; h < where.horses; h++) {
            if (where.runs(h)) {
                int step = longest(race, h);
                gains.add(prices.aOf(step), prices.bOf(step));
            }
        }
        gains.seek(purse);
        if (what == NONE) {
            return gains.gain;
        }
        if (gains.gain == 0 || !where.runs(what)) {
            return 0;
        }
        int step = longest(race, what);
        return gains.stakeAt(prices.aOf(step), prices.bOf(step));
    }

    public int layOff(int b, int race, int greatest, int what) {
        Book own = bookAt(b);
        Race where = raceAt(race);
        if (own == null || where == null || where.ended || what < 0 || what > 3) {
            return NONE;
        }
        if (greatest < LEAST_LAID || greatest > GREATEST_LAID) {
            return NONE;
        }
        seekLayOff(b, own, race, where, greatest);
        if (laying.book == NONE) {
            return NO_ANSWER;
        }
        switch (what) {
            case 0:
                return laying.book;
            case 1:
                return laying.horse;
            case 2:
                return laying.stake;
            default:
                return laying.worst;
        }
    }

    public int plan(int bettor, int race, int horse, int stake, int n, int what) {
        Race where = raceAt(race);
        if (where == null || where.ended || !where.runs(horse) || !isBettor(bettor) || !isStake(stake)) {
            return NONE;
        }
        if (n < 1 || n > PLANNED || what < NONE || what >= n) {
            return NONE;
        }
        planning.clear();
        scene.setBettor(bettor, stake, second);
        for (int b = 0; b < bookCount; b++) {
            tryBook(b, race, horse, stake, n);
        }
        planning.seek(n);
        if (planning.most == NONE) {
            return NO_ANSWER;
        }
        return what == NONE ? planning.most : planning.bookOf(what, n);
    }

    // ---- bettors

    public int together(int x, int y, int n, int d) {
        if (!isBettor(x) || !isBettor(y) || x == y || !isCompany(n, d)) {
            return NONE;
        }
        meet(d);
        return areTogether(x, y, n) ? 1 : 0;
    }

    public int purse(int x, int n, int d) {
        if (!isBettor(x) || !isCompany(n, d)) {
            return NONE;
        }
        meet(d);
        return allWith(x, n);
    }

    public int knew(int x, int what) {
        if (!isBettor(x) || what < 0 || what > 1) {
            return NONE;
        }
        int many = 0;
        int longer = 0;
        for (int i = 0; i < betCount; i++) {
            Bet bet = betAt(i);
            if (bet != null && bet.bettor == x && isTold(bet)) {
                many++;
                if (stoodShorterAtLast(bet)) {
                    longer++;
                }
            }
        }
        return what == 0 ? many : longer;
    }

    // ---- chances, checks, counts

    public long chance(int race, int horse, int what) {
        Race where = raceAt(race);
        if (where == null || !where.runs(horse) || what < 0 || what > 3) {
            return NONE;
        }
        boolean greatest = what >= 2;
        long above = 0;
        long below = 0;
        for (int b = 0; b < bookCount; b++) {
            Book book = bookAt(b);
            if (book != null && isFull(book, where, race)) {
                sumSlate(book, race);
                sum.divideInto(prices, book.steps[spot(race, horse)]);
                int order = below == 0 ? 0 : Sum.compare(sum.above, sum.below, above, below);
                if (below == 0 || (greatest ? order > 0 : order < 0)) {
                    above = sum.above;
                    below = sum.below;
                }
            }
        }
        if (below == 0) {
            return NO_ANSWER;
        }
        return (what & 1) == 0 ? above : below;
    }

    public int check(int b, int n) {
        if (bookAt(b) == null || n < 0 || !tape.give(8L * n)) {
            return NO_ANSWER;
        }
        int place = 0;
        for (int i = 0; i < betCount; i++) {
            Bet bet = betAt(i);
            if (bet != null && bet.book == b && bet.decided) {
                if (place >= 2 * n || tape.wordAt(place) != i) {
                    return place;
                }
                if (tape.wordAt(place + 1) != bet.back) {
                    return place + 1;
                }
                place += 2;
            }
        }
        return place == 2 * n ? NONE : place;
    }

    public int count(int what) {
        switch (what) {
            case 0:
                return second;
            case 1:
                return raceCount;
            case 2:
                return bookCount;
            case 3:
                return betCount;
            case 4:
                return prices.steps;
            case 5:
                return tape.length;
            default:
                return countOfOne(what);
        }
    }

    private int countOfOne(int what) {
        if (what >= 30) {
            Book book = bookAt(what - 30);
            return book == null ? NONE : book.clauses;
        }
        Race where = raceAt(what >= 20 ? what - 20 : what - 10);
        if (where == null) {
            return NONE;
        }
        if (what >= 20) {
            return where.ended ? 1 : 0;
        }
        return where.runners();
    }

    // ---- what is there, what may be

    private Race raceAt(int race) {
        return race >= 0 && race < raceCount ? races[race] : null;
    }

    private Book bookAt(int b) {
        return b >= 0 && b < bookCount ? books[b] : null;
    }

    private Bet betAt(int i) {
        return i >= 0 && i < betCount ? bets[i] : null;
    }

    private static int spot(int race, int horse) {
        return race * HORSES + horse;
    }

    private static boolean isBettor(int bettor) {
        return bettor >= 0 && bettor < BETTORS;
    }

    private static boolean isStake(int stake) {
        return stake >= 1 && stake <= GREATEST_STAKE;
    }

    private static boolean isCompany(int n, int d) {
        return n >= 1 && n <= SPOTS && d >= 0 && d < SECONDS;
    }

    private boolean mayBet(int bettor, Book book, int stake) {
        return isBettor(bettor) && book != null && !book.over && isStake(stake) && betCount < BETS;
    }

    private boolean standsOpen(Book book, int race, int horse) {
        Race where = raceAt(race);
        if (book == null || where == null || where.ended || !where.holds(horse)) {
            return false;
        }
        return book.steps[spot(race, horse)] != NONE;
    }

    private boolean mayJoin(Book book, int race, int horse) {
        return horse == NONE || standsOpen(book, race, horse);
    }

    // ---- a bet comes

    private void takeIfAny(Bet made, Book book, int race, int horse) {
        if (horse != NONE) {
            made.take(race, horse, book.steps[spot(race, horse)]);
        }
    }

    private void put(Bet made, Book book) {
        bets[betCount] = made;
        betCount++;
        book.betCount++;
        book.purse += made.kind == BOTH ? 2 * made.stake : made.stake;
        for (int r = 0; r < RACES; r++) {
            int horse = made.horseIn(r);
            if (horse != NONE) {
                book.rides(spot(r, horse), 1);
                if (made.isToWin()) {
                    book.owes(spot(r, horse), made.stake, prices.won(made.stake, made.stepIn(r)));
                }
            }
        }
    }

    private void follow(Bet made, Book book) {
        scene.setBettor(made.bettor, made.stake, made.second);
        for (int r = 0; r < RACES; r++) {
            int horse = made.horseIn(r);
            if (horse != NONE && book.clauses > 0) {
                scene.setPlace(book, r, horse);
                reader.read(book.text, book.textLength, true);
            }
        }
    }

    // ---- a bet is decided

    private boolean allEnded(Bet bet) {
        for (int r = 0; r < RACES; r++) {
            if (bet.horseIn(r) != NONE) {
                Race race = raceAt(r);
                if (race == null || !race.ended) {
                    return false;
                }
            }
        }
        return true;
    }

    private void decide(int i, Bet bet) {
        bet.decided = true;
        bet.back = bet.kind == JOINED ? joinedBack(bet) : singleBack(i, bet);
        Book book = bookAt(bet.book);
        if (book == null || book.over) {
            return;
        }
        if (book.purse >= bet.back) {
            book.purse -= bet.back;
            bet.paid = true;
        } else {
            book.over = true;
        }
    }

    private int singleBack(int i, Bet bet) {
        Race race = raceAt(bet.race);
        if (race == null) {
            return 0;
        }
        int kept = deductionFrom(i, bet);
        int back = 0;
        if (bet.kind != PLACE) {
            back += winBack(bet, race, kept);
        }
        if (bet.kind != WIN) {
            back += placeBack(bet, race, kept);
        }
        return back;
    }

    private int winBack(Bet bet, Race race, int kept) {
        int horse = bet.horseIn(bet.race);
        if (race.isGone(horse)) {
            return bet.stake;
        }
        int winners = race.winners();
        if (!race.hasWon(horse) || winners < 1) {
            return 0;
        }
        int stake = bet.stake / winners;
        return stake + rest(prices.won(stake, bet.stepIn(bet.race)), kept);
    }

    private int placeBack(Bet bet, Race race, int kept) {
        int horse = bet.horseIn(bet.race);
        int runners = race.left();
        if (runners < 5 || race.isGone(horse)) {
            return bet.stake;
        }
        if (!race.isPlaced(horse)) {
            return 0;
        }
        int step = bet.stepIn(bet.race);
        int won = bet.stake * prices.aOf(step) / (prices.bOf(step) * (runners >= 8 ? 5 : 4));
        return bet.stake + rest(won, kept);
    }

    private static int rest(int won, int kept) {
        return won * (100 - kept) / 100;
    }

    private int joinedBack(Bet bet) {
        int stake = bet.stake;
        long times = 1;
        int through = 1;
        for (int r = 0; r < RACES; r++) {
            int horse = bet.horseIn(r);
            Race race = raceAt(r);
            if (horse != NONE && race != null && !race.isGone(horse)) {
                int winners = race.winners();
                if (!race.hasWon(horse) || winners < 1) {
                    return 0;
                }
                int step = bet.stepIn(r);
                stake /= winners;
                times *= prices.aOf(step) + prices.bOf(step);
                through *= prices.bOf(step);
            }
        }
        return (int) Math.min(stake * times / Math.max(through, 1), GREATEST_BACK);
    }

    private int deductionFrom(int i, Bet bet) {
        Race race = raceAt(bet.race);
        Book book = bookAt(bet.book);
        if (race == null || book == null) {
            return 0;
        }
        int all = 0;
        for (int h = 0; h < race.horses; h++) {
            if (h != bet.horseIn(bet.race) && race.wentBehind(h, i)) {
                int step = book.lastSteps[spot(bet.race, h)];
                if (step != NONE) {
                    all += 100 * prices.bOf(step) / prices.wholeOf(step) / 5 * 5;
                }
            }
        }
        return Math.min(all, 75);
    }

    // ---- slates and ends

    private void sumSlate(Book book, int race) {
        sum.clear();
        for (int h = 0; h < HORSES; h++) {
            int step = book.steps[spot(race, h)];
            if (step != NONE) {
                sum.add(prices.bOf(step), prices.wholeOf(step));
            }
        }
    }

    private static boolean isFull(Book book, Race where, int race) {
        for (int h = 0; h < where.horses; h++) {
            if (where.runs(h) && book.steps[spot(race, h)] == NONE) {
                return false;
            }
        }
        return true;
    }

    private static int worst(Book book, Race where, int race) {
        int least = ABOVE_ALL;
        for (int h = 0; h < where.horses; h++) {
            if (where.runs(h)) {
                least = Math.min(least, book.balanceAt(race, h));
            }
        }
        return least;
    }

    private int longest(int race, int horse) {
        int step = NONE;
        for (int b = 0; b < bookCount; b++) {
            Book book = bookAt(b);
            if (book != null && !book.over) {
                step = Math.max(step, book.steps[spot(race, horse)]);
            }
        }
        return step;
    }

    private boolean isSureNow(int race) {
        Race where = raceAt(race);
        if (where == null || where.ended) {
            return false;
        }
        sum.clear();
        for (int h = 0; h < where.horses; h++) {
            if (where.runs(h)) {
                int step = longest(race, h);
                if (step == NONE) {
                    return false;
                }
                sum.add(prices.bOf(step), prices.wholeOf(step));
            }
        }
        return sum.above < sum.below;
    }

    // ---- laying off and plans

    private void seekLayOff(int b, Book own, int race, Race where, int greatest) {
        laying.start(own, where, race);
        for (int stake = LEAST_LAID; stake <= greatest; stake += LEAST_LAID) {
            for (int other = 0; other < bookCount; other++) {
                Book with = bookAt(other);
                if (with != null && other != b && !with.over) {
                    layWith(other, with, race, where, stake);
                }
            }
        }
    }

    private void layWith(int other, Book with, int race, Race where, int stake) {
        for (int h = 0; h < where.horses; h++) {
            int step = with.steps[spot(race, h)];
            if (step != NONE) {
                laying.offer(other, h, stake, prices.won(stake, step));
            }
        }
    }

    /** A book's way asks for nothing of other books, so each is tried alone, bet behind bet. */
    private void tryBook(int b, int race, int horse, int stake, int n) {
        Book book = bookAt(b);
        if (book == null || book.over) {
            return;
        }
        int spot = spot(race, horse);
        int all = 0;
        int bets = 0;
        planning.keep(book, race);
        scene.setPlace(book, race, horse);
        while (bets < n && book.steps[spot] != NONE) {
            int won = prices.won(stake, book.steps[spot]);
            all += won;
            bets++;
            planning.note(b, bets, all);
            book.rides(spot, 1);
            book.owes(spot, stake, won);
            if (book.clauses > 0) {
                reader.read(book.text, book.textLength, true);
            }
        }
        book.rides(spot, -bets);
        book.owes(spot, -bets * stake, -all);
        planning.giveBack(book, race);
    }

    // ---- who bets together, who knew

    /** Of each two bettors the horses on which they bet near each other, as bits. */
    private void meet(int d) {
        for (int i = 0; i < shared.length; i++) {
            shared[i] = 0;
        }
        for (int i = 0; i < betCount; i++) {
            for (int j = 0; j < i; j++) {
                Bet later = betAt(i);
                Bet former = betAt(j);
                if (later != null && former != null && later.isNear(former, d)) {
                    share(later.bettor, former.bettor, spot(later.race, later.horseIn(later.race)));
                }
            }
        }
    }

    private void share(int x, int y, int spot) {
        if (isBettor(x) && isBettor(y) && spot >= 0 && spot < SPOTS) {
            shared[x * BETTORS + y] |= 1 << spot;
            shared[y * BETTORS + x] |= 1 << spot;
        }
    }

    private boolean areTogether(int x, int y, int n) {
        return x != y && Integer.bitCount(shared[x * BETTORS + y]) >= n;
    }

    /** Each turn takes in who is together with one taken in before: 15 turns reach all. */
    private int allWith(int x, int n) {
        int all = 1 << x;
        for (int turn = 1; turn < BETTORS; turn++) {
            int before = all;
            for (int y = 0; y < BETTORS; y++) {
                if ((before >> y & 1) != 0) {
                    all |= nextTo(y, n);
                }
            }
        }
        return all;
    }

    private int nextTo(int y, int n) {
        int near = 0;
        for (int z = 0; z < BETTORS; z++) {
            if (areTogether(y, z, n)) {
                near |= 1 << z;
            }
        }
        return near;
    }

    private boolean isTold(Bet bet) {
        Race race = raceAt(bet.race);
        return bet.isToWin() && race != null && race.ended && !race.isGone(bet.horseIn(bet.race));
    }

    private boolean stoodShorterAtLast(Bet bet) {
        Book book = bookAt(bet.book);
        int horse = bet.horseIn(bet.race);
        if (book == null || horse == NONE) {
            return false;
        }
        int last = book.steps[spot(bet.race, horse)];
        return last != NONE && bet.stepIn(bet.race) > last;
    }

    /** The bytes that feed brought; who takes of them leaves it empty. */
    private static final class Tape {
        private final int[] bytes;
        private int length;

        private Tape() {
            bytes = new int[TAPE_BYTES];
        }

        private boolean hasRoom() {
            return length + 20 <= TAPE_BYTES;
        }

        private void put(int word) {
            for (int shift = 24; shift >= 0 && length < TAPE_BYTES; shift -= 8) {
                bytes[length] = (word >>> shift) & 255;
                length++;
            }
        }

        /** The bytes given stay where they are until the next feed, so that none is copied. */
        private boolean give(long wanted) {
            if (wanted > length) {
                return false;
            }
            length = 0;
            return true;
        }

        private int byteAt(int i) {
            return i >= 0 && i < TAPE_BYTES ? bytes[i] : 0;
        }

        private int wordAt(int i) {
            int word = 0;
            for (int k = 0; k < 4; k++) {
                word = word << 8 | byteAt(4 * i + k);
            }
            return word;
        }
    }

    /** The prices, a through b, the shortest first. */
    private static final class Ladder {
        private final int[] a;
        private final int[] b;
        private int steps;

        private Ladder() {
            a = new int[STEPS];
            b = new int[STEPS];
        }

        /** Steps are counted only when all prices are so: till then none of them can be seen. */
        private boolean fill(Tape tape, int n) {
            for (int i = 0; i < n && i < STEPS; i++) {
                a[i] = tape.byteAt(2 * i);
                b[i] = tape.byteAt(2 * i + 1);
                if (a[i] < 1 || a[i] > 60 || b[i] < 1 || b[i] > 12) {
                    return false;
                }
                if (i > 0 && a[i] * b[i - 1] <= a[i - 1] * b[i]) {
                    return false;
                }
            }
            steps = n;
            return true;
        }

        private boolean holds(int step) {
            return step >= 0 && step < steps && step < STEPS;
        }

        private int aOf(int step) {
            return holds(step) ? a[step] : 0;
        }

        private int bOf(int step) {
            return holds(step) ? b[step] : 1;
        }

        private int wholeOf(int step) {
            return aOf(step) + bOf(step);
        }

        private int won(int stake, int step) {
            return stake * aOf(step) / bOf(step);
        }
    }

    /** The horses of a race, how it ended, and in which seconds one couldn't lose. */
    private static final class Race {
        private final int horses;
        private final int[] betsBefore;
        private int gone;
        private boolean ended;
        private int won;
        private int placed;
        private int sureSeconds;
        private int firstSure;
        private int lastSure;
        private int row;
        private int longestRow;

        private Race(int horses) {
            this.horses = horses;
            betsBefore = new int[HORSES];
            firstSure = NONE;
            lastSure = NONE;
        }

        private boolean holds(int horse) {
            return horse >= 0 && horse < horses;
        }

        private boolean isGone(int horse) {
            return holds(horse) && (gone >> horse & 1) != 0;
        }

        private boolean runs(int horse) {
            return holds(horse) && !isGone(horse);
        }

        private int all() {
            return (1 << horses) - 1;
        }

        private int runners() {
            return all() & ~gone;
        }

        private int left() {
            return Integer.bitCount(runners());
        }

        private void lose(int horse, int betCount) {
            if (holds(horse)) {
                gone |= 1 << horse;
                betsBefore[horse] = betCount;
            }
        }

        /** Whether a horse was scratched behind the bet of this number. */
        private boolean wentBehind(int horse, int bet) {
            return isGone(horse) && bet < betsBefore[horse];
        }

        private void end(int won, int placed) {
            this.won = won;
            this.placed = placed;
            ended = true;
        }

        private int winners() {
            return Integer.bitCount(won);
        }

        private boolean hasWon(int horse) {
            return holds(horse) && (won >> horse & 1) != 0;
        }

        private boolean isPlaced(int horse) {
            return holds(horse) && (placed >> horse & 1) != 0;
        }

        private void endSure(int first, int last) {
            int many = last - first + 1;
            row = lastSure != NONE && lastSure == first - 1 ? row + many : many;
            longestRow = Math.max(longestRow, row);
            sureSeconds += many;
            if (firstSure == NONE) {
                firstSure = first;
            }
            lastSure = last;
        }
    }

    /** A purse, a slate with what is owed on each horse of it, and the way that moves it. */
    private static final class Book {
        private int purse;
        private boolean over;
        private int betCount;
        private final int[] steps;
        private final int[] lastSteps;
        private final int[] stakes;
        private final int[] raceStakes;
        private final int[] backs;
        private final int[] riders;
        private final int[] text;
        private int textLength;
        private int clauses;

        private Book(int purse) {
            this.purse = purse;
            steps = new int[SPOTS];
            lastSteps = new int[SPOTS];
            for (int i = 0; i < SPOTS; i++) {
                steps[i] = NONE;
                lastSteps[i] = NONE;
            }
            stakes = new int[SPOTS];
            raceStakes = new int[RACES];
            backs = new int[SPOTS];
            riders = new int[SPOTS];
            text = new int[TEXT_BYTES];
        }

        private void tell(int[] bytes, int n, int clauses) {
            if (bytes == null || n < 0 || n > TEXT_BYTES || n > bytes.length) {
                return;
            }
            System.arraycopy(bytes, 0, text, 0, n);
            textLength = n;
            this.clauses = clauses;
        }

        private void rides(int spot, int many) {
            if (spot >= 0 && spot < SPOTS) {
                riders[spot] += many;
            }
        }

        private void owes(int spot, int stake, int won) {
            if (spot >= 0 && spot < SPOTS) {
                stakes[spot] += stake;
                raceStakes[spot / HORSES] += stake;
                backs[spot] += stake + won;
            }
        }

        /** A scratched horse's bets stand aside from its race's balance for good. */
        private void lose(int spot) {
            if (spot >= 0 && spot < SPOTS) {
                lastSteps[spot] = steps[spot];
                steps[spot] = NONE;
                raceStakes[spot / HORSES] -= stakes[spot];
                stakes[spot] = 0;
                backs[spot] = 0;
            }
        }

        private int stakesOf(int race) {
            return race >= 0 && race < RACES ? raceStakes[race] : 0;
        }

        private int balanceAt(int race, int horse) {
            int spot = race * HORSES + horse;
            if (race < 0 || race >= RACES || spot < 0 || spot >= SPOTS) {
                return 0;
            }
            return raceStakes[race] - backs[spot];
        }
    }

    /** A bet as it was made, and how it ended. */
    private static final class Bet {
        private final int bettor;
        private final int book;
        private final int kind;
        private final int stake;
        private final int second;
        private final int[] horses;
        private final int[] steps;
        private int race;
        private boolean decided;
        private boolean paid;
        private int back;

        private Bet(int bettor, int book, int kind, int stake, int second) {
            this.bettor = bettor;
            this.book = book;
            this.kind = kind;
            this.stake = stake;
            this.second = second;
            horses = new int[] {NONE, NONE, NONE};
            steps = new int[] {NONE, NONE, NONE};
        }

        private void take(int race, int horse, int step) {
            if (race >= 0 && race < RACES) {
                this.race = race;
                horses[race] = horse;
                steps[race] = step;
            }
        }

        private int horseIn(int race) {
            return race >= 0 && race < RACES ? horses[race] : NONE;
        }

        private int stepIn(int race) {
            return race >= 0 && race < RACES ? steps[race] : NONE;
        }

        private boolean isToWin() {
            return kind == WIN || kind == BOTH;
        }

        /** Whether both are to win on one horse, at most so many seconds apart. */
        private boolean isNear(Bet other, int d) {
            if (!isToWin() || !other.isToWin() || race != other.race || horseIn(race) != other.horseIn(race)) {
                return false;
            }
            return Math.abs(second - other.second) <= d;
        }
    }

    /** What a way's letters stand for and what its clauses move: a bet's horse on its book's slate. */
    private static final class Scene {
        private final Ladder prices;
        private Book book;
        private int race;
        private int horse;
        private int bettor;
        private int stake;
        private int second;

        private Scene(Ladder prices) {
            this.prices = prices;
        }

        private void setBettor(int bettor, int stake, int second) {
            this.bettor = bettor;
            this.stake = stake;
            this.second = second;
        }

        private void setPlace(Book book, int race, int horse) {
            this.book = book;
            this.race = race;
            this.horse = horse;
        }

        private static boolean isLetter(int sign) {
            switch (sign) {
                case 'h':
                case 'i':
                case 'k':
                case 'z':
                case 'm':
                case 'q':
                case 't':
                case 'n':
                case 'o':
                    return true;
                default:
                    return false;
            }
        }

        private long valueOf(int letter) {
            int spot = race * HORSES + horse;
            if (book == null || spot < 0 || spot >= SPOTS) {
                return 0;
            }
            switch (letter) {
                case 'h':
                    return horse;
                case 'i':
                    return book.steps[spot] == NONE ? STEPS : book.steps[spot];
                case 'k':
                    return stake;
                case 'z':
                    return bettor;
                case 'm':
                    return second;
                case 'q':
                    return -book.balanceAt(race, horse);
                case 't':
                    return book.stakesOf(race);
                case 'n':
                    return book.riders[spot];
                default:
                    return thousandths();
            }
        }

        /** Eight wholes of 72 at most: a thousand times what is above still fits. */
        private long thousandths() {
            long above = 0;
            long below = 1;
            for (int spot = race * HORSES; spot >= 0 && spot < SPOTS && spot < race * HORSES + HORSES; spot++) {
                int step = book.steps[spot];
                if (step >= 0 && step < prices.steps) {
                    int whole = prices.a[step] + prices.b[step];
                    above = above * whole + below * prices.b[step];
                    below *= whole;
                }
            }
            return below > 0 ? 1000 * above / below : 0;
        }

        private void move(int clause, int n) {
            int spot = race * HORSES + horse;
            if (book == null || spot < 0 || spot >= SPOTS) {
                return;
            }
            if (clause == 'l') {
                lengthenOthers(n);
            } else if (clause == 'c') {
                book.steps[spot] = NONE;
            } else if (book.steps[spot] != NONE) {
                book.steps[spot] = Math.max(book.steps[spot] - n, 0);
            }
        }

        private void lengthenOthers(int n) {
            for (int spot = race * HORSES; spot >= 0 && spot < SPOTS && spot < race * HORSES + HORSES; spot++) {
                if (spot != race * HORSES + horse && book.steps[spot] != NONE) {
                    book.steps[spot] = Math.min(book.steps[spot] + n, prices.steps - 1);
                }
            }
        }
    }

    /** Reads the text of a way, for its first fault or to do what it says in a scene. */
    private static final class Reader {
        private static final int END = -1;
        private static final int CANT_STAND = 1;
        private static final int SEVENTH_DIGIT = 2;
        private static final int NO_STEPS = 3;
        private static final int CLAUSE_TOO_MANY = 4;
        private static final int OPEN_TOO_DEEP = 5;

        private final Scene scene;
        private int[] text;
        private int length;
        private int at;
        private int sign;
        private int open;
        private int fault;
        private boolean asking;
        private boolean refused;

        private Reader(Scene scene) {
            this.scene = scene;
        }

        /** How many clauses there are, or the fault: -1000 times its number, less its place. */
        private int read(int[] text, int length, boolean doing) {
            this.text = text;
            this.length = length;
            fault = 0;
            at = -1;
            advance();
            int clauses = 0;
            for (int i = 0; i <= CLAUSES && fault == 0 && (i == 0 || sign != END); i++) {
                if (i > 0) {
                    pass(';');
                }
                clause(i, doing);
                clauses++;
            }
            return fault == 0 ? clauses : -1000 * fault - at;
        }

        private void advance() {
            at++;
            sign = text != null && at >= 0 && at < length && at < text.length ? text[at] : END;
        }

        private void fail(int number) {
            if (fault == 0) {
                fault = number;
            }
        }

        /** Nothing moves on behind a fault, so that its place stays. */
        private void pass(int due) {
            if (fault != 0) {
                return;
            }
            if (sign != due) {
                fail(CANT_STAND);
            } else {
                advance();
            }
        }

        private void openOne() {
            if (fault != 0) {
                return;
            }
            if (open >= OPEN_AT_ONCE) {
                fail(OPEN_TOO_DEEP);
            } else {
                open++;
                advance();
            }
        }

        private void clause(int number, boolean doing) {
            int letter = sign;
            if (fault == 0 && letter != 's' && letter != 'l' && letter != 'c') {
                fail(CANT_STAND);
            }
            if (fault == 0 && number >= CLAUSES) {
                fail(CLAUSE_TOO_MANY);
            }
            if (fault != 0) {
                return;
            }
            advance();
            int n = letter == 'c' ? 0 : stepsToMove();
            if (fault == 0 && sign != '(') {
                fail(CANT_STAND);
            }
            open = 0;
            asking = doing;
            refused = false;
            openOne();
            boolean holds = condition();
            pass(')');
            open--;
            if (doing && fault == 0 && holds && !refused) {
                scene.move(letter, n);
            }
        }

        private int stepsToMove() {
            int n = sign - '0';
            if (n < 0 || n > 9) {
                fail(CANT_STAND);
            } else if (n == 0) {
                fail(NO_STEPS);
            } else {
                advance();
            }
            return n;
        }

        /** What doesn't matter any more is read but not asked: nothing in it can be refused. */
        private boolean condition() {
            boolean holds = part();
            for (int i = 0; i < TEXT_BYTES && fault == 0 && sign == '|'; i++) {
                boolean asked = asking;
                advance();
                asking = asked && !holds;
                boolean next = part();
                asking = asked;
                holds = holds || next;
            }
            return holds;
        }

        private boolean part() {
            boolean holds = piece();
            for (int i = 0; i < TEXT_BYTES && fault == 0 && sign == '&'; i++) {
                boolean asked = asking;
                advance();
                asking = asked && holds;
                boolean next = piece();
                asking = asked;
                holds = holds && next;
            }
            return holds;
        }

        private boolean piece() {
            if (fault != 0) {
                return false;
            }
            boolean holds;
            if (sign == '!') {
                openOne();
                holds = !piece();
                open--;
                return holds;
            }
            if (sign == '(') {
                openOne();
                holds = condition();
                pass(')');
                open--;
                return holds;
            }
            long left = expression();
            int how = sign;
            if (how != '<' && how != '>' && how != '=') {
                fail(CANT_STAND);
            }
            if (fault != 0) {
                return false;
            }
            advance();
            long right = expression();
            if (how == '<') {
                return left < right;
            }
            return how == '>' ? left > right : left == right;
        }

        private long expression() {
            long value = term();
            for (int i = 0; i < TEXT_BYTES && fault == 0 && (sign == '+' || sign == '-'); i++) {
                int how = sign;
                advance();
                long next = term();
                value = how == '+' ? value + next : value - next;
            }
            return value;
        }

        private long term() {
            long value = factor();
            for (int i = 0; i < TEXT_BYTES && fault == 0 && (sign == '*' || sign == '/' || sign == '%'); i++) {
                int how = sign;
                advance();
                long next = factor();
                if (how == '*') {
                    value *= next;
                } else if (next == 0) {
                    refused = refused || asking;
                } else {
                    value = how == '/' ? value / next : value % next;
                }
            }
            return value;
        }

        private long factor() {
            if (fault != 0) {
                return 0;
            }
            long value = 0;
            if (sign == '[') {
                openOne();
                value = expression();
                pass(']');
                open--;
            } else if (sign >= '0' && sign <= '9') {
                value = number();
            } else if (Scene.isLetter(sign)) {
                value = asking && !refused ? scene.valueOf(sign) : 0;
                advance();
            } else {
                fail(CANT_STAND);
            }
            return value;
        }

        private long number() {
            long value = 0;
            for (int i = 0; i < 6 && sign >= '0' && sign <= '9'; i++) {
                value = 10 * value + sign - '0';
                advance();
            }
            if (sign >= '0' && sign <= '9') {
                fail(SEVENTH_DIGIT);
            }
            return value;
        }
    }

    /** A sum of chances, each b through (a and b), or what one of them is of it. */
    private static final class Sum {
        private long above;
        private long below;

        private void clear() {
            above = 0;
            below = 1;
        }

        /** Eight wholes of 72 at most: nothing here leaves 64 bits. */
        private void add(int b, int whole) {
            above = above * whole + below * b;
            below *= whole;
        }

        private void shorten() {
            long divisor = greatestDivisor(above, below);
            if (divisor > 1) {
                above /= divisor;
                below /= divisor;
            }
        }

        /** One price's chance through this sum, which holds that chance, so its whole divides it. */
        private void divideInto(Ladder prices, int step) {
            int whole = Math.max(prices.wholeOf(step), 1);
            long part = below / whole * prices.bOf(step);
            below = above;
            above = part;
            shorten();
        }

        private static long greatestDivisor(long x, long y) {
            long big = x;
            long small = y;
            for (int i = 0; i < 200 && small != 0; i++) {
                long rest = big % small;
                big = small;
                small = rest;
            }
            return big;
        }

        /** Through whole parts and turned-round rests, as the products across would not fit. */
        private static int compare(long above, long below, long otherAbove, long otherBelow) {
            long p = above;
            long q = below;
            long r = otherAbove;
            long s = otherBelow;
            for (int i = 0; i < 200 && q > 0 && s > 0; i++) {
                long mine = p / q;
                long other = r / s;
                if (mine != other) {
                    return mine < other ? -1 : 1;
                }
                long myRest = p - mine * q;
                long otherRest = r - other * s;
                p = s;
                r = q;
                q = otherRest;
                s = myRest;
            }
            return Long.compare(q == 0 ? 1 : 0, s == 0 ? 1 : 0);
        }
    }

    /** The stakes on all horses of a race by which most is gained whichever wins. */
    private static final class GainHunt {
        private final int[] a;
        private final int[] b;
        private final int[] stakes;
        private final int[] backs;
        private int horses;
        private int gain;
        private int level;

        private GainHunt() {
            a = new int[HORSES];
            b = new int[HORSES];
            stakes = new int[HORSES];
            backs = new int[HORSES];
        }

        private void clear() {
            horses = 0;
            gain = 0;
            level = 0;
        }

        private void add(int a, int b) {
            if (horses < HORSES) {
                this.a[horses] = a;
                this.b[horses] = Math.max(b, 1);
                horses++;
            }
        }

        /** Lifts the least that is had back, penny by penny of stakes: the first of like gains costs least. */
        private void seek(int purse) {
            int spent = 0;
            for (int h = 0; h < horses && h < HORSES; h++) {
                lift(h, 1);
                spent++;
            }
            for (int i = 0; i < GREATEST_GAIN_PURSE && spent <= purse; i++) {
                int least = least();
                if (least - spent > gain) {
                    gain = least - spent;
                    level = least;
                }
                for (int h = 0; h < horses && h < HORSES; h++) {
                    if (backs[h] == least) {
                        lift(h, stakes[h] + 1);
                        spent++;
                    }
                }
            }
        }

        private void lift(int h, int stake) {
            stakes[h] = stake;
            backs[h] = stake + stake * a[h] / Math.max(b[h], 1);
        }

        private int least() {
            int least = ABOVE_ALL;
            for (int h = 0; h < horses && h < HORSES; h++) {
                least = Math.min(least, backs[h]);
            }
            return least;
        }

        /** The least stake by which the level is had back at this price. */
        private int stakeAt(int a, int b) {
            int whole = Math.max(a + b, 1);
            return (level * b + whole - 1) / whole;
        }
    }

    /** The bet with another book that lifts the worst of a book's balance most. */
    private static final class LayOffHunt {
        private final int[] balances;
        private int least;
        private int leastAt;
        private int nextLeast;
        private int book;
        private int horse;
        private int stake;
        private int worst;

        private LayOffHunt() {
            balances = new int[HORSES];
        }

        private void start(Book own, Race where, int race) {
            book = NONE;
            leastAt = NONE;
            nextLeast = ABOVE_ALL;
            worst = ABOVE_ALL;
            for (int h = 0; h < where.horses && h < HORSES; h++) {
                if (where.runs(h)) {
                    balances[h] = own.balanceAt(race, h);
                    if (balances[h] < worst) {
                        nextLeast = worst;
                        worst = balances[h];
                        leastAt = h;
                    } else {
                        nextLeast = Math.min(nextLeast, balances[h]);
                    }
                }
            }
            least = worst;
        }

        /** Offers come by stakes, books and horses, so the first of like ones stays. */
        private void offer(int book, int horse, int stake, int won) {
            if (horse < 0 || horse >= HORSES) {
                return;
            }
            int others = (horse == leastAt ? nextLeast : least) - stake;
            int then = Math.min(balances[horse] + won, others);
            if (then > worst) {
                worst = then;
                this.book = book;
                this.horse = horse;
                this.stake = stake;
            }
        }
    }

    /** The row of books by which bets one behind the other would win most. */
    private static final class PlanHunt {
        private final int[] wonBy;
        private final int[] keptSteps;
        private int most;
        private int row;

        private PlanHunt() {
            wonBy = new int[BOOKS * (PLANNED + 1)];
            keptSteps = new int[HORSES];
        }

        private void clear() {
            for (int i = 0; i < wonBy.length; i++) {
                wonBy[i] = i % (PLANNED + 1) == 0 ? 0 : NONE;
            }
        }

        private void note(int book, int bets, int won) {
            int i = book * (PLANNED + 1) + bets;
            if (i >= 0 && i < wonBy.length) {
                wonBy[i] = won;
            }
        }

        private void keep(Book book, int race) {
            if (race >= 0 && race < RACES) {
                System.arraycopy(book.steps, race * HORSES, keptSteps, 0, HORSES);
            }
        }

        private void giveBack(Book book, int race) {
            if (race >= 0 && race < RACES) {
                System.arraycopy(keptSteps, 0, book.steps, race * HORSES, HORSES);
            }
        }

        /** A row is a number with two bits a bet, the first highest: the least row comes first. */
        private void seek(int n) {
            most = NONE;
            for (int i = 0; n <= PLANNED && i < 1 << 2 * n; i++) {
                int won = wonByRow(i, n);
                if (won > most) {
                    most = won;
                    row = i;
                }
            }
        }

        private int wonByRow(int row, int n) {
            int bets = 0;
            for (int i = 0; i < n; i++) {
                bets += 1 << 4 * (row >> 2 * i & 3);
            }
            int all = 0;
            for (int b = 0; b < BOOKS; b++) {
                int i = b * (PLANNED + 1) + (bets >> 4 * b & 15);
                int won = i >= 0 && i < wonBy.length ? wonBy[i] : NONE;
                if (won == NONE) {
                    return NONE;
                }
                all += won;
            }
            return all;
        }

        private int bookOf(int bet, int n) {
            return row >> 2 * (n - 1 - bet) & 3;
        }
    }
}
