import java.math.BigInteger;
import java.util.ArrayList;
import java.util.List;

/** Does what a way without a fault says: texts are cut at the signs that stand in no brackets. */
final class Ways {
    private static final class Refused extends RuntimeException {
        private static final long serialVersionUID = 1L;
    }

    private final Model m;
    private final Model.Bet bet;
    private final int race;

    private Ways(Model m, Model.Bet bet, int race) {
        this.m = m;
        this.bet = bet;
        this.race = race;
    }

    static void follow(Model m, String text, Model.Bet bet, int race) {
        Ways w = new Ways(m, bet, race);
        for (String clause : text.split(";")) {
            int from = clause.indexOf('(');
            boolean holds;
            try {
                holds = w.condition(clause.substring(from + 1, clause.length() - 1));
            } catch (Refused r) {
                holds = false;
            }
            if (holds) {
                w.move(clause.charAt(0), from == 2 ? clause.charAt(1) - '0' : 0);
            }
        }
    }

    private void move(char how, int n) {
        int[] row = m.slate[bet.book][race];
        int h = bet.horse[race];
        if (how == 'c') {
            row[h] = -1;
        }
        if (how == 's' && row[h] >= 0) {
            row[h] = Math.max(0, row[h] - n);
        }
        for (int g = 0; how == 'l' && g < 8; g++) {
            if (g != h && row[g] >= 0) {
                row[g] = Math.min(m.a.length - 1, row[g] + n);
            }
        }
    }

    /** The pieces of a text between such signs, the signs at the head of all but the first. */
    private static List<String> cut(String text, String signs) {
        List<String> all = new ArrayList<>();
        int deep = 0, from = 0;
        for (int i = 0; i < text.length(); i++) {
            char c = text.charAt(i);
            deep += c == '(' || c == '[' ? 1 : c == ')' || c == ']' ? -1 : 0;
            if (deep == 0 && signs.indexOf(c) >= 0) {
                all.add(text.substring(from, i));
                from = i;
            }
        }
        all.add(text.substring(from));
        return all;
    }

    private static String rest(String s, int i) {
        return i == 0 ? s : s.substring(1);
    }

    private boolean condition(String text) {
        List<String> parts = cut(text, "|");
        for (int i = 0; i < parts.size(); i++) {
            if (part(rest(parts.get(i), i))) {
                return true;
            }
        }
        return false;
    }

    private boolean part(String text) {
        List<String> pieces = cut(text, "&");
        for (int i = 0; i < pieces.size(); i++) {
            if (!piece(rest(pieces.get(i), i))) {
                return false;
            }
        }
        return true;
    }

    private boolean piece(String text) {
        if (text.charAt(0) == '!') {
            return !piece(text.substring(1));
        }
        if (text.charAt(0) == '(') {
            return condition(text.substring(1, text.length() - 1));
        }
        List<String> sides = cut(text, "<>=");
        int order = Long.compare(sum(sides.get(0)), sum(sides.get(1).substring(1)));
        return "<=>".charAt(order + 1) == sides.get(1).charAt(0);
    }

    private long sum(String text) {
        List<String> terms = cut(text, "+-");
        long all = term(terms.get(0));
        for (int i = 1; i < terms.size(); i++) {
            long one = term(terms.get(i).substring(1));
            all += terms.get(i).charAt(0) == '+' ? one : -one;
        }
        return all;
    }

    private long term(String text) {
        List<String> factors = cut(text, "*/%");
        long all = factor(factors.get(0));
        for (int i = 1; i < factors.size(); i++) {
            long one = factor(factors.get(i).substring(1));
            char how = factors.get(i).charAt(0);
            if (how != '*' && one == 0) {
                throw new Refused();
            }
            all = how == '*' ? all * one : how == '/' ? all / one : all % one;
        }
        return all;
    }

    private long factor(String text) {
        char c = text.charAt(0);
        if (c == '[') {
            return sum(text.substring(1, text.length() - 1));
        }
        if (c >= '0' && c <= '9') {
            return Long.parseLong(text);
        }
        int h = bet.horse[race];
        switch (c) {
            case 'h':
                return h;
            case 'i':
                return m.slate[bet.book][race][h] < 0 ? 24 : m.slate[bet.book][race][h];
            case 'k':
                return bet.stake;
            case 'z':
                return bet.bettor;
            case 'm':
                return m.second;
            case 'q':
                return -m.balance(bet.book, race, h);
            case 't':
                return m.bets.stream().filter(x -> x.book == bet.book && x.toWin() && x.horse[race] >= 0
                        && !m.gone(race, x.horse[race])).mapToLong(x -> x.stake).sum();
            case 'n':
                return m.bets.stream().filter(x -> x.book == bet.book && x.horse[race] == h).count();
            default:
                BigInteger[] round = m.roundOf(bet.book, race);
                return round[0].multiply(BigInteger.valueOf(1000)).divide(round[1]).longValueExact();
        }
    }
}
