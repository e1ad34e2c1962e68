import java.util.Random;

/** Random texts of ways: right ones, and such with one sign wrong. */
final class Texts {
    private static final String SIGNS = "slc(!)[]|&<>=+-*/%;0123456789hikzmqtno x";
    private final Random r;
    private int open;

    Texts(Random r) {
        this.r = r;
    }

    String any() {
        for (int i = 0; i < 100; i++) {
            StringBuilder s = new StringBuilder();
            int clauses = r.nextInt(8) == 0 ? 10 + r.nextInt(5) : 1 + r.nextInt(4);
            for (int k = 0; k < clauses; k++) {
                s.append(k > 0 ? ";" : "").append(clause(clauses > 4));
            }
            if (s.length() <= 160) {
                return r.nextInt(5) == 0 ? spoilt(s) : s.toString();
            }
        }
        return "c(1=2)";
    }

    private String spoilt(StringBuilder s) {
        int at = r.nextInt(s.length());
        char c = SIGNS.charAt(r.nextInt(SIGNS.length()));
        switch (r.nextInt(4)) {
            case 0:
                s.setCharAt(at, c);
                break;
            case 1:
                s.insert(at, c);
                break;
            case 2:
                s.deleteCharAt(at);
                break;
            default:
                s.setLength(at);
        }
        return s.length() == 0 || s.length() > 160 ? "(" : s.toString();
    }

    private String clause(boolean brief) {
        open = 1;
        char how = "slc".charAt(r.nextInt(10) == 0 ? 2 : r.nextInt(2));
        String n = how == 'c' ? "" : "" + (r.nextInt(25) == 0 ? r.nextInt(10) : 1 + r.nextInt(3));
        return how + n + "(" + (brief ? "h=" + r.nextInt(3) : condition(0)) + ")";
    }

    private String condition(int deep) {
        StringBuilder s = new StringBuilder(part(deep));
        while (r.nextInt(4) == 0) {
            s.append('|').append(part(deep));
        }
        return s.toString();
    }

    private String part(int deep) {
        StringBuilder s = new StringBuilder(piece(deep));
        while (r.nextInt(4) == 0) {
            s.append('&').append(piece(deep));
        }
        return s.toString();
    }

    private String piece(int deep) {
        if (deep < 6 && r.nextInt(6) == 0) {
            return "!" + piece(deep + 1);
        }
        if (deep < 6 && r.nextInt(6) == 0) {
            return "(" + condition(deep + 1) + ")";
        }
        return sum(deep) + "<>=".charAt(r.nextInt(3)) + sum(deep);
    }

    private String sum(int deep) {
        StringBuilder s = new StringBuilder(term(deep));
        while (r.nextInt(4) == 0) {
            s.append("+-".charAt(r.nextInt(2))).append(term(deep));
        }
        return s.toString();
    }

    private String term(int deep) {
        StringBuilder s = new StringBuilder(factor(deep));
        while (r.nextInt(4) == 0) {
            s.append("*/%".charAt(r.nextInt(3))).append(factor(deep));
        }
        return s.toString();
    }

    private String factor(int deep) {
        if (deep < 6 && r.nextInt(6) == 0) {
            return "[" + sum(deep + 1) + "]";
        }
        if (r.nextInt(3) == 0) {
            int most = r.nextInt(3) == 0 ? r.nextInt(40) == 0 ? 9999999 : 999999 : r.nextInt(2) == 0 ? 1000 : 6;
            return "" + r.nextInt(most + 1);
        }
        return "" + "hikzmqtno".charAt(r.nextInt(9));
    }
}
