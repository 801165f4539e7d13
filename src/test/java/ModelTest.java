import java.util.NoSuchElementException;
import java.util.Random;

/** Random runs of calls, each answered by the class and by the model; all that can be asked is compared. */
public final class ModelTest {
    private static final int RUNS = 400;
    private static final int CALLS = 500;
    private static final int[] ODD = {-1, 10, 11, 100, -100, Integer.MAX_VALUE, Integer.MIN_VALUE, 1 << 16, 73, 61};

    private final Random random;
    private final int seed;
    private final PurringHolds x = new PurringHolds();
    private final Model m = new Model();
    private String call;
    private long got;
    private long want;

    private ModelTest(int seed) {
        this.seed = seed;
        this.random = new Random(seed);
    }

    public static void main(String[] args) {
        for (int seed = 1; seed <= RUNS; seed++) {
            if (!new ModelTest(seed).runs()) {
                System.exit(1);
            }
        }
    }

    private boolean runs() {
        for (int i = 0; i < CALLS; i++) {
            one(random.nextInt(i < 60 ? 60 : 54));
            if (got != want || !sameState()) {
                System.out.println("seed " + seed + ", call " + i + ": " + call + " answered " + got + ", due is " + want);
                return false;
            }
        }
        return true;
    }

    private int upTo(int most) {
        return random.nextInt(12) == 0 ? ODD[random.nextInt(ODD.length)] : random.nextInt(most + 1);
    }

    private int anArch() {
        return upTo(Math.max(0, m.w.arches.size() - 1));
    }

    private int aCat() {
        return upTo(Math.max(0, m.w.cats.size() - 1));
    }

    private void write(String signs) {
        Due.write(x, signs);
        m.text.setLength(0);
        m.text.append(signs);
    }

    private String spoilt(String s) {
        if (random.nextInt(6) != 0) {
            return s;
        }
        StringBuilder b = new StringBuilder(s);
        String signs = ";0195jbgklsn+-*/<>=()fpx~ \u00e9";
        int p = random.nextInt(b.length() + 1);
        char sign = signs.charAt(random.nextInt(signs.length()));
        switch (random.nextInt(3)) {
            case 0: b.insert(p, sign); break;
            case 1: b.setLength(p); break;
            default: b.replace(p, Math.min(p + 1, b.length()), String.valueOf(sign)); break;
        }
        return b.toString();
    }

    private String lines(int most, int digits) {
        StringBuilder b = new StringBuilder();
        int n = random.nextInt(most + 1);
        for (int i = 0; i < n; i++) {
            b.append(i > 0 ? ";" : "");
            for (int d = 0; d < digits; d++) {
                boolean where = digits == 3 && d == 2;
                b.append(random.nextInt(where ? Math.max(1, m.w.arches.size()) : 10));
            }
        }
        return spoilt(b.toString());
    }

    private String expression(int depth) {
        String all = "jbgklsn";
        StringBuilder b = new StringBuilder();
        int terms = 1 + random.nextInt(3);
        boolean compared = false;
        for (int i = 0; i < terms; i++) {
            if (i > 0) {
                boolean compares = !compared && random.nextInt(4) == 0;
                compared |= compares;
                String ops = compares ? "<>=" : "+-*/";
                b.append(ops.charAt(random.nextInt(ops.length())));
            }
            b.append(random.nextInt(4) == 0 ? "-" : "").append(random.nextInt(9) == 0 ? "--" : "");
            int kind = random.nextInt(6);
            if (kind == 0 && depth < 5) {
                b.append('(').append(expression(depth + 1)).append(')');
            } else if (kind < 3) {
                b.append(random.nextInt(random.nextBoolean() ? 10 : random.nextInt(5) == 0 ? 1100 : 100));
            } else {
                b.append(all.charAt(random.nextInt(all.length())));
            }
        }
        return b.toString();
    }

    private String ruleText() {
        switch (random.nextInt(5)) {
            case 0: return spoilt("");
            case 1: return spoilt("((((j))))-g");
            default: return spoilt(clipped(expression(0)));
        }
    }

    private static String clipped(String s) {
        return s.length() > 76 ? s.substring(0, 76) : s;
    }

    private String nightText() {
        StringBuilder b = new StringBuilder();
        int n = random.nextInt(8) == 0 ? 25 : random.nextInt(6);
        for (int i = 0; i < n; i++) {
            char kind = "nfpgsl".charAt(random.nextInt(6));
            b.append(kind);
            int cats = Math.max(1, m.w.cats.size());
            int arches = Math.max(1, m.w.arches.size());
            switch (kind) {
                case 'n': b.append(random.nextInt(10)); break;
                case 'p': b.append(random.nextInt(cats)); break;
                case 's': b.append(random.nextInt(cats)).append(random.nextInt(arches)); break;
                case 'l': b.append(random.nextInt(arches)).append(random.nextInt(10)); break;
                default: b.append(random.nextInt(cats)).append(1 + random.nextInt(4)); break;
            }
        }
        return spoilt(b.toString());
    }

    private String trainsText() {
        StringBuilder b = new StringBuilder();
        int n = random.nextInt(22);
        for (int i = 0; i < n; i++) {
            b.append(random.nextInt(10));
        }
        return spoilt(b.toString());
    }

    private void answered(String name, long answer, long due) {
        call = name;
        got = answer;
        want = due;
    }

    private void answered(String name, boolean answer, boolean due) {
        answered(name, answer ? 1 : 0, due ? 1 : 0);
    }

    private void one(int which) {
        if (which < 18) {
            changes(which);
        } else if (which < 34) {
            asks(which);
        } else if (which < 54) {
            asksMore(which);
        } else {
            builds(which);
        }
    }

    private void builds(int which) {
        if (which < 56) {
            write(lines(which == 54 ? 6 : 3, 1));
            answered("arches()", x.arches(), m.arches());
        } else if (which < 58) {
            write(lines(which == 56 ? 8 : 3, 3));
            answered("cats()", x.cats(), m.cats());
        } else {
            String s = ruleText();
            write(s);
            answered("rule() of " + s, x.rule(), m.rule());
        }
    }

    private void changes(int which) {
        int a = anArch();
        int c = aCat();
        int n = upTo(10);
        switch (which) {
            case 0: n = upTo(60); answered("hours " + n, x.hours(n), m.hours(n)); break;
            case 1: n = upTo(5); answered("hours " + n, x.hours(n), m.hours(n)); break;
            case 2: answered("feeds " + c + " " + n, x.feeds(c, n), m.feeds(c, n)); break;
            case 3: answered("pets " + c, x.pets(c), m.pets(c)); break;
            case 4: answered("grieves " + c + " " + n, x.grieves(c, n), m.grieves(c, n)); break;
            case 5: case 6: answered("sets " + c + " " + a, x.sets(c, a), m.sets(c, a)); break;
            case 7: case 8: answered("loads " + a + " " + n, x.loads(a, n), m.loads(a, n)); break;
            case 9: case 10: {
                String s = nightText();
                write(s);
                answered("night of " + s, x.night(), m.night());
                break;
            }
            case 11: case 12: answered("undo", x.undo(), m.undo()); break;
            case 13: n = random.nextInt(3); answered("keep " + n, x.keep(n), m.keep(n)); break;
            case 14: n = random.nextInt(4) - 1; answered("again " + n, x.again(n), m.again(n)); break;
            case 15: sheets(); break;
            case 16: n = random.nextInt(); answered("sign " + n, x.sign(n), m.sign(n)); break;
            default: n = upTo(80); answered("end " + n, x.end(n), m.end(n)); break;
        }
    }

    private void sheets() {
        int kind = random.nextInt(5);
        int n = random.nextInt(9) - 1;
        int f = random.nextBoolean() ? random.nextInt() : random.nextInt(12);
        int step = random.nextBoolean() ? random.nextInt() : random.nextInt(7) - 3;
        answered("sheet " + kind + " " + n + " " + f + " " + step, x.sheet(kind, n, f, step), m.sheet(kind, n, f, step));
    }

    private void asks(int which) {
        int a = anArch();
        int c = aCat();
        int n = upTo(99);
        int v = upTo(9);
        switch (which) {
            case 18: answered("holds", x.holds(), m.holds()); break;
            case 19: answered("later " + a + " " + n, x.later(a, n), m.later(a, n)); break;
            case 20: answered("when " + a + " " + v, x.when(a, v), m.when(a, v)); break;
            case 21: answered("down", x.down(), m.down()); break;
            case 22: answered("safe", x.safe(), m.safe()); break;
            case 23: answered("loudest " + n, x.loudest(n), m.loudest(n)); break;
            case 24: answered("weakest", x.weakest(), m.weakest()); break;
            case 25: answered("trades", x.trades(), m.trades()); break;
            case 26: answered("needs " + a, x.needs(a), m.needs(a)); break;
            case 27:
                if (random.nextInt(8) == 0) {
                    answered("guards", x.guards(), m.guards());
                }
                break;
            case 28: n = upTo(31); answered("best " + c + " " + n, x.best(c, n), m.best(c, n)); break;
            case 29: n = upTo(31); answered("cheers " + n, x.cheers(n), m.cheers(n)); break;
            case 30: {
                String s = trainsText();
                write(s);
                answered("bears of " + s + " " + a, x.bears(a), m.bears(a));
                break;
            }
            case 31: answered("trolley " + a, x.trolley(a), m.trolley(a)); break;
            case 32: answered("depot", x.depot(), m.depot()); break;
            default: answered("spreads " + c + " " + v, x.spreads(c, v), m.spreads(c, v)); break;
        }
    }

    /** Mostly what an arch holds, with one of its cats silent or none, so that some cats fit. */
    private int likelyHold(int arch) {
        if (!m.w.hasArch(arch) || random.nextInt(4) == 0) {
            return upTo(72);
        }
        int c = random.nextInt(m.w.cats.size() + 1);
        boolean in = m.w.hasCat(c) && m.w.cats.get(c).arch == arch;
        return m.w.hold(arch) - (in ? m.w.purr(c) : 0);
    }

    private void asksMore(int which) {
        int a = anArch();
        int n = upTo(11);
        switch (which) {
            case 34: {
                int h = likelyHold(a);
                answered("felt " + a + " " + h, x.felt(a, h), m.felt(a, h));
                break;
            }
            case 35:
                if (random.nextInt(3) == 0) {
                    answered("forget", x.forget(), m.forget());
                }
                break;
            case 36: answered("fits", x.fits(), m.fits()); break;
            case 37: case 38: answered("feels", x.feels(), m.feels()); break;
            case 39: {
                int what = upTo(5);
                int v = upTo(random.nextBoolean() ? 1 : 9);
                answered("heard " + what + " " + v, x.heard(what, v), m.heard(what, v));
                break;
            }
            case 40: answered("denies", x.denies(), m.denies()); break;
            case 41: answered("suits", x.suits(), m.suits()); break;
            case 42: case 43: answered("asks", x.asks(), m.asks()); break;
            case 44: case 45: answered("odds " + a + " " + n, x.odds(a, n), m.odds(a, n)); break;
            case 46: case 47: answered("stands " + n, x.stands(n), m.stands(n)); break;
            case 48: n = upTo(41); answered("litters " + n, x.litters(n), m.litters(n)); break;
            case 49: n = upTo(19); answered("rests " + n, x.rests(n), m.rests(n)); break;
            case 50: case 51: {
                String s = ruleText();
                write(s);
                answered("law of " + s, x.law(), m.law());
                break;
            }
            default: {
                int seeded = random.nextInt();
                n = upTo(61);
                answered("years " + seeded + " " + n, x.years(seeded, n), m.years(seeded, n));
                break;
            }
        }
    }

    private boolean sameState() {
        for (int what = -1; what <= 14; what++) {
            if (x.count(what) != m.count(what)) {
                System.out.println("count(" + what + ") answered " + x.count(what) + ", due is " + m.count(what));
                return false;
            }
        }
        return sameCells() && sameRow();
    }

    private boolean sameCells() {
        for (int i = -1; i <= 8; i++) {
            for (int what = -1; what <= 5; what++) {
                if (archOf(i, what) != m.arch(i, what) || catOf(i, what) != m.cat(i, what)) {
                    System.out.println("arch or cat " + i + " differs in " + what);
                    return false;
                }
            }
        }
        return true;
    }

    private int archOf(int i, int what) {
        try {
            return x.arch(i, what);
        } catch (NoSuchElementException e) {
            return -1000;
        }
    }

    private int catOf(int i, int what) {
        try {
            return x.cat(i, what);
        } catch (NoSuchElementException e) {
            return -1000;
        }
    }

    private boolean sameRow() {
        for (int i = 0; i < m.row.size(); i++) {
            if (x.row(i) != m.row.get(i)) {
                System.out.println("row(" + i + ") answered " + x.row(i) + ", due is " + m.row.get(i));
                return false;
            }
        }
        return true;
    }
}
