import java.lang.reflect.Method;
import java.util.NoSuchElementException;

/** Counts and prints answers that are not as due. */
final class Due {
    /** A call that may throw. */
    interface Call {
        long answer();
    }

    private int asked;
    private int wrong;
    private String test = "";

    void is(String what, long got, long want) {
        asked++;
        if (got != want) {
            wrong++;
            System.out.println(test + what + " answered " + got + ", due is " + want);
        }
    }

    void yes(String what, boolean got) {
        is(what, got ? 1 : 0, 1);
    }

    void no(String what, boolean got) {
        is(what, got ? 1 : 0, 0);
    }

    /** An answer and the ROW behind it. */
    void tells(String what, PurringHolds x, long got, long want, long... row) {
        is(what, got, want);
        row(what, x, row);
    }

    void row(String what, PurringHolds x, long... row) {
        is(what + " numbers of the row", x.count(12), row.length);
        for (int i = 0; i < row.length && i < x.count(12); i++) {
            is(what + " row " + i, x.row(i), row[i]);
        }
    }

    void nothingSuch(String what, Call call) {
        asked++;
        try {
            long got = call.answer();
            wrong++;
            System.out.println(test + what + " answered " + got + ", due is NoSuchElementException");
        } catch (NoSuchElementException e) {
            return;
        }
    }

    /** A refused call, or another that changes nothing at all. */
    void stays(String what, Alike.Act act, long want) {
        PurringHolds x = Alike.busy();
        is(what, Alike.answer(act, x), want);
        alike(what, Alike.all(x), Alike.all(Alike.busy()));
    }

    /** A call that reads THE TEXT and changes nothing but it. */
    void staysButText(String what, Alike.Act act, long want) {
        PurringHolds x = Alike.busy();
        is(what, Alike.answer(act, x), want);
        PurringHolds y = Alike.busy();
        y.end(0);
        alike(what, Alike.all(x), Alike.all(y));
    }

    /** A question: it may tell a ROW. */
    void asksAlone(String what, Alike.Act act, long want) {
        PurringHolds x = Alike.busy();
        is(what, Alike.answer(act, x), want);
        alike(what, Alike.allButRow(x), Alike.allButRow(Alike.busy()));
    }

    /** The same acts otherwise told: all is alike behind them, the ROW too. */
    void same(String what, Alike.Act act, Alike.Act other) {
        PurringHolds x = Alike.busy();
        PurringHolds y = Alike.busy();
        Alike.answer(act, x);
        Alike.answer(other, y);
        alike(what, Alike.all(x), Alike.all(y));
    }

    private void alike(String what, String got, String want) {
        asked++;
        if (!got.equals(want)) {
            wrong++;
            System.out.println(test + what + " left" + got + System.lineSeparator() + "due is" + want);
        }
    }

    /** Runs each test that is named by a promise or by the terms; one that asks nothing is wrong. */
    void tests(Class<?> tests) throws ReflectiveOperationException {
        for (Method method : tests.getDeclaredMethods()) {
            if (method.getName().matches("(promise|terms)\\d+[A-Z]\\w*")) {
                int were = asked;
                test = method.getName() + ": ";
                method.setAccessible(true);
                method.invoke(null);
                yes("asks something", asked > were);
            }
        }
        close();
    }

    void close() {
        if (asked == 0 || wrong > 0) {
            System.out.println(wrong + " of " + asked + " answers are not as due");
            System.exit(1);
        }
    }

    /** THE TEXT becomes these signs. */
    static void write(PurringHolds x, String signs) {
        x.end(0);
        for (int p = 0; p < signs.length(); p += 4) {
            int v = 0;
            for (int i = p; i < p + 4; i++) {
                v = v << 8 | (i < signs.length() ? signs.charAt(i) & 255 : 0);
            }
            x.sign(v);
        }
        x.end(signs.length());
    }

    static int arches(PurringHolds x, String signs) {
        write(x, signs);
        return x.arches();
    }

    static int cats(PurringHolds x, String signs) {
        write(x, signs);
        return x.cats();
    }

    static int rule(PurringHolds x, String signs) {
        write(x, signs);
        return x.rule();
    }

    static int night(PurringHolds x, String signs) {
        write(x, signs);
        return x.night();
    }

    static int bears(PurringHolds x, String signs, int arch) {
        write(x, signs);
        return x.bears(arch);
    }

    static int law(PurringHolds x, String signs) {
        write(x, signs);
        return x.law();
    }

    static PurringHolds viaduct(String arches, String cats, String rule) {
        PurringHolds x = new PurringHolds();
        arches(x, arches);
        cats(x, cats);
        rule(x, rule);
        return x;
    }
}
