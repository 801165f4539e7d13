import java.util.NoSuchElementException;

/** Counts and prints answers that are not as due. */
final class Due {
    /** A call that may throw. */
    interface Call {
        long answer();
    }

    private int asked;
    private int wrong;

    void is(String what, long got, long want) {
        asked++;
        if (got != want) {
            wrong++;
            System.out.println(what + " answered " + got + ", due is " + want);
        }
    }

    void yes(String what, boolean got) {
        is(what, got ? 1 : 0, 1);
    }

    void no(String what, boolean got) {
        is(what, got ? 1 : 0, 0);
    }

    /** An answer and the ROW behind it. */
    void tells(String what, PurringHolds x, long got, long want, long... row) {
        is(what, got, want);
        row(what, x, row);
    }

    void row(String what, PurringHolds x, long... row) {
        is(what + " numbers of the row", x.count(12), row.length);
        for (int i = 0; i < row.length && i < x.count(12); i++) {
            is(what + " row " + i, x.row(i), row[i]);
        }
    }

    void nothingSuch(String what, Call call) {
        asked++;
        try {
            long got = call.answer();
            wrong++;
            System.out.println(what + " answered " + got + ", due is NoSuchElementException");
        } catch (NoSuchElementException e) {
            return;
        }
    }

    void close() {
        if (asked == 0 || wrong > 0) {
            System.out.println(wrong + " of " + asked + " answers are not as due");
            System.exit(1);
        }
    }

    /** THE TEXT becomes these signs. */
    static void write(PurringHolds x, String signs) {
        x.end(0);
        for (int p = 0; p < signs.length(); p += 4) {
            int v = 0;
            for (int i = p; i < p + 4; i++) {
                v = v << 8 | (i < signs.length() ? signs.charAt(i) & 255 : 0);
            }
            x.sign(v);
        }
        x.end(signs.length());
    }

    static int arches(PurringHolds x, String signs) {
        write(x, signs);
        return x.arches();
    }

    static int cats(PurringHolds x, String signs) {
        write(x, signs);
        return x.cats();
    }

    static int rule(PurringHolds x, String signs) {
        write(x, signs);
        return x.rule();
    }

    static int night(PurringHolds x, String signs) {
        write(x, signs);
        return x.night();
    }

    static int bears(PurringHolds x, String signs, int arch) {
        write(x, signs);
        return x.bears(arch);
    }

    static int law(PurringHolds x, String signs) {
        write(x, signs);
        return x.law();
    }

    static PurringHolds viaduct(String arches, String cats, String rule) {
        PurringHolds x = new PurringHolds();
        arches(x, arches);
        cats(x, cats);
        rule(x, rule);
        return x;
    }
}
