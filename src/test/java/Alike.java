import java.util.NoSuchElementException;

/** Objects that are made alike, so that what one call more has changed is seen in all that can be asked of them. */
final class Alike {
    /** A call, or some. */
    interface Act {
        long on(PurringHolds x);
    }

    /** What a call that throws NoSuchElementException answers here. */
    static final long NOTHING_SUCH = -1000;

    private Alike() {
    }

    /**
     * All that a call could spoil is there: SAGS, a ROW, a TEXT, what was felt and heard, kept and can be undone. Each act
     * and each question can be done, but that CAT 2 has JOY 9 and CAT 1 a full BOWL.
     */
    static PurringHolds busy() {
        PurringHolds x = Due.viaduct("5;9;0", "530;481;990", "j+1-g");
        x.keep(0);
        x.hours(2);
        x.grieves(0, 2);
        x.keep(1);
        x.feeds(1, 3);
        x.loads(1, 4);
        x.felt(0, 13);
        x.heard(0, 4);
        x.heard(1, 2);
        x.holds();
        Due.write(x, "j*2-b");
        return x;
    }

    /** All that can be asked; the last of it is asked by calls that change the object. */
    static String all(PurringHolds x) {
        StringBuilder b = new StringBuilder();
        row(b, x);
        rest(b, x);
        return b.toString();
    }

    static String allButRow(PurringHolds x) {
        StringBuilder b = new StringBuilder();
        rest(b, x);
        return b.toString();
    }

    private static void rest(StringBuilder b, PurringHolds x) {
        state(b, x);
        b.append(" fits ").append(x.fits());
        row(b, x);
        b.append(" suits ").append(x.suits());
        row(b, x);
        b.append(" the text as a law ").append(x.law());
        row(b, x);
        for (int i = 0; i < 13 && x.count(11) > 0; i++) {
            b.append(" undo ").append(x.undo());
            state(b, x);
        }
        for (int i = 0; i < 2; i++) {
            b.append(" again ").append(x.again(i));
            state(b, x);
        }
    }

    private static void row(StringBuilder b, PurringHolds x) {
        b.append(" row");
        for (int i = 0; i < x.count(12); i++) {
            b.append(' ').append(x.row(i));
        }
    }

    private static void state(StringBuilder b, PurringHolds x) {
        b.append(" counts");
        for (int what = 0; what <= 13; what++) {
            b.append(' ').append(what == 12 ? 0 : x.count(what));
        }
        for (int a = 0; a < x.count(0); a++) {
            b.append(" arch");
            for (int what = 0; what <= 3; what++) {
                b.append(' ').append(x.arch(a, what));
            }
        }
        for (int c = 0; c < x.count(1); c++) {
            b.append(" cat");
            for (int what = 0; what <= 4; what++) {
                b.append(' ').append(x.cat(c, what));
            }
        }
    }

    static long answer(Act act, PurringHolds x) {
        try {
            return act.on(x);
        } catch (NoSuchElementException e) {
            return NOTHING_SUCH;
        }
    }
}
