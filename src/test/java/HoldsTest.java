/** Promises 18 to 24: what holds, how low an arch is later, when one is down, when all is safe, the loudest, the weakest. */
public final class HoldsTest {
    private static final Due DUE = new Due();

    public static void main(String[] args) {
        promise18();
        promise19();
        promise20();
        promise21();
        promise22();
        promise23();
        promise24();
        changeNothing();
        DUE.close();
    }

    private static PurringHolds plain() {
        return Due.viaduct("5;3;0", "530;421;200", "");
    }

    /** HOLD is the HOUR by 7: SAG goes 0 1 2 3 3 2 1, and again. */
    private static PurringHolds byHours() {
        return Due.viaduct("3", "500", "n");
    }

    private static void promise18() {
        PurringHolds x = plain();
        DUE.tells("all hold", x, x.holds(), 7, 3, 0);
        x.loads(0, 9);
        x.loads(1, 8);
        DUE.tells("two lack 2 and 4", x, x.holds(), 4, 1, 6);
        x.loads(0, 7);
        DUE.tells("just enough", x, x.holds(), 5, 2, 4);
        PurringHolds none = new PurringHolds();
        DUE.tells("no arches", none, none.holds(), 0, 0, 0);
    }

    private static void promise19() {
        PurringHolds x = byHours();
        int[] sags = {0, 1, 2, 3, 3, 2, 1, 0, 1};
        for (int n = 0; n < sags.length; n++) {
            DUE.tells("later " + n, x, x.later(0, n), sags[n], n % 7, sags[n]);
        }
        DUE.tells("later 99", x, x.later(0, 99), 1, 1, 1);
        DUE.is("later 100", x.later(0, 100), -1);
        DUE.is("later -1", x.later(0, -1), -1);
        DUE.is("arch 1", x.later(1, 0), -1);
        DUE.is("arch -1", x.later(-1, 0), -1);
        DUE.row("the row stays", x, 1, 1);
        PurringHolds y = plain();
        DUE.tells("later 6", y, y.later(1, 6), 2, 0, 4);
    }

    private static void promise20() {
        PurringHolds x = byHours();
        DUE.tells("when 0", x, x.when(0, 0), 0, 100);
        DUE.tells("when 1", x, x.when(0, 1), 1, 85);
        DUE.tells("when 2", x, x.when(0, 2), 2, 56);
        DUE.tells("when 3", x, x.when(0, 3), 3, 28);
        DUE.is("when 4", x.when(0, 4), -2);
        DUE.is("v 10", x.when(0, 10), -1);
        DUE.is("v -1", x.when(0, -1), -1);
        DUE.is("arch 1", x.when(1, 0), -1);
        DUE.is("arch -1", x.when(-1, 0), -1);
        DUE.row("the row stays", x, 28);
        PurringHolds y = Due.viaduct("9;9", "", "");
        DUE.tells("when 9", y, y.when(1, 9), 9, 91);
        PurringHolds late = Due.viaduct("1", "990", "(j>0)*2");
        DUE.tells("joy is gone behind 18 hours", late, late.when(0, 1), 19, 81);
    }

    private static void promise21() {
        PurringHolds x = byHours();
        x.holds();
        DUE.is("never", x.down(), -2);
        DUE.row("the row stays", x, 0, 3);
        PurringHolds y = plain();
        DUE.tells("two at once", y, y.down(), 13, 3);
        y.loads(1, 0);
        DUE.tells("one", y, y.down(), 13, 1);
        y.hours(60);
        DUE.tells("it is", y, y.down(), 0, 1);
        PurringHolds none = new PurringHolds();
        DUE.is("no arches", none.down(), -2);
    }

    private static void promise22() {
        PurringHolds x = byHours();
        DUE.tells("it is", x, x.safe(), 0, 15);
        x.hours(2);
        DUE.tells("later", x, x.safe(), 5, 14);
        Due.rule(x, "0");
        DUE.is("never", x.safe(), -2);
        DUE.row("the row stays", x, 14);
        PurringHolds y = Due.viaduct("9;0", "", "");
        y.hours(1);
        DUE.is("all are asked", y.safe(), -2);
        PurringHolds none = new PurringHolds();
        DUE.tells("no arches", none, none.safe(), 0, 100);
    }

    private static void promise23() {
        PurringHolds x = byHours();
        DUE.tells("loudest 0", x, x.loudest(0), 0, 0, 0, 0);
        DUE.tells("loudest 3", x, x.loudest(3), 3, 3, 0, 0);
        DUE.tells("loudest 99", x, x.loudest(99), 6, 6, 0, 0);
        x.hours(3);
        DUE.tells("loudest 3, from 3", x, x.loudest(3), 6, 3, 3, 0);
        DUE.tells("loudest 4, from 3", x, x.loudest(4), 6, 3, 0, 4);
        DUE.is("n 100", x.loudest(100), -1);
        DUE.is("n -1", x.loudest(-1), -1);
        DUE.row("the row stays", x, 3, 0, 4);
        PurringHolds y = plain();
        DUE.tells("of all together", y, y.loudest(9), 11, 0, 0, 8);
    }

    private static void promise24() {
        PurringHolds x = plain();
        DUE.tells("the least below", x, x.weakest(), 2, 100);
        x.loads(2, 9);
        x.loads(0, 9);
        DUE.tells("the most above", x, x.weakest(), 2, 109);
        x.loads(2, 2);
        DUE.tells("of equal ones the first", x, x.weakest(), 0, 102);
        PurringHolds y = Due.viaduct("0", "900;900;900;900;900;900;900;900", "");
        DUE.tells("far below", y, y.weakest(), 0, 28);
        PurringHolds none = new PurringHolds();
        none.holds();
        DUE.is("no arches", none.weakest(), -2);
        DUE.row("the row stays", none, 0, 0);
    }

    private static void changeNothing() {
        PurringHolds x = plain();
        x.hours(5);
        x.later(0, 50);
        x.when(0, 5);
        x.down();
        x.safe();
        x.loudest(50);
        x.weakest();
        x.holds();
        DUE.is("hour", x.count(2), 5);
        DUE.is("sags", x.count(5), 2);
        DUE.is("undone", x.count(11), 1);
    }
}
