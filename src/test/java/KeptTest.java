/** Promises 48 to 51: keep, again, count, row. */
public final class KeptTest {
    private static final Due DUE = new Due();

    public static void main(String[] args) {
        promise48();
        promise49();
        promise49Refused();
        promise50();
        promise51();
        DUE.close();
    }

    private static PurringHolds plain() {
        return Due.viaduct("5;3;0", "530;421;200", "");
    }

    private static void promise48() {
        PurringHolds x = plain();
        DUE.yes("keep 0", x.keep(0));
        DUE.yes("keep 1", x.keep(1));
        DUE.no("keep 2", x.keep(2));
        DUE.no("keep -1", x.keep(-1));
        DUE.yes("keep of nothing", new PurringHolds().keep(0));
        x.pets(0);
        DUE.yes("kept anew", x.keep(1));
        x.pets(0);
        DUE.yes("again 1", x.again(1));
        DUE.is("the later one", x.cat(0, 0), 6);
        DUE.yes("again 0", x.again(0));
        DUE.is("the first one", x.cat(0, 0), 5);
    }

    private static void promise49() {
        PurringHolds x = plain();
        x.keep(0);
        Due.night(x, "l29s02g25f05p1n9");
        Due.rule(x, "3");
        x.felt(0, 1);
        x.heard(0, 1);
        x.holds();
        DUE.yes("again", x.again(0));
        DUE.row("the row stays", x, 1, 8);
        PurringHolds y = plain();
        for (int i = 0; i < 3; i++) {
            for (int what = 0; what <= 3; what++) {
                DUE.is("cat as kept", x.cat(i, what), y.cat(i, what));
            }
            for (int what = 0; what <= 2; what++) {
                DUE.is("arch as kept", x.arch(i, what), y.arch(i, what));
            }
        }
        for (int what = 0; what <= 7; what++) {
            DUE.is("count as kept", x.count(what), y.count(what));
        }
        DUE.is("the rule is not brought back", x.cat(0, 4), 3);
        DUE.is("what was felt stays", x.count(9), 1);
        DUE.is("what was heard stays", x.count(10), 1);
        DUE.is("nothing to undo", x.count(11), 0);
        x.pets(0);
        DUE.yes("it is kept still", x.again(0));
        DUE.is("joy", x.cat(0, 0), 5);
        x.sheet(3, 0, 0, 0);
        x.again(0);
        DUE.is("loads, too", x.count(6), 8);
    }

    private static void promise49Refused() {
        PurringHolds x = plain();
        x.pets(0);
        DUE.no("nothing kept", x.again(0));
        DUE.no("again 2", x.again(2));
        DUE.no("again -1", x.again(-1));
        x.keep(0);
        x.pets(0);
        Due.arches(x, "");
        Due.cats(x, "");
        Due.arches(x, "x");
        Due.cats(x, "999");
        DUE.no("nothing kept there", x.again(1));
        DUE.is("undo stays", x.count(11), 2);
        DUE.yes("nothing came", x.again(0));
        x.keep(1);
        Due.cats(x, "000");
        DUE.no("a cat came", x.again(0));
        DUE.no("a cat came", x.again(1));
        x.keep(0);
        Due.arches(x, "0");
        DUE.no("an arch came", x.again(0));
        DUE.is("as it is", x.count(0), 4);
        x.keep(0);
        DUE.yes("kept anew", x.again(0));
    }

    private static void promise50() {
        PurringHolds x = Due.viaduct("5;9;0", "530;421;200", "j+1");
        x.feeds(2, 4);
        x.hours(12);
        x.felt(0, 1);
        x.heard(0, 1);
        x.heard(0, 2);
        x.holds();
        x.sign(0);
        x.end(3);
        // arch 1 lacks in all 12 hours: SAG 9 and 3 drops
        int[] due = {3, 3, 12, 26, 3, x.arch(0, 1) + 9, 14, 0, 3, 1, 2, 2, 2, 3};
        for (int what = 0; what < due.length; what++) {
            DUE.is("count " + what, x.count(what), due[what]);
        }
        DUE.is("count 14", x.count(14), -1);
        DUE.is("count -1", x.count(-1), -1);
        DUE.is("count 7", plain().count(7), 11);
        DUE.is("count 8", plain().count(8), 11);
    }

    private static void promise51() {
        PurringHolds x = plain();
        DUE.nothingSuch("row 0 of none", () -> x.row(0));
        x.holds();
        DUE.is("row 0", x.row(0), 3);
        DUE.is("row 1", x.row(1), 0);
        DUE.nothingSuch("row 2", () -> x.row(2));
        DUE.nothingSuch("row -1", () -> x.row(-1));
        DUE.nothingSuch("row far", () -> x.row(Integer.MAX_VALUE));
        x.suits();
        DUE.is("row 0", x.row(0), 3);
        DUE.nothingSuch("row 1 of one", () -> x.row(1));
        x.litters(4);
        DUE.nothingSuch("row 0 of none told", () -> x.row(0));
    }
}
