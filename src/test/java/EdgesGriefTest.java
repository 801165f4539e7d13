/** Promises 33 to 41, each sentence that names a bound: the last that is allowed, the first beyond it, what is left alone. */
public final class EdgesGriefTest {
    private static final Due DUE = new Due();
    private static final int LEAST = Integer.MIN_VALUE;
    private static final int MOST = Integer.MAX_VALUE;

    public static void main(String[] args) throws ReflectiveOperationException {
        DUE.tests(EdgesGriefTest.class);
    }

    /** Seven CATS of JOY 1 to 7, two of them in each ARCH but the last. */
    private static PurringHolds seven() {
        return Due.viaduct("5;5;5;5", "100;200;301;401;502;602;703", "");
    }

    // ---- promise 33

    private static void promise33From0To72() {
        PurringHolds x = seven();
        DUE.is("0", x.felt(0, 0), 1);
        DUE.is("72", x.felt(0, 72), 2);
        for (int h : new int[] {LEAST, -1, 73, MOST}) {
            DUE.stays("h " + h, y -> y.felt(0, h), -1);
        }
    }

    private static void promise33NoSuchArch() {
        for (int arch : new int[] {LEAST, -1, 3, 6, MOST}) {
            DUE.stays("arch " + arch, x -> x.felt(arch, 0), -1);
        }
        DUE.is("the last", Alike.busy().felt(2, 0), 2);
    }

    private static void promise33TenAtMost() {
        PurringHolds x = seven();
        for (int i = 1; i <= 9; i++) {
            DUE.is("felt " + i, x.felt(3, 7), i);
        }
        DUE.is("a tenth", x.felt(2, 6), 10);
        DUE.is("it is of matter", x.fits(), 16);
        DUE.is("an eleventh", x.felt(0, 3), -1);
        DUE.is("an eleventh, no such arch", x.felt(4, 3), -1);
        DUE.is("ten", x.count(9), 10);
        DUE.is("it is of no matter", x.fits(), 16);
    }

    private static void promise33AtItsBoundsItIsOfMatter() {
        PurringHolds x = Due.viaduct("5", "900;900;900;900;900;900;900;900", "");
        x.felt(0, 72);
        DUE.tells("72: with none", x, x.fits(), 0, 0, 1);
        x.forget();
        x.felt(0, 63);
        DUE.tells("63: each", x, x.fits(), 255, 8, 0);
        x.forget();
        x.felt(0, 0);
        DUE.tells("0: nobody", x, x.fits(), 0, 0, 0);
        PurringHolds none = Due.viaduct("5", "", "");
        none.felt(0, 0);
        DUE.tells("0: with none", none, none.fits(), 0, 0, 1);
    }

    // ---- promise 34

    private static void promise34NoneToTen() {
        for (int n = 0; n <= 10; n++) {
            PurringHolds x = seven();
            for (int i = 0; i < n; i++) {
                x.felt(0, 9);
            }
            DUE.is("forget of " + n, x.forget(), n);
            DUE.is("none is left", x.count(9), 0);
            DUE.is("none is left", x.forget(), 0);
            DUE.is("all fit", x.fits(), 127);
            DUE.is("there is room again", x.felt(0, 1), 1);
        }
    }

    private static void promise34ForgetsNothingElse() {
        PurringHolds x = Alike.busy();
        x.forget();
        DUE.is("what was heard", x.count(10), 2);
        DUE.is("what can be undone", x.count(11), 4);
    }

    // ---- promise 35

    private static void promise35NothingFelt() {
        PurringHolds x = seven();
        DUE.tells("all", x, x.fits(), 127, 7, 1);
        PurringHolds none = new PurringHolds();
        DUE.tells("no cats", none, none.fits(), 0, 0, 1);
    }

    private static void promise35NoCatFits() {
        PurringHolds x = seven();
        x.felt(0, 0);
        DUE.tells("not by one alone", x, x.fits(), 0, 0, 0);
    }

    private static void promise35WithNone() {
        PurringHolds x = seven();
        x.felt(0, 3);
        DUE.tells("those elsewhere", x, x.fits(), 124, 5, 1);
        x.felt(1, 7);
        x.felt(2, 11);
        x.felt(3, 7);
        DUE.tells("none at all", x, x.fits(), 0, 0, 1);
        PurringHolds mute = Due.viaduct("5", "000;500", "");
        mute.felt(0, 5);
        DUE.tells("one that does not purr anyway", mute, mute.fits(), 1, 1, 1);
    }

    private static void promise35SameArchTwice() {
        PurringHolds x = seven();
        x.felt(0, 2);
        DUE.tells("once", x, x.fits(), 1, 1, 0);
        x.felt(0, 2);
        DUE.tells("twice the same", x, x.fits(), 1, 1, 0);
        x.felt(0, 1);
        DUE.tells("then another", x, x.fits(), 0, 0, 0);
    }

    // ---- promise 36

    private static void promise36NoneFits() {
        PurringHolds x = seven();
        x.felt(0, 0);
        x.litters(3);
        DUE.tells("none fits", x, x.feels(), -2, 1);
        PurringHolds y = seven();
        y.felt(0, 3);
        y.felt(1, 7);
        y.felt(2, 11);
        y.felt(3, 7);
        y.litters(3);
        DUE.tells("it would be so with none alone", y, y.feels(), -2, 1);
    }

    private static void promise36NoArches() {
        PurringHolds x = new PurringHolds();
        x.litters(3);
        DUE.tells("no arches", x, x.feels(), -2, 1);
        Due.arches(x, "5;5");
        DUE.tells("no cats", x, x.feels(), -2, 1);
        Due.cats(x, "500");
        DUE.tells("one of each", x, x.feels(), 0, 1);
    }

    private static void promise36OfEqualOnesTheFirst() {
        PurringHolds x = seven();
        DUE.tells("0, 1 or 2", x, x.feels(), 0, 5);
        x.felt(0, 3);
        DUE.tells("1 or 2", x, x.feels(), 1, 3);
        x.felt(1, 7);
        DUE.tells("2", x, x.feels(), 2, 1);
        x.felt(2, 11);
        DUE.tells("one is left", x, x.feels(), 0, 1);
    }

    private static void promise36HoweverMuchItHolds() {
        PurringHolds x = Due.viaduct("5;5", "500;500;500;301;401", "");
        DUE.tells("three alike in 0, two others in 1", x, x.feels(), 0, 3);
        PurringHolds y = Due.viaduct("5;5", "500;500;500;500;301;401;201", "");
        DUE.tells("four alike in 0, or four elsewhere", y, y.feels(), 0, 4);
        PurringHolds z = Due.viaduct("5;5", "500;500;500;301;401;201;101", "");
        DUE.tells("four elsewhere, or three", z, z.feels(), 1, 3);
    }

    // ---- promise 37

    private static void promise37From0To9() {
        PurringHolds x = Due.viaduct("5;5;5;5;5;5", "500;501;502;503;504;505", "");
        for (int n = 0; n <= 9; n++) {
            int behind = Math.min(6, n + 1);
            DUE.tells("behind " + n, x, x.spreads(0, n), (1 << behind) - 1, behind, 5);
        }
        for (int n : new int[] {LEAST, -1, 10, MOST}) {
            DUE.stays("n " + n, y -> y.spreads(0, n), -1);
        }
    }

    private static void promise37InItsArchAndThoseBeside() {
        PurringHolds x = Due.viaduct("5;5;5;5;5;5", "500;500;502;503;505;505", "");
        DUE.tells("two beside each other, a gap", x, x.spreads(0, 9), 3, 2, 1);
        DUE.tells("a gap on both sides", x, x.spreads(2, 9), 12, 2, 1);
        DUE.tells("in its own arch alone", x, x.spreads(5, 1), 48, 2, 1);
        DUE.tells("behind none", x, x.spreads(5, 0), 32, 1, 1);
        PurringHolds one = Due.viaduct("5;5", "500", "");
        DUE.tells("alone", one, one.spreads(0, 9), 1, 1, 0);
        DUE.tells("alone, behind none", one, one.spreads(0, 0), 1, 1, 0);
    }

    private static void promise37FromTheMiddle() {
        PurringHolds x = Due.viaduct("5;5;5;5;5;5", "500;501;502;503;504;505;505;505", "");
        int[] behind = {4, 14, 31, 255, 255, 255};
        for (int n = 0; n <= 5; n++) {
            DUE.tells("behind " + n, x, x.spreads(2, n), behind[n], Integer.bitCount(behind[n]), 3);
        }
    }

    private static void promise37NoSuchCat() {
        for (int cat : new int[] {LEAST, -1, 3, 8, MOST}) {
            DUE.stays("cat " + cat, x -> x.spreads(cat, 0), -1);
            DUE.stays("cat " + cat + ", n 10", x -> x.spreads(cat, 10), -1);
        }
        PurringHolds x = Alike.busy();
        DUE.tells("the last", x, x.spreads(2, 0), 4, 1, 1);
    }

    // ---- promise 38

    private static void promise38EachWhatAtItsBounds() {
        int[] most = {9, 9, 5, 9, 1};
        for (int what = 0; what <= 4; what++) {
            int w = what;
            PurringHolds x = seven();
            DUE.is("what " + what + ", 0", x.heard(what, 0), 1);
            DUE.is("what " + what + ", " + most[what], x.heard(what, most[what]), 2);
            for (int v : new int[] {LEAST, -1, most[what] + 1, MOST}) {
                DUE.stays("what " + what + ", " + v, y -> y.heard(w, v), -1);
            }
        }
    }

    private static void promise38AnotherWhat() {
        for (int what : new int[] {LEAST, -1, 5, MOST}) {
            DUE.stays("what " + what, x -> x.heard(what, 0), -1);
            DUE.stays("what " + what + ", v -1", x -> x.heard(what, -1), -1);
        }
    }

    private static void promise38TwelveAtMost() {
        PurringHolds x = seven();
        for (int i = 1; i <= 11; i++) {
            DUE.is("heard " + i, x.heard(0, 3), i);
        }
        DUE.is("a twelfth", x.heard(2, 1), 12);
        DUE.is("it is of matter", x.suits(), 12);
        DUE.is("a thirteenth", x.heard(2, 2), -1);
        DUE.is("a thirteenth, another what", x.heard(5, 0), -1);
        DUE.is("twelve", x.count(10), 12);
        DUE.is("it is of no matter", x.suits(), 12);
    }

    private static void promise38WithoutCatsAndArches() {
        PurringHolds x = new PurringHolds();
        DUE.is("an arch that is not there", x.heard(2, 5), 1);
        DUE.is("joy", x.heard(0, 9), 2);
    }

    // ---- promise 39

    private static void promise39NoneToTwelve() {
        for (int n = 0; n <= 12; n++) {
            PurringHolds x = seven();
            for (int i = 0; i < n; i++) {
                x.heard(0, 9);
            }
            DUE.is("denies " + n, x.denies(), n);
            DUE.is("none is left", x.count(10), 0);
            DUE.is("none is left", x.denies(), 0);
            DUE.is("all suit", x.suits(), 127);
            DUE.is("there is room again", x.heard(0, 1), 1);
        }
    }

    private static void promise39DeniesNothingElse() {
        PurringHolds x = Alike.busy();
        x.denies();
        DUE.is("what was felt", x.count(9), 1);
        DUE.is("what can be undone", x.count(11), 4);
    }

    // ---- promise 40

    private static void promise40NothingHeard() {
        PurringHolds x = seven();
        DUE.tells("all", x, x.suits(), 127, 7);
        PurringHolds none = new PurringHolds();
        DUE.tells("no cats", none, none.suits(), 0, 0);
        PurringHolds eight = Due.viaduct("5", "100;100;100;100;100;100;100;100", "");
        DUE.tells("eight", eight, eight.suits(), 255, 8);
    }

    private static void promise40OfEight() {
        PurringHolds x = Due.viaduct("5;5", "100;200;300;400;501;601;701;801", "");
        x.heard(0, 0);
        DUE.tells("all", x, x.suits(), 255, 8);
        x.heard(2, 1);
        DUE.tells("four", x, x.suits(), 240, 4);
        x.heard(3, 8);
        DUE.tells("the last", x, x.suits(), 128, 1);
        DUE.tells("the last", x, x.asks(), 0, 1);
    }

    private static void promise40OrMore() {
        for (int v = 0; v <= 9; v++) {
            PurringHolds joy = Due.viaduct("5", "500;400;900", "");
            joy.heard(0, v);
            int due = v <= 4 ? 7 : v == 5 ? 5 : 4;
            DUE.tells("joy " + v, joy, joy.suits(), due, Integer.bitCount(due));
            PurringHolds bowl = Due.viaduct("5", "050;040;090", "");
            bowl.heard(1, v);
            DUE.tells("bowl " + v, bowl, bowl.suits(), due, Integer.bitCount(due));
            PurringHolds purr = Due.viaduct("5", "320;310;450", "j+b");
            purr.heard(3, v);
            DUE.tells("purr " + v, purr, purr.suits(), due, Integer.bitCount(due));
        }
    }

    private static void promise40InAnArch() {
        for (int v = 0; v <= 5; v++) {
            PurringHolds x = Due.viaduct("5;5;5;5", "100;101;102;103;103", "");
            x.heard(2, v);
            int due = v < 3 ? 1 << v : v == 3 ? 24 : 0;
            DUE.tells("arch " + v, x, x.suits(), due, Integer.bitCount(due));
        }
    }

    private static void promise40GriefAbove0() {
        for (int grief = 0; grief <= 9; grief++) {
            for (int v = 0; v <= 1; v++) {
                PurringHolds x = Due.viaduct("5", "100", "");
                x.grieves(0, grief);
                x.heard(4, v);
                int due = grief > 0 == (v == 1) ? 1 : 0;
                DUE.tells("grief " + grief + ", " + v, x, x.suits(), due, due);
            }
        }
    }

    // ---- promise 41

    private static void promise41NoneFits() {
        PurringHolds x = seven();
        x.heard(0, 9);
        x.litters(3);
        DUE.tells("none fits", x, x.asks(), -2, 1);
        PurringHolds none = Due.viaduct("5", "", "");
        none.litters(3);
        DUE.tells("no cats", none, none.asks(), -2, 1);
    }

    private static void promise41OfEqualOnesTheLeast() {
        PurringHolds one = Due.viaduct("5", "000", "");
        DUE.tells("one cat: 0", one, one.asks(), 0, 1);
        PurringHolds alike = Due.viaduct("5", "550;550;550", "");
        DUE.tells("all alike: 0", alike, alike.asks(), 0, 3);
        PurringHolds two = Due.viaduct("5;5", "550;661", "");
        DUE.tells("by joy ahead of others", two, two.asks(), 6, 1);
        PurringHolds far = Due.viaduct("5;5", "250;651", "");
        DUE.tells("the least v", far, far.asks(), 3, 1);
    }

    private static void promise41FromTheLeastToTheLast() {
        PurringHolds joy = Due.viaduct("5", "900;800", "");
        DUE.tells("joy 9", joy, joy.asks(), 9, 1);
        PurringHolds bowl = Due.viaduct("5", "990;980", "9");
        DUE.tells("bowl 9", bowl, bowl.asks(), 19, 1);
        PurringHolds first = Due.viaduct("5;5;5;5;5;5", "990;995", "9");
        DUE.tells("arch 0", first, first.asks(), 20, 1);
        PurringHolds last = Due.viaduct("5;5;5;5;5;5", "990;991;995;995", "9");
        DUE.tells("arch 5", last, last.asks(), 25, 2);
        PurringHolds purr = Due.viaduct("5", "990;990;990", "g*9");
        purr.grieves(0, 1);
        DUE.tells("purr 1", purr, purr.asks(), 31, 2);
        PurringHolds loud = Due.viaduct("5", "990;990", "9-g");
        loud.grieves(0, 1);
        DUE.tells("purr 9", loud, loud.asks(), 39, 1);
        PurringHolds grief = Due.viaduct("5", "990;990", "9");
        grief.grieves(0, 1);
        DUE.tells("it does not grieve", grief, grief.asks(), 40, 1);
    }
}
