/** Promises 18 to 24, each sentence that names a bound: the last that is allowed, the first beyond it, what is left alone. */
public final class EdgesHoldsTest {
    private static final Due DUE = new Due();
    private static final int LEAST = Integer.MIN_VALUE;
    private static final int MOST = Integer.MAX_VALUE;

    public static void main(String[] args) throws ReflectiveOperationException {
        DUE.tests(EdgesHoldsTest.class);
    }

    /** HOLD is the HOUR by 7: SAG goes 0 1 2 3 3 2 1, and again. */
    private static PurringHolds byHours() {
        return Due.viaduct("3", "500", "n");
    }

    /** One ARCH of this SAG, whose HOLD is as much as its LOAD from now on. */
    private static PurringHolds atSag(int sag) {
        PurringHolds x = Due.viaduct("4", "990", "0");
        x.hours(sag);
        Due.rule(x, "4");
        return x;
    }

    // ---- promise 18

    private static void promise18NotLessThanTheLoad() {
        for (int load = 0; load <= 9; load++) {
            for (int hold = 0; hold <= 9; hold++) {
                PurringHolds x = Due.viaduct(String.valueOf(load), hold + "00", "");
                boolean holds = hold >= load;
                DUE.tells(hold + " of " + load, x, x.holds(), holds ? 1 : 0, holds ? 1 : 0, holds ? 0 : load - hold);
            }
        }
    }

    private static void promise18AllOrNone() {
        PurringHolds x = Due.viaduct("9;9;9;9;9;9", "", "");
        DUE.tells("none", x, x.holds(), 0, 0, 54);
        x.sheet(3, 0, 0, 0);
        DUE.tells("all", x, x.holds(), 63, 6, 0);
        PurringHolds none = new PurringHolds();
        DUE.tells("no arches", none, none.holds(), 0, 0, 0);
        PurringHolds y = Due.viaduct("9;0", "901;901;101", "");
        DUE.tells("what one has too much is not for others", y, y.holds(), 2, 1, 9);
    }

    // ---- promise 19

    private static void promise19From0To99() {
        PurringHolds x = byHours();
        DUE.tells("0", x, x.later(0, 0), 0, 0, 0);
        DUE.tells("98", x, x.later(0, 98), 0, 0, 0);
        DUE.tells("99", x, x.later(0, 99), 1, 1, 1);
        for (int n : new int[] {LEAST, -1, 100, MOST}) {
            DUE.stays("later " + n, y -> y.later(0, n), -1);
        }
    }

    private static void promise19NoSuchArch() {
        for (int arch : new int[] {LEAST, -1, 3, 6, MOST}) {
            DUE.stays("arch " + arch, x -> x.later(arch, 0), -1);
            DUE.stays("arch " + arch + ", n 100", x -> x.later(arch, 100), -1);
        }
        PurringHolds x = Alike.busy();
        DUE.tells("the last", x, x.later(2, 0), 0, 0, 2);
    }

    // ---- promise 20

    private static void promise20From0To9() {
        for (int sag = 0; sag <= 9; sag++) {
            PurringHolds x = atSag(sag);
            x.litters(3);
            for (int v = 0; v <= 9; v++) {
                if (v <= sag) {
                    DUE.tells(v + " at " + sag, x, x.when(0, v), 0, 100);
                } else {
                    DUE.tells(v + " at " + sag, x, x.when(0, v), -2, 100);
                }
            }
        }
        for (int v : new int[] {LEAST, -1, 10, MOST}) {
            DUE.stays("v " + v, x -> x.when(0, v), -1);
        }
    }

    private static void promise20InHowManyOf100() {
        for (int hours = 0; hours <= 7; hours++) {
            PurringHolds x = byHours();
            x.hours(hours);
            int often = 0;
            int first = -2;
            for (int h = 99; h >= 0; h--) {
                boolean so = x.later(0, h) >= 3;
                often += so ? 1 : 0;
                first = so ? h : first;
            }
            DUE.tells("from hour " + hours, x, x.when(0, 3), first, often);
            DUE.is("14 weeks and two hours", often, hours == 2 || hours == 4 ? 29 : hours == 3 ? 30 : 28);
        }
        PurringHolds low = Due.viaduct("9", "", "");
        DUE.tells("from 9 on", low, low.when(0, 9), 9, 91);
    }

    private static void promise20InNone() {
        DUE.stays("sag stays 0", x -> x.when(2, 1), -2);
        DUE.is("at sag 8 it stays", atSag(8).when(0, 9), -2);
        DUE.is("at sag 9 it is", atSag(9).when(0, 9), 0);
    }

    private static void promise20NoSuchArch() {
        for (int arch : new int[] {LEAST, -1, 3, 6, MOST}) {
            DUE.stays("arch " + arch, x -> x.when(arch, 0), -1);
        }
        PurringHolds x = Alike.busy();
        DUE.tells("the last", x, x.when(2, 0), 0, 100);
    }

    // ---- promise 21

    private static void promise21AtSag9() {
        DUE.is("at sag 8 it stays", atSag(8).down(), -2);
        PurringHolds x = atSag(9);
        DUE.tells("it is", x, x.down(), 0, 1);
        PurringHolds y = Due.viaduct("9", "", "");
        for (int h = 0; h <= 10; h++) {
            DUE.tells("behind " + h, y, y.down(), Math.max(0, 9 - h), 1);
            y.hours(1);
        }
    }

    private static void promise21Which() {
        PurringHolds x = Due.viaduct("9;0;9;0;0;9", "", "");
        DUE.tells("three at once", x, x.down(), 9, 37);
        PurringHolds y = Due.viaduct("9;9", "911", "");
        DUE.tells("the first one alone", y, y.down(), 9, 1);
    }

    private static void promise21InNone() {
        PurringHolds x = byHours();
        x.litters(3);
        DUE.tells("never", x, x.down(), -2, 1);
        PurringHolds none = new PurringHolds();
        none.litters(3);
        DUE.tells("no arches", none, none.down(), -2, 1);
    }

    // ---- promise 22

    private static void promise22AllAt0() {
        PurringHolds x = atSag(0);
        DUE.tells("it is", x, x.safe(), 0, 100);
        DUE.is("at sag 1 it stays", atSag(1).safe(), -2);
        for (int sag = 1; sag <= 9; sag++) {
            PurringHolds y = Due.viaduct("4", "990", "0");
            y.hours(sag);
            Due.rule(y, "5");
            DUE.tells("from " + sag, y, y.safe(), sag, 100 - sag);
        }
        PurringHolds two = Due.viaduct("1;3", "990;991", "0");
        two.hours(4);
        Due.rule(two, "2");
        DUE.is("all, not one", two.safe(), -2);
    }

    private static void promise22InHowManyOf100() {
        for (int hours = 0; hours <= 7; hours++) {
            PurringHolds x = byHours();
            x.hours(hours);
            DUE.tells("from hour " + hours, x, x.safe(), (7 - hours) % 7, hours % 7 == 0 || hours == 6 ? 15 : 14);
        }
    }

    private static void promise22InNone() {
        PurringHolds x = Due.viaduct("9", "", "");
        x.hours(1);
        x.litters(3);
        DUE.tells("never", x, x.safe(), -2, 1);
        PurringHolds none = new PurringHolds();
        DUE.tells("no arches", none, none.safe(), 0, 100);
    }

    // ---- promise 23

    private static void promise23From0To99() {
        PurringHolds x = byHours();
        DUE.tells("0", x, x.loudest(0), 0, 0, 0, 0);
        DUE.tells("1", x, x.loudest(1), 1, 1, 0, 0);
        DUE.tells("5", x, x.loudest(5), 5, 5, 0, 0);
        DUE.tells("6", x, x.loudest(6), 6, 6, 0, 0);
        DUE.tells("7", x, x.loudest(7), 6, 6, 0, 0);
        DUE.tells("99", x, x.loudest(99), 6, 6, 0, 0);
        for (int n : new int[] {LEAST, -1, 100, MOST}) {
            DUE.stays("loudest " + n, y -> y.loudest(n), -1);
        }
    }

    /** JOY 9 is gone behind 9 HOURS. */
    private static void promise23TheLastHourCounts() {
        for (int n = 0; n <= 12; n++) {
            PurringHolds less = Due.viaduct("0", "900", "");
            DUE.tells("less joy, " + n, less, less.loudest(n), 9, 0, Math.max(0, 9 - n), Math.min(9, n));
            PurringHolds more = Due.viaduct("0", "900", "9-j");
            DUE.tells("more by less joy, " + n, more, more.loudest(n), Math.min(9, n), Math.min(9, n), 0, 0);
        }
    }

    private static void promise23LeastAndMost() {
        String eight = "900;901;902;903;904;905;900;901";
        PurringHolds x = Due.viaduct("1;1;1;1;1;1", eight, "");
        DUE.tells("all together", x, x.loudest(99), 72, 0, 0, 9);
        PurringHolds none = new PurringHolds();
        DUE.tells("no arches", none, none.loudest(99), 0, 0, 0, 0);
    }

    // ---- promise 24

    private static void promise24NoArches() {
        PurringHolds x = new PurringHolds();
        x.litters(3);
        DUE.tells("no arches", x, x.weakest(), -2, 1);
        Due.arches(x, "0");
        DUE.tells("one arch", x, x.weakest(), 0, 100);
    }

    private static void promise24LeastAndMost() {
        String eight = "900;900;900;900;900;900;900;900";
        PurringHolds x = Due.viaduct("0", eight, "");
        DUE.tells("the least", x, x.weakest(), 0, 28);
        PurringHolds y = Due.viaduct("0;9", eight, "");
        DUE.tells("the most", y, y.weakest(), 1, 109);
    }

    private static void promise24OfEqualOnesTheFirst() {
        PurringHolds x = Due.viaduct("3;5;5", "", "");
        DUE.tells("1 and 2", x, x.weakest(), 1, 105);
        x.loads(0, 5);
        DUE.tells("all", x, x.weakest(), 0, 105);
        x.loads(2, 6);
        DUE.tells("the last", x, x.weakest(), 2, 106);
        PurringHolds y = Due.viaduct("1;1", "500;401", "");
        DUE.tells("the least below", y, y.weakest(), 1, 97);
    }
}
