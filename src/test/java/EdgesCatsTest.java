/** Promises 25 to 32, each sentence that names a bound: the last that is allowed, the first beyond it, what is left alone. */
public final class EdgesCatsTest {
    private static final Due DUE = new Due();
    private static final int LEAST = Integer.MIN_VALUE;
    private static final int MOST = Integer.MAX_VALUE;

    public static void main(String[] args) throws ReflectiveOperationException {
        DUE.tests(EdgesCatsTest.class);
    }

    // ---- promise 25

    private static void promise25NothingIfAsManyHold() {
        PurringHolds none = new PurringHolds();
        none.litters(3);
        DUE.tells("no arches", none, none.trades(), 0);
        PurringHolds one = Due.viaduct("9;1", "910", "");
        one.litters(3);
        DUE.tells("one cat", one, one.trades(), 1);
        PurringHolds same = Due.viaduct("9;1", "110;910", "");
        same.litters(3);
        DUE.tells("two in one arch", same, same.trades(), 1);
        PurringHolds asGood = Due.viaduct("5;5", "510;411", "");
        asGood.litters(3);
        DUE.tells("only as many then", asGood, asGood.trades(), 1);
        PurringHolds worse = Due.viaduct("5;4", "510;411", "");
        worse.litters(3);
        DUE.tells("fewer then", worse, worse.trades(), 2);
    }

    private static void promise25JustAsMuchAsTheLoad() {
        PurringHolds x = Due.viaduct("5;4", "410;511", "");
        DUE.tells("both hold just so", x, x.trades(), 2, 0, 1);
        x.loads(0, 6);
        x.litters(3);
        DUE.tells("one too much", x, x.trades(), 1);
    }

    private static void promise25LeastRow() {
        PurringHolds x = Due.viaduct("9;1", "010;010;110;911;911", "");
        DUE.tells("of six as good ones", x, x.trades(), 2, 0, 3);
        PurringHolds y = Due.viaduct("9;1", "110;110;911", "");
        DUE.tells("of two as good ones", y, y.trades(), 2, 0, 2);
    }

    private static void promise25TheLastTwo() {
        PurringHolds x = Due.viaduct("9;1", "010;010;010;010;010;010;110;911", "");
        DUE.tells("6 and 7", x, x.trades(), 2, 6, 7);
    }

    /** Each of these would hold both, were the two of one trade left where another's two went. */
    private static void promise25TwoAlone() {
        PurringHolds x = Due.viaduct("6;0", "000;301;301", "");
        x.litters(3);
        DUE.tells("two for one", x, x.trades(), 1);
        PurringHolds y = Due.viaduct("6;0", "301;301;000", "");
        y.litters(3);
        DUE.tells("two for one", y, y.trades(), 1);
    }

    // ---- promise 26

    private static void promise26FromNoneToAll() {
        String eight = "100;100;100;100;101;101;101;101";
        for (int load = 0; load <= 8; load++) {
            PurringHolds x = Due.viaduct(load + ";0", eight, "");
            DUE.tells("load " + load, x, x.needs(0), load, (1 << load) - 1, load);
        }
        PurringHolds x = Due.viaduct("9;0", eight, "");
        x.litters(3);
        DUE.tells("load 9: no set does", x, x.needs(0), -2, 1);
    }

    private static void promise26OfAsFewTheLeast() {
        PurringHolds x = Due.viaduct("6;0", "101;301;301;501", "");
        DUE.tells("1 and 2, not 0 and 3", x, x.needs(0), 2, 6, 6);
        PurringHolds y = Due.viaduct("6;0", "501;601;601", "");
        DUE.tells("1, not 2", y, y.needs(0), 1, 2, 6);
        PurringHolds z = Due.viaduct("6;0", "301;301;601", "");
        DUE.tells("fewer, not less", z, z.needs(0), 1, 4, 6);
    }

    private static void promise26NoSet() {
        PurringHolds none = Due.viaduct("1;0", "", "");
        none.litters(3);
        DUE.tells("no cats", none, none.needs(0), -2, 1);
        DUE.tells("no cats, no load", none, none.needs(1), 0, 0, 0);
        PurringHolds crowd = Due.viaduct("6;0", "501;501", "j-k*5");
        crowd.litters(3);
        DUE.tells("two are less than one", crowd, crowd.needs(0), -2, 1);
        crowd.loads(0, 5);
        DUE.tells("one is enough", crowd, crowd.needs(0), 1, 1, 5);
        PurringHolds alone = Due.viaduct("5;0", "500", "k*9");
        alone.litters(3);
        DUE.tells("one without others", alone, alone.needs(0), -2, 1);
    }

    private static void promise26NoSuchArch() {
        for (int arch : new int[] {LEAST, -1, 3, 6, MOST}) {
            DUE.stays("arch " + arch, x -> x.needs(arch), -1);
        }
        PurringHolds x = Alike.busy();
        DUE.tells("the last", x, x.needs(2), 0, 0, 0);
    }

    // ---- promise 27

    private static void promise27JustAsMuchAsTheLoad() {
        for (int load = 0; load <= 9; load++) {
            PurringHolds x = Due.viaduct(String.valueOf(load), "500", "");
            boolean none = load == 0 || load > 5;
            DUE.tells("load " + load, x, x.guards(), load > 5 ? 0 : 1, none ? -1 : 0);
        }
    }

    private static void promise27Load0DoesWithout() {
        PurringHolds x = Due.viaduct("0;0;0;0;0;0", "900;900", "");
        DUE.tells("all without", x, x.guards(), 6, -1, -1, -1, -1, -1, -1);
        PurringHolds y = Due.viaduct("0;1;0", "900", "");
        DUE.tells("one with", y, y.guards(), 3, -1, 0, -1);
        PurringHolds none = Due.viaduct("0;1", "", "");
        DUE.tells("no cats", none, none.guards(), 1, -1, -1);
    }

    private static void promise27EachAnotherOne() {
        PurringHolds x = Due.viaduct("5;5", "900", "");
        DUE.tells("one cat for two", x, x.guards(), 1, -1, 0);
        Due.cats(x, "900");
        DUE.tells("two cats for two", x, x.guards(), 2, 0, 1);
        PurringHolds y = Due.viaduct("1;1;1;1;1;1", "900;900;900;900;900;900;900;900", "");
        DUE.tells("eight cats for six", y, y.guards(), 6, 0, 1, 2, 3, 4, 5);
        PurringHolds z = Due.viaduct("9;8;7;6;5;4", "400;500;600;700;800;900", "");
        DUE.tells("just one way", z, z.guards(), 6, 5, 4, 3, 2, 1, 0);
    }

    private static void promise27LeastRow() {
        PurringHolds x = Due.viaduct("5;5;5", "900;900", "");
        DUE.tells("none first", x, x.guards(), 2, -1, 0, 1);
        PurringHolds y = Due.viaduct("5;9;5", "500;900", "");
        DUE.tells("none first, as far as it goes", y, y.guards(), 2, -1, 1, 0);
        PurringHolds z = Due.viaduct("5;5", "100;900;900;900", "");
        DUE.tells("the least cats", z, z.guards(), 2, 1, 2);
    }

    private static void promise27InItAlone() {
        PurringHolds x = Due.viaduct("5;5", "500;500", "j-k");
        DUE.tells("by k 0, though both sit in one", x, x.guards(), 2, 0, 1);
        Due.rule(x, "k*9");
        DUE.tells("by k 0", x, x.guards(), 0, -1, -1);
        Due.rule(x, "s+4");
        x.hours(1);
        DUE.tells("by s of that arch", x, x.guards(), 1, -1, 0);
    }

    private static void promise27OneThatIsNeededElsewhere() {
        PurringHolds x = Due.viaduct("3;5", "500;300", "");
        DUE.tells("cat 0 alone can hold arch 1", x, x.guards(), 2, 1, 0);
        x.grieves(1, 9);
        DUE.tells("cat 1 can't now", x, x.guards(), 1, -1, 0);
        x.grieves(0, 9);
        DUE.tells("nobody can now", x, x.guards(), 0, -1, -1);
    }

    private static void promise27NoArches() {
        PurringHolds x = new PurringHolds();
        x.litters(3);
        DUE.tells("no arches", x, x.guards(), 0);
    }

    // ---- promise 28

    private static void promise28From1To30() {
        PurringHolds x = Due.viaduct("9;9", "500", "");
        DUE.tells("1", x, x.best(0, 1), 0, 2, 2);
        DUE.tells("30", x, x.best(0, 30), 0, 18, 18);
        for (int n : new int[] {LEAST, -1, 0, 31, MOST}) {
            DUE.stays("n " + n, y -> y.best(0, n), -1);
        }
    }

    /** By the HOUR itself SAG is 0 behind each week, and 1 behind the HOUR after. */
    private static void promise28TheLastHourCounts() {
        int[] sags = {0, 1, 1, 0, 0, 0, 0};
        for (int n = 1; n <= 30; n++) {
            PurringHolds x = Due.viaduct("1", "500", "n");
            DUE.tells("n " + n, x, x.best(0, n), 0, sags[n % 7], sags[n % 7]);
        }
    }

    private static void promise28OfEqualOnesTheFirst() {
        PurringHolds x = Due.viaduct("3;3;3", "502", "");
        DUE.tells("all alike", x, x.best(0, 1), 0, 2, 2);
        x.loads(0, 6);
        DUE.tells("1 and 2", x, x.best(0, 1), 1, 2, 2);
        x.loads(1, 6);
        DUE.tells("where it is", x, x.best(0, 1), 2, 2, 2);
        DUE.is("it stays where it is", x.cat(0, 3), 2);
    }

    /** By k it would be best where it is in nobody's way. */
    private static void promise28OnlyWhereAnArchIs() {
        PurringHolds one = Due.viaduct("5", "590;090", "j-k");
        DUE.tells("of one arch", one, one.best(1, 1), 0, 1, 1);
        PurringHolds six = Due.viaduct("5;5;5;5;5;5", "590;591;592;593;594;595;090", "j-k");
        DUE.tells("of six arches", six, six.best(6, 1), 0, 1, 1);
    }

    private static void promise28NoSuchCat() {
        for (int cat : new int[] {LEAST, -1, 3, 8, MOST}) {
            DUE.stays("cat " + cat, x -> x.best(cat, 1), -1);
            DUE.stays("cat " + cat + ", n 0", x -> x.best(cat, 0), -1);
        }
        DUE.asksAlone("the last", x -> x.best(2, 1), 0);
    }

    // ---- promise 29

    private static void promise29From1To30() {
        PurringHolds x = Due.viaduct("9;9", "500", "");
        DUE.tells("1", x, x.cheers(1), 0, 2, 2);
        DUE.tells("30", x, x.cheers(30), 0, 18, 18);
        for (int n : new int[] {LEAST, -1, 0, 31, MOST}) {
            DUE.stays("n " + n, y -> y.cheers(n), -1);
        }
    }

    /** One more of JOY holds the ARCH an HOUR more. */
    private static void promise29TheLastHourCounts() {
        for (int n = 1; n <= 30; n++) {
            PurringHolds x = Due.viaduct("1", "500", "");
            DUE.tells("n " + n, x, x.cheers(n), 0, Math.max(0, Math.min(9, n - 6)), Math.max(0, Math.min(9, n - 5)));
        }
    }

    private static void promise29JoyIs9AtMost() {
        PurringHolds x = Due.viaduct("9", "900", "9-(9-j)*(9-j)");
        DUE.tells("9 stays 9", x, x.cheers(1), 0, 0, 0);
        PurringHolds y = Due.viaduct("9", "800", "");
        DUE.tells("8 becomes 9", y, y.cheers(1), 0, 0, 1);
        PurringHolds z = Due.viaduct("1;1", "900;001", "");
        DUE.tells("the other one", z, z.cheers(1), 1, 0, 1);
    }

    private static void promise29NoCats() {
        PurringHolds x = Due.viaduct("9", "", "");
        x.litters(3);
        DUE.tells("no cats", x, x.cheers(1), -2, 1);
        DUE.tells("no cats, 30", x, x.cheers(30), -2, 1);
        DUE.tells("no cats, another n", x, x.cheers(0), -1, 1);
        DUE.tells("no cats, another n", x, x.cheers(31), -1, 1);
    }

    private static void promise29OfEqualOnesTheFirst() {
        PurringHolds x = Due.viaduct("4;4;9", "302;300;301", "");
        DUE.tells("1 and 2", x, x.cheers(1), 1, 2, 3);
        x.loads(0, 5);
        DUE.tells("2", x, x.cheers(1), 2, 2, 3);
    }

    // ---- promise 30

    private static void promise30OneToTwenty() {
        for (int n = 1; n <= 21; n++) {
            PurringHolds x = Due.viaduct("5", "990", "");
            String trains = "9".repeat(n);
            if (n <= 20) {
                DUE.tells(n + " trains", x, Due.bears(x, trains, 0), Math.min(10, n), Math.max(0, Math.min(9, n - 10)));
            } else {
                DUE.is(n + " trains", Due.bears(x, trains, 0), -21);
            }
        }
    }

    private static void promise30NoTrains() {
        DUE.staysButText("none", x -> Due.bears(x, "", 0), -1);
        DUE.staysButText("none, no such arch", x -> Due.bears(x, "", 3), -1);
    }

    private static void promise30SignThatCantStand() {
        for (int p = 0; p <= 20; p++) {
            for (int sign = 0; sign < 256; sign++) {
                boolean digit = sign >= '0' && sign <= '9' && p < 20;
                PurringHolds x = Due.viaduct("5", "990", "9");
                DUE.is("sign " + sign + " at " + p, Due.bears(x, "0".repeat(p) + (char) sign, 0), digit ? p + 1 : -1 - p);
            }
        }
        DUE.staysButText("a fault", x -> Due.bears(x, "5x", 0), -2);
    }

    private static void promise30TwentyFirstSign() {
        String twenty = "01234567890123456789";
        for (String more : new String[] {"0", "x", "00", "0".repeat(60)}) {
            DUE.staysButText("more: " + more, x -> Due.bears(x, twenty + more, 0), -21);
        }
        DUE.staysButText("a fault ahead of it", x -> Due.bears(x, twenty.substring(0, 19) + "x00", 0), -20);
    }

    private static void promise30NoSuchArch() {
        for (int arch : new int[] {LEAST, -1, 3, 6, MOST}) {
            DUE.staysButText("arch " + arch, x -> Due.bears(x, "5", arch), -100);
            DUE.staysButText("arch " + arch + ", a fault", x -> Due.bears(x, "x", arch), -1);
            DUE.staysButText("arch " + arch + ", 21 signs", x -> Due.bears(x, "5".repeat(21), arch), -21);
        }
        PurringHolds x = Alike.busy();
        DUE.tells("the last", x, Due.bears(x, "01", 2), 1, 1);
    }

    private static void promise30TillOneComes() {
        PurringHolds x = Due.viaduct("0", "590", "");
        DUE.tells("just as much", x, Due.bears(x, "5", 0), 1, 0);
        DUE.tells("one too much", x, Due.bears(x, "6", 0), 0, 1);
        DUE.tells("then one too much", x, Due.bears(x, "565", 0), 1, 1);
        DUE.tells("all of them", x, Due.bears(x, "555", 0), 3, 0);
        DUE.tells("behind all of them", x, Due.bears(x, "6660", 0), 0, 2);
        DUE.tells("nine and more", x, Due.bears(x, "6".repeat(9), 0), 0, 9);
        DUE.tells("ten", x, Due.bears(x, "6".repeat(10), 0), 0, 9);
        PurringHolds y = Alike.busy();
        Due.bears(y, "99999", 0);
        PurringHolds z = Alike.busy();
        z.end(0);
        DUE.is("it changes nothing", Alike.allButRow(y).equals(Alike.allButRow(z)) ? 1 : 0, 1);
    }

    // ---- promise 31

    /** ARCHES of SAG above 0 where the text has a 9. */
    private static PurringHolds sagging(String loads) {
        PurringHolds x = Due.viaduct(loads, "", "");
        x.hours(1);
        return x;
    }

    private static void promise31NoneToGoTo() {
        PurringHolds x = sagging("0;0;0;0;0;0");
        for (int a = 0; a < 6; a++) {
            DUE.tells("from " + a, x, x.trolley(a), 0, a);
        }
        PurringHolds y = sagging("0;0;9;0;0;0");
        DUE.tells("it is there", y, y.trolley(2), 0, 2);
    }

    private static void promise31SagAbove0() {
        PurringHolds x = Due.viaduct("1;2", "991", "0");
        x.hours(1);
        DUE.tells("sag 1 of both", x, x.trolley(0), 1, 1);
        Due.rule(x, "9");
        x.hours(1);
        DUE.tells("sag 0 of one", x, x.trolley(1), 1, 0);
        DUE.tells("sag 0 of one", x, x.trolley(0), 0, 0);
    }

    private static void promise31FewestSteps() {
        PurringHolds x = sagging("9;0;0;0;0;9");
        int[] steps = {5, 6, 7, 7, 6, 5};
        int[] ends = {5, 5, 5, 0, 0, 0};
        for (int a = 0; a < 6; a++) {
            DUE.tells("from " + a, x, x.trolley(a), steps[a], ends[a]);
        }
        PurringHolds y = sagging("9;0;0;0;9");
        DUE.tells("of as few the least", y, y.trolley(2), 6, 0);
        PurringHolds w = sagging("0;9;0;0;9;0");
        int[] midSteps = {4, 3, 4, 4, 3, 4};
        int[] midEnds = {4, 4, 4, 1, 1, 1};
        for (int a = 0; a < 6; a++) {
            DUE.tells("1 and 4, from " + a, w, w.trolley(a), midSteps[a], midEnds[a]);
        }
        PurringHolds z = sagging("9;9;9;9;9;9");
        for (int a = 0; a < 6; a++) {
            DUE.tells("all, from " + a, z, z.trolley(a), steps[a], ends[a]);
        }
    }

    private static void promise31NoSuchArch() {
        for (int arch : new int[] {LEAST, -1, 3, 6, MOST}) {
            DUE.stays("arch " + arch, x -> x.trolley(arch), -1);
        }
        PurringHolds x = Alike.busy();
        DUE.tells("the last", x, x.trolley(2), 1, 1);
    }

    // ---- promise 32

    private static void promise32NoArches() {
        PurringHolds x = new PurringHolds();
        x.litters(3);
        DUE.tells("no arches", x, x.depot(), -2, 1);
        Due.arches(x, "0");
        DUE.tells("one arch", x, x.depot(), 0, 0);
    }

    private static void promise32OfEqualOnesTheFirst() {
        PurringHolds x = sagging("0;0;0;0;0;0");
        DUE.tells("nowhere to go", x, x.depot(), 0, 0);
        PurringHolds y = sagging("0;0;9;0;0;9");
        DUE.tells("both ends", y, y.depot(), 2, 3);
        PurringHolds z = sagging("0;0;0;0;0;9");
        DUE.tells("the last alone", z, z.depot(), 5, 0);
        PurringHolds all = sagging("9;9;9;9;9;9");
        DUE.tells("all", all, all.depot(), 0, 5);
    }
}
