/** Promises 42 to 47: how likely an arch holds, litters, rests, another rule, years drawn by a seed. */
public final class ChancesTest {
    private static final Due DUE = new Due();

    public static void main(String[] args) {
        promise42();
        promise43();
        promise44();
        promise45();
        promise46();
        promise46Faults();
        promise47();
        promise47Cats();
        promise47Bounds();
        DUE.close();
    }

    private static PurringHolds plain() {
        return Due.viaduct("5;3;0", "530;421;200", "");
    }

    private static void promise42() {
        PurringHolds x = Due.viaduct("5;1;0;1", "300;300;300;101", "");
        DUE.tells("two of three", x, x.odds(0, 3), 0, 98, 125);
        DUE.tells("one", x, x.odds(1, 3), 0, 7, 10);
        DUE.tells("no load", x, x.odds(2, 3), 0, 1, 1);
        DUE.tells("nobody", x, x.odds(3, 0), 0, 0, 1);
        DUE.tells("all purr", x, x.odds(0, 0), 0, 1, 1);
        DUE.tells("none purrs", x, x.odds(0, 10), 0, 0, 1);
        DUE.tells("none purrs, no load", x, x.odds(2, 10), 0, 1, 1);
        DUE.tells("half", x, x.odds(0, 5), 0, 1, 2);
        DUE.is("p 11", x.odds(0, 11), -1);
        DUE.is("p -1", x.odds(0, -1), -1);
        DUE.is("arch 4", x.odds(4, 0), -1);
        DUE.is("arch -1", x.odds(-1, 0), -1);
        DUE.row("the row stays", x, 1, 2);
        PurringHolds k = Due.viaduct("4", "200;200", "j*(k+1)");
        DUE.tells("else as now", k, k.odds(0, 5), 0, 3, 4);
        PurringHolds all = Due.viaduct("8", "100;100;100;100;100;100;100;100", "");
        DUE.tells("eight", all, all.odds(0, 1), 0, 43046721, 100000000);
        PurringHolds loud = Due.viaduct("9", "900;900;900;900;900;900;900;900", "");
        DUE.tells("the loudest", loud, loud.odds(0, 0), 0, 1, 1);
        DUE.tells("the loudest, by half", loud, loud.odds(0, 5), 0, 255, 256);
        loud.loads(0, 0);
        DUE.tells("the loudest, without load", loud, loud.odds(0, 5), 0, 1, 1);
        PurringHolds mute = Due.viaduct("3", "300;000", "");
        DUE.tells("one that does not purr anyway", mute, mute.odds(0, 4), 0, 3, 5);
    }

    private static void promise43() {
        PurringHolds x = Due.viaduct("5;1", "300;300;300;101", "");
        DUE.tells("both", x, x.stands(3), 0, 343, 625);
        DUE.tells("all purr", x, x.stands(0), 0, 1, 1);
        DUE.tells("none purrs", x, x.stands(10), 0, 0, 1);
        DUE.is("p 11", x.stands(11), -1);
        DUE.is("p -1", x.stands(-1), -1);
        DUE.row("the row stays", x, 0, 1);
        PurringHolds none = new PurringHolds();
        DUE.tells("no arches", none, none.stands(5), 0, 1, 1);
        PurringHolds eight = Due.viaduct("4;4", "100;100;100;100;101;101;101;101", "");
        DUE.tells("eight", eight, eight.stands(9), 0, 1, 100000000);
    }

    private static void promise44() {
        String lost = " 0 1 2 4 7 10 20 23 26 ";
        PurringHolds x = new PurringHolds();
        for (int n = 0; n <= 40; n++) {
            boolean loses = lost.contains(" " + n + " ");
            x.holds();
            DUE.is("litters " + n, x.litters(n), loses ? 0 : 1);
            DUE.is("litters " + n + ", numbers of the row", x.count(12), loses ? 0 : 1);
        }
        int[] sizes = {3, 5, 6, 8, 9, 11, 12};
        int[] lesser = {1, 1, 2, 1, 2, 1, 2};
        for (int i = 0; i < sizes.length; i++) {
            DUE.tells("litters " + sizes[i], x, x.litters(sizes[i]), 1, lesser[i]);
        }
        DUE.is("n 41", x.litters(41), -1);
        DUE.is("n -1", x.litters(-1), -1);
        DUE.row("the row stays", x, 2);
    }

    private static void promise45() {
        PurringHolds x = new PurringHolds();
        int[] pairs = {2, 2, 3, 3, 5, 5, 7, 7, 9, 7, 8, 6, 7, 5, 5, 3, 3, 1, 2};
        int[] least = {88, 88, 11, 11, 13, 14, 15, 16, 17, 27, 28, 38, 39, 49, 59, 69, 79, 88, 88};
        for (int v = 0; v <= 18; v++) {
            DUE.tells("rests " + v, x, x.rests(v), pairs[v], least[v] / 10, least[v] % 10);
        }
        DUE.is("v 19", x.rests(19), -1);
        DUE.is("v -1", x.rests(-1), -1);
        DUE.row("the row stays", x, 8, 8);
    }

    private static void promise46() {
        PurringHolds x = plain();
        DUE.tells("9", x, Due.law(x, "9"), -12, 0, 12, 18, 9, 0);
        DUE.is("the rule stays", x.cat(0, 4), 5);
        DUE.tells("0", x, Due.law(x, "0"), 6, 18, 12, 0, 0, 0);
        DUE.tells("the same", x, Due.law(x, "j-g"), 0, 12, 12, 7, 4, 0);
        DUE.tells("none", x, Due.law(x, ""), 0, 12, 12, 7, 4, 0);
        Due.rule(x, "9");
        DUE.tells("none, by another", x, Due.law(x, ""), 12, 12, 0, 7, 4, 0);
        DUE.is("hour stays", x.count(2), 0);
        PurringHolds none = new PurringHolds();
        DUE.tells("no arches", none, Due.law(none, "j"), 0, 0, 0);
        PurringHolds six = Due.viaduct("1;2;3;4;5;6", "100;201;302;403;504;605", "");
        DUE.tells("six", six, Due.law(six, "l"), -54, 0, 54, 1, 2, 3, 4, 5, 6);
    }

    private static void promise46Faults() {
        PurringHolds x = plain();
        x.holds();
        DUE.is("x", Due.law(x, "x"), -10000);
        DUE.is("j+", Due.law(x, "j+"), -10002);
        DUE.is("41 signs", Due.law(x, "-".repeat(41)), -10040);
        DUE.is("the text is empty", x.count(13), 0);
        DUE.row("the row stays", x, 3, 0);
        DUE.is("the rule stays", x.cat(0, 4), 5);
    }

    /** Without cats each DRAW is one of 4; of seed 1 the first are 2 3 2 1 2 0 1 1. */
    private static void promise47() {
        PurringHolds x = Due.viaduct("9;0", "", "");
        int r = 1;
        int hours = 0;
        for (int n = 1; n <= 60; n++) {
            r = r * 1103515245 + 12345;
            hours += (r >>> 16) % 4 < 2 ? 1 : 0;
            DUE.tells("years of 1, " + n, x, x.years(1, n), Math.min(9, hours), Math.max(0, hours - 9), 30);
        }
        DUE.is("nothing changes", x.count(2) + x.count(5) + x.count(11), 0);
    }

    /** The years told by the acts themselves. */
    private static void promise47Cats() {
        for (int seed = -5; seed < 40; seed++) {
            int cats = seed % 2 == 0 ? 3 : 1;
            PurringHolds x = Due.viaduct("5;3;0", "530;421;200".substring(0, 4 * cats - 1), "");
            PurringHolds y = Due.viaduct("5;3;0", "530;421;200".substring(0, 4 * cats - 1), "");
            int r = seed * 1000003;
            int dropped = 0;
            for (int i = 0; i < 60; i++) {
                r = r * 1103515245 + 12345;
                int tells = (r >>> 16) % 4;
                if (tells < 2) {
                    y.hours(1);
                    dropped += y.row(0);
                } else {
                    r = r * 1103515245 + 12345;
                    int cat = (r >>> 16) % cats;
                    r = r * 1103515245 + 12345;
                    if (tells == 2) {
                        y.feeds(cat, (r >>> 16) % 3 + 1);
                    } else {
                        y.grieves(cat, (r >>> 16) % 5 + 1);
                    }
                }
                DUE.tells("years of " + seed + ", " + (i + 1), x, x.years(seed * 1000003, i + 1), y.count(5), dropped, y.count(3));
            }
            DUE.is("nothing changes", x.count(2) + x.count(5) + x.count(11), 0);
            DUE.is("nothing changes", x.count(3), 30);
        }
    }

    private static void promise47Bounds() {
        PurringHolds x = plain();
        x.holds();
        DUE.is("n 0", x.years(1, 0), -1);
        DUE.is("n 61", x.years(1, 61), -1);
        DUE.is("n -1", x.years(1, -1), -1);
        DUE.row("the row stays", x, 3, 0);
        PurringHolds none = new PurringHolds();
        DUE.tells("nothing there", none, none.years(Integer.MIN_VALUE, 60), 0, 0, 30);
    }
}
