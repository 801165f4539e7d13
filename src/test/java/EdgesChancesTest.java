import java.io.IOException;
import java.nio.file.Files;
import java.nio.file.Path;

/** Promises 42 to 47, each sentence that names a bound: the last that is allowed, the first beyond it, what is left alone. */
public final class EdgesChancesTest {
    private static final Due DUE = new Due();
    private static final int LEAST = Integer.MIN_VALUE;
    private static final int MOST = Integer.MAX_VALUE;
    /** What a heap is worth by the theory of such partings (Grundy's game), from 0 on, as it is printed in tables. */
    private static final int[] NIMBERS = {0, 0, 0, 1, 0, 2, 1, 0, 2, 1, 0, 2, 1, 3, 2, 1, 3, 2, 4, 3, 0, 4, 3, 0, 4, 3, 0, 4, 1, 2,
        3, 1, 2, 4, 1, 2, 4, 1, 2, 4, 1};

    public static void main(String[] args) throws ReflectiveOperationException {
        DUE.tests(EdgesChancesTest.class);
    }

    // ---- promise 42

    private static void promise42From0To10Tenths() {
        PurringHolds x = Due.viaduct("5", "500", "");
        int[] upper = {1, 9, 4, 7, 3, 1, 2, 3, 1, 1, 0};
        int[] lower = {1, 10, 5, 10, 5, 2, 5, 10, 5, 10, 1};
        for (int p = 0; p <= 10; p++) {
            DUE.tells("p " + p, x, x.odds(0, p), 0, upper[p], lower[p]);
        }
        for (int p : new int[] {LEAST, -1, 11, MOST}) {
            DUE.stays("p " + p, y -> y.odds(0, p), -1);
        }
    }

    private static void promise42NotLessThanTheLoad() {
        for (int load = 0; load <= 9; load++) {
            PurringHolds x = Due.viaduct(String.valueOf(load), "500", "");
            DUE.tells("load " + load, x, x.odds(0, 5), 0, load > 5 ? 0 : 1, load == 0 || load > 5 ? 1 : 2);
            PurringHolds nobody = Due.viaduct(String.valueOf(load), "", "");
            DUE.tells("nobody, load " + load, nobody, nobody.odds(0, 5), 0, load == 0 ? 1 : 0, 1);
        }
    }

    private static void promise42AllEight() {
        PurringHolds x = Due.viaduct("8", "100;100;100;100;100;100;100;100", "");
        DUE.tells("all must", x, x.odds(0, 9), 0, 1, 100000000);
        DUE.tells("all must", x, x.odds(0, 1), 0, 43046721, 100000000);
        x.loads(0, 9);
        DUE.tells("they can't", x, x.odds(0, 0), 0, 0, 1);
        x.loads(0, 1);
        DUE.tells("one must", x, x.odds(0, 9), 0, 56953279, 100000000);
        PurringHolds loud = Due.viaduct("9", "900;900;900;900;900;900;900;900", "");
        DUE.tells("each alone", loud, loud.odds(0, 9), 0, 56953279, 100000000);
        DUE.tells("all purr", loud, loud.odds(0, 0), 0, 1, 1);
        Due.arches(loud, "1");
        DUE.tells("nothing of it is left for another arch", loud, loud.odds(1, 0), 0, 0, 1);
    }

    private static void promise42NoSuchArch() {
        for (int arch : new int[] {LEAST, -1, 3, 6, MOST}) {
            DUE.stays("arch " + arch, x -> x.odds(arch, 0), -1);
            DUE.stays("arch " + arch + ", p 11", x -> x.odds(arch, 11), -1);
        }
        PurringHolds x = Alike.busy();
        DUE.tells("the last", x, x.odds(2, 10), 0, 1, 1);
    }

    // ---- promise 43

    private static void promise43From0To10Tenths() {
        PurringHolds x = Due.viaduct("5;5", "500;501", "");
        int[] upper = {1, 81, 16, 49, 9, 1, 4, 9, 1, 1, 0};
        int[] lower = {1, 100, 25, 100, 25, 4, 25, 100, 25, 100, 1};
        for (int p = 0; p <= 10; p++) {
            DUE.tells("p " + p, x, x.stands(p), 0, upper[p], lower[p]);
        }
        for (int p : new int[] {LEAST, -1, 11, MOST}) {
            DUE.stays("p " + p, y -> y.stands(p), -1);
        }
    }

    private static void promise43AllArches() {
        PurringHolds none = new PurringHolds();
        DUE.tells("no arches", none, none.stands(5), 0, 1, 1);
        PurringHolds free = Due.viaduct("0;0;0;0;0;0", "", "");
        DUE.tells("without load", free, free.stands(10), 0, 1, 1);
        PurringHolds one = Due.viaduct("5;1", "500", "");
        DUE.tells("one can't", one, one.stands(0), 0, 0, 1);
        PurringHolds six = Due.viaduct("1;1;1;1;1;1", "100;101;102;103;104;105;105;105", "");
        DUE.tells("six", six, six.stands(5), 0, 7, 256);
        DUE.tells("six", six, six.stands(9), 0, 271, 100000000);
    }

    // ---- promise 44

    private static void promise44From0To40() {
        PurringHolds x = new PurringHolds();
        for (int n = 0; n <= 40; n++) {
            int lesser = 1;
            for (int i = 0; i <= 40 && 2 * lesser < n && NIMBERS[lesser] != NIMBERS[n - lesser]; i++) {
                lesser++;
            }
            boolean wins = 2 * lesser < n;
            DUE.is("as the table has it", wins ? 1 : 0, NIMBERS[n] > 0 ? 1 : 0);
            if (wins) {
                DUE.tells("litters " + n, x, x.litters(n), 1, lesser);
            } else {
                DUE.tells("litters " + n, x, x.litters(n), 0);
            }
        }
        DUE.tells("40", x, x.litters(40), 1, 3);
        DUE.tells("39", x, x.litters(39), 1, 18);
        for (int n : new int[] {LEAST, -1, 41, MOST}) {
            DUE.stays("litters " + n, y -> y.litters(n), -1);
        }
    }

    private static void promise44WhoCantHasLost() {
        PurringHolds x = new PurringHolds();
        x.holds();
        for (int n = 0; n <= 2; n++) {
            DUE.tells("no parting of " + n, x, x.litters(n), 0);
        }
        DUE.tells("3: 1 and 2", x, x.litters(3), 1, 1);
        DUE.tells("4: 1 and 3 alone, not 2 and 2", x, x.litters(4), 0);
    }

    // ---- promise 45

    private static void promise45From0To18() {
        PurringHolds x = new PurringHolds();
        DUE.tells("0", x, x.rests(0), 2, 8, 8);
        DUE.tells("17", x, x.rests(17), 1, 8, 8);
        DUE.tells("18", x, x.rests(18), 2, 8, 8);
        for (int v : new int[] {LEAST, -1, 19, MOST}) {
            DUE.stays("rests " + v, y -> y.rests(v), -1);
        }
    }

    /** The document has rests() under the heading of rests, rules and years, not under that of chances and litters. */
    private static void promise45StandsUnderItsHeading() throws IOException {
        String source = Files.readString(Path.of("src/main/java/PurringHolds.java"));
        int heading = source.indexOf("    // ---- rests, rules, years\n");
        DUE.yes("the heading is there", heading >= 0);
        DUE.yes("rests() is behind it", source.indexOf("    public int rests(int v) {\n") > heading);
        DUE.yes("litters() is ahead of it", source.indexOf("    public int litters(int n) {\n") < heading);
    }

    /** By what the document says of x and y, pair by pair. */
    private static void promise45NeitherWouldHaveMore() {
        for (int v = 0; v <= 18; v++) {
            int pairs = 0;
            int least = -1;
            for (int pair = 0; pair < 100; pair++) {
                boolean rests = true;
                for (int other = 0; other <= 9; other++) {
                    rests &= worth(other, pair % 10, v) <= worth(pair / 10, pair % 10, v);
                    rests &= worth(other, pair / 10, v) <= worth(pair % 10, pair / 10, v);
                }
                pairs += rests ? 1 : 0;
                least = rests && least < 0 ? pair : least;
            }
            PurringHolds x = new PurringHolds();
            DUE.tells("rests " + v, x, x.rests(v), pairs, least / 10, least % 10);
        }
    }

    private static int worth(int own, int others, int v) {
        int worth = 3 * own;
        if (own + others <= v) {
            worth += 20;
        }
        if (own > others) {
            worth -= 4;
        }
        return worth;
    }

    // ---- promise 46

    private static void promise46Below0Too() {
        PurringHolds x = Due.viaduct("5;5", "500;501", "");
        DUE.tells("less", x, Due.law(x, "9"), -18, 0, 18, 9, 9);
        DUE.tells("as much", x, Due.law(x, "0"), 0, 18, 18, 0, 0);
        x.sheet(2, 2, 3, 0);
        DUE.tells("more", x, Due.law(x, "0"), 4, 18, 14, 0, 0);
    }

    private static void promise46EmptyText() {
        PurringHolds x = Due.viaduct("5", "500", "9");
        x.grieves(0, 2);
        DUE.tells("none is j-g", x, Due.law(x, ""), 9, 9, 0, 3);
        DUE.is("the rule stays", x.cat(0, 4), 9);
    }

    /** Behind 9, 10 and 11 HOURS SAG is 6, 7, 8 by one of these and 7, 6, 7 by the other. */
    private static void promise46InTenHours() {
        PurringHolds x = Due.viaduct("1", "000", "9*(n=2)");
        DUE.tells("ten", x, Due.law(x, "9*(n<1)"), 1, 7, 6, 9);
        Due.rule(x, "9*(n<1)");
        DUE.tells("ten", x, Due.law(x, "9*(n=2)"), -1, 6, 7, 0);
    }

    private static void promise46FortySigns() {
        String forty = "10" + "+0".repeat(19);
        PurringHolds x = Due.viaduct("5", "500", "");
        DUE.is("40", Due.law(x, forty), -9);
        DUE.staysButText("41", y -> Due.law(y, forty + "0"), -10040);
        DUE.staysButText("80", y -> Due.law(y, forty + forty), -10040);
        DUE.staysButText("40 that end too early", y -> Due.law(y, "j" + forty.substring(2) + "+"), -10040);
        DUE.staysButText("a fault at 39", y -> Due.law(y, forty.substring(0, 39) + "x"), -10039);
    }

    private static void promise46FaultLeavesAll() {
        String[] texts = {"x", "j+", "(j", "1000", "(((((j", "j<b<g", "jj", "-".repeat(40)};
        int[] due = {-10000, -10002, -10002, -10003, -10004, -10003, -10001, -10040};
        for (int i = 0; i < texts.length; i++) {
            String text = texts[i];
            DUE.staysButText("law of " + text, x -> Due.law(x, text), due[i]);
        }
    }

    private static void promise46LeavesTheRule() {
        PurringHolds x = Alike.busy();
        Due.law(x, "9-s");
        PurringHolds y = Alike.busy();
        y.end(0);
        DUE.yes("all but the row stays", Alike.allButRow(x).equals(Alike.allButRow(y)));
    }

    // ---- promise 47

    private static void promise47From1To60() {
        PurringHolds x = Due.viaduct("9", "", "");
        int hours = 0;
        int r = 12;
        for (int n = 1; n <= 60; n++) {
            r = r * 1103515245 + 12345;
            hours += (r >>> 16) % 4 <= 1 ? 1 : 0;
            DUE.tells("n " + n, x, x.years(12, n), Math.min(9, hours), Math.max(0, hours - 9), 30);
        }
        for (int n : new int[] {LEAST, -1, 0, 61, MOST}) {
            DUE.stays("n " + n, y -> y.years(12, n), -1);
        }
    }

    /** Told by hours(), feeds(), grieves() themselves, on an object that is made alike. */
    private static void drawn(String what, PurringHolds x, PurringHolds y, int seed) {
        int r = seed;
        int dropped = 0;
        int cats = y.count(1);
        for (int n = 1; n <= 60; n++) {
            r = r * 1103515245 + 12345;
            int tells = (r >>> 16) % 4;
            if (tells <= 1) {
                y.hours(1);
                dropped += y.row(0);
            } else if (cats > 0) {
                r = r * 1103515245 + 12345;
                int cat = (r >>> 16) % cats;
                r = r * 1103515245 + 12345;
                if (tells == 2) {
                    y.feeds(cat, (r >>> 16) % 3 + 1);
                } else {
                    y.grieves(cat, (r >>> 16) % 5 + 1);
                }
            }
            DUE.tells(what + ", seed " + seed + ", " + n, x, x.years(seed, n), y.count(5), dropped, y.count(3));
        }
    }

    private static void promise47AnySeed() {
        for (int seed : new int[] {LEAST, LEAST + 1, -12345, -1, 0, 1, 65535, 65536, MOST - 1, MOST}) {
            drawn("three cats", Due.viaduct("5;9;3", "530;421;902", ""), Due.viaduct("5;9;3", "530;421;902", ""), seed);
            drawn("one cat", Due.viaduct("5;9;3", "531", ""), Due.viaduct("5;9;3", "531", ""), seed);
            drawn("eight cats", Due.viaduct("9", "100;200;300;400;500;600;700;800", "j/4"),
                Due.viaduct("9", "100;200;300;400;500;600;700;800", "j/4"), seed);
        }
    }

    private static PurringHolds poor(int store) {
        PurringHolds x = Due.viaduct("5", "500;500;500;500", "");
        x.feeds(0, 9);
        x.feeds(1, 9);
        x.feeds(2, 9);
        x.feeds(3, 3 - store);
        return x;
    }

    private static void promise47EachIfItCanBe() {
        for (int seed = 1; seed <= 12; seed++) {
            for (int store = 0; store <= 3; store++) {
                drawn("store " + store, poor(store), poor(store), seed);
            }
            drawn("full bowls", Due.viaduct("0", "990;990", ""), Due.viaduct("0", "990;990", ""), seed);
        }
    }

    private static void promise47WithoutCats() {
        for (int seed : new int[] {LEAST, -1, 0, 7, MOST}) {
            drawn("no cats", Due.viaduct("9;0;9", "", ""), Due.viaduct("9;0;9", "", ""), seed);
            drawn("nothing at all", new PurringHolds(), new PurringHolds(), seed);
        }
    }

    private static void promise47DropsMoreAreWhole() {
        PurringHolds x = Due.viaduct("9;9;9;9;9;9", "", "");
        x.hours(9);
        for (int i = 0; i < 28; i++) {
            x.hours(60);
        }
        DUE.is("drops", x.count(4), 9999);
        int hours = 0;
        int r = 3;
        for (int n = 1; n <= 60; n++) {
            r = r * 1103515245 + 12345;
            hours += (r >>> 16) % 4 <= 1 ? 1 : 0;
        }
        DUE.tells("six an hour", x, x.years(3, 60), 54, 6L * hours, 30);
        DUE.is("drops", x.count(4), 9999);
    }
}
