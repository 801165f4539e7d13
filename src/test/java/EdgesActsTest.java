/** Promises 10 to 17, each sentence that names a bound: the last that is allowed, the first beyond it, what is left alone. */
public final class EdgesActsTest {
    private static final Due DUE = new Due();
    private static final int LEAST = Integer.MIN_VALUE;
    private static final int MOST = Integer.MAX_VALUE;

    public static void main(String[] args) throws ReflectiveOperationException {
        DUE.tests(EdgesActsTest.class);
    }

    // ---- promise 10

    private static void promise10From0To60() {
        PurringHolds x = Due.viaduct("9", "350", "");
        DUE.tells("0", x, x.hours(0), 0, 0, 3);
        DUE.is("hour", x.count(2), 0);
        DUE.tells("1", x, x.hours(1), 1, 0, 3);
        DUE.is("hour", x.count(2), 1);
        DUE.tells("60", x, x.hours(60), 9, 52, 0);
        DUE.is("hour", x.count(2), 61);
        for (int n : new int[] {LEAST, -1, 61, MOST}) {
            DUE.stays("hours " + n, y -> y.hours(n), -1);
        }
    }

    private static void promise10OfNoneChangesNothing() {
        PurringHolds x = Alike.busy();
        DUE.tells("hours 0", x, x.hours(0), 2, 0, 18);
        DUE.asksAlone("hours 0", y -> y.hours(0), 2);
    }

    private static void promise10DropsMoreInThese() {
        PurringHolds x = Due.viaduct("9;9", "", "");
        DUE.tells("just down", x, x.hours(9), 18, 0, 0);
        DUE.tells("one more", x, x.hours(1), 18, 2, 0);
        DUE.tells("only in these", x, x.hours(1), 18, 2, 0);
        DUE.tells("in three", x, x.hours(3), 18, 6, 0);
        DUE.is("drops", x.count(4), 10);
    }

    private static void promise10DropsMoreAreWhole() {
        PurringHolds x = Due.viaduct("9;9;9;9;9;9", "", "");
        x.hours(9);
        for (int i = 0; i < 27; i++) {
            x.hours(60);
        }
        DUE.is("drops", x.count(4), 9720);
        DUE.tells("360 more", x, x.hours(60), 54, 360, 0);
        DUE.is("the most", x.count(4), 9999);
        DUE.tells("360 more", x, x.hours(60), 54, 360, 0);
        DUE.is("the most", x.count(4), 9999);
        DUE.is("undo", x.undo(), 11);
        DUE.is("undo", x.undo(), 10);
        DUE.is("as they were", x.count(4), 9720);
    }

    // ---- promise 11

    private static void promise11From1To9() {
        for (int n = 1; n <= 9; n++) {
            PurringHolds x = Due.viaduct("5", "500", "");
            DUE.is("feeds " + n, x.feeds(0, n), n);
            DUE.is("bowl", x.cat(0, 1), n);
            DUE.is("store", x.count(3), 30 - n);
        }
        for (int n : new int[] {LEAST, -1, 0, 10, MOST}) {
            DUE.stays("feeds " + n, x -> x.feeds(0, n), -1);
        }
    }

    private static void promise11StoreHasNotSoMuch() {
        for (int left = 0; left <= 8; left++) {
            PurringHolds x = Due.viaduct("5", "500;500;500;500;500", "");
            x.feeds(0, 9);
            x.feeds(1, 9);
            x.feeds(2, left > 3 ? 3 : 9);
            x.feeds(4, left > 3 ? 9 - left : 3 - left);
            DUE.is("store", x.count(3), left);
            DUE.is("one too much of " + left, x.feeds(3, left + 1), -2);
            DUE.is("store", x.count(3), left);
            DUE.is("bowl", x.cat(3, 1), 0);
            DUE.is("all of " + left, x.feeds(3, left), left == 0 ? -1 : left);
            DUE.is("store", x.count(3), 0);
            DUE.is("none is left", x.feeds(3, 1), -2);
        }
    }

    private static void promise11BowlWouldBeAbove9() {
        for (int bowl = 0; bowl <= 9; bowl++) {
            PurringHolds x = Due.viaduct("5", "5" + bowl + "0", "");
            DUE.is("one too much for " + bowl, x.feeds(0, 10 - bowl), bowl == 0 ? -1 : -3);
            DUE.is("bowl", x.cat(0, 1), bowl);
            DUE.is("store", x.count(3), 30);
            DUE.is("nothing to undo", x.count(11), 0);
            DUE.is("just 9 for " + bowl, x.feeds(0, 9 - bowl), bowl == 9 ? -1 : 9);
        }
        DUE.stays("a full bowl", x -> x.feeds(1, 1), -3);
        DUE.stays("a full bowl", x -> x.feeds(1, 9), -3);
    }

    private static void promise11StoreAheadOfBowl() {
        PurringHolds x = Due.viaduct("5", "500;500;500;590", "");
        x.feeds(0, 9);
        x.feeds(1, 9);
        x.feeds(2, 9);
        DUE.is("3 are left, the bowl is full", x.feeds(3, 3), -3);
        DUE.is("3 are left, the bowl is full", x.feeds(3, 4), -2);
        DUE.is("what can be undone", x.count(11), 3);
    }

    private static void promise11NoSuchCat() {
        for (int cat : new int[] {LEAST, -1, 3, 8, MOST}) {
            DUE.stays("cat " + cat, x -> x.feeds(cat, 1), -1);
            DUE.stays("cat " + cat + ", n 10", x -> x.feeds(cat, 10), -1);
        }
        DUE.is("the last", Alike.busy().feeds(2, 1), 8);
    }

    // ---- promise 12

    private static void promise12JoyIs9() {
        for (int joy = 0; joy <= 9; joy++) {
            PurringHolds x = Due.viaduct("5", joy + "00", "");
            DUE.is("pets of " + joy, x.pets(0), joy == 9 ? -2 : joy + 1);
            DUE.is("joy", x.cat(0, 0), Math.min(9, joy + 1));
            DUE.is("what can be undone", x.count(11), joy == 9 ? 0 : 1);
        }
        DUE.stays("it is 9", x -> x.pets(2), -2);
    }

    private static void promise12NoSuchCat() {
        for (int cat : new int[] {LEAST, -1, 3, 8, MOST}) {
            DUE.stays("cat " + cat, x -> x.pets(cat), -1);
        }
        DUE.is("the last", Due.viaduct("5", "100;200;300", "").pets(2), 4);
    }

    // ---- promise 13

    private static void promise13From1To9() {
        for (int n = 1; n <= 9; n++) {
            PurringHolds x = Due.viaduct("5", "500", "");
            DUE.is("grieves " + n, x.grieves(0, n), n);
            DUE.is("grief", x.cat(0, 2), n);
        }
        for (int n : new int[] {LEAST, -1, 0, 10, MOST}) {
            DUE.stays("grieves " + n, x -> x.grieves(0, n), -1);
        }
    }

    private static void promise13At9Most() {
        for (int was = 1; was <= 9; was++) {
            PurringHolds x = Due.viaduct("5", "500", "");
            x.grieves(0, was);
            DUE.is("to 9 from " + was, x.grieves(0, Math.max(1, 9 - was)), 9);
            DUE.is("9 at most", x.grieves(0, 1), 9);
            DUE.is("9 at most", x.grieves(0, 9), 9);
            DUE.is("grief", x.cat(0, 2), 9);
            DUE.is("each was done", x.count(11), 4);
            DUE.is("undo", x.undo() + x.undo() + x.undo(), 3 + 2 + 1);
            DUE.is("grief", x.cat(0, 2), was);
        }
    }

    private static void promise13NoSuchCat() {
        for (int cat : new int[] {LEAST, -1, 3, 8, MOST}) {
            DUE.stays("cat " + cat, x -> x.grieves(cat, 1), -1);
            DUE.stays("cat " + cat + ", n 0", x -> x.grieves(cat, 0), -1);
        }
        DUE.is("the last", Alike.busy().grieves(2, 1), 1);
    }

    // ---- promise 14

    private static void promise14HowFar() {
        for (int from = 0; from < 6; from++) {
            for (int to = 0; to < 6; to++) {
                PurringHolds x = Due.viaduct("1;2;3;4;5;6", "50" + from, "");
                DUE.is("from " + from + " to " + to, x.sets(0, to), from == to ? -2 : Math.abs(from - to));
                DUE.is("arch", x.cat(0, 3), to);
                DUE.is("what can be undone", x.count(11), from == to ? 0 : 1);
            }
        }
        DUE.stays("it is there", x -> x.sets(1, 1), -2);
    }

    private static void promise14NoneSuch() {
        for (int cat : new int[] {LEAST, -1, 3, 8, MOST}) {
            DUE.stays("cat " + cat, x -> x.sets(cat, 0), -1);
        }
        for (int arch : new int[] {LEAST, -1, 3, 6, MOST}) {
            DUE.stays("arch " + arch, x -> x.sets(0, arch), -1);
        }
        DUE.stays("both", x -> x.sets(3, 3), -1);
        DUE.is("the last of both", Alike.busy().sets(2, 2), 2);
    }

    // ---- promise 15

    private static void promise15From0To9() {
        for (int was = 0; was <= 9; was++) {
            for (int v = 0; v <= 9; v++) {
                PurringHolds x = Due.viaduct(String.valueOf(was), "", "");
                DUE.is("from " + was + " to " + v, x.loads(0, v), was == v ? -2 : 10 + was);
                DUE.is("load", x.arch(0, 0), v);
                DUE.is("what can be undone", x.count(11), was == v ? 0 : 1);
            }
        }
        for (int v : new int[] {LEAST, -1, 10, MOST}) {
            DUE.stays("v " + v, x -> x.loads(0, v), -1);
        }
        DUE.stays("it is so", x -> x.loads(0, 5), -2);
    }

    private static void promise15NoSuchArch() {
        for (int arch : new int[] {LEAST, -1, 3, 6, MOST}) {
            DUE.stays("arch " + arch, x -> x.loads(arch, 1), -1);
            DUE.stays("arch " + arch + ", v 10", x -> x.loads(arch, 10), -1);
        }
        DUE.is("the last", Alike.busy().loads(2, 9), 10);
    }

    // ---- promise 16

    private static void promise16EmptyText() {
        PurringHolds x = Alike.busy();
        DUE.tells("nothing", x, Due.night(x, ""), 0, 0, 2);
        DUE.is("what can be undone", x.count(11), 4);
    }

    private static void promise16SignThatCantStand() {
        String digits = "0123456789";
        for (int sign = 0; sign < 256; sign++) {
            char c = (char) sign;
            boolean digit = digits.indexOf(c) >= 0;
            DUE.is("an act, sign " + sign, Due.night(new PurringHolds(), "" + c), "nfpgsl".indexOf(c) >= 0 ? -2 : -1);
            DUE.is("n, sign " + sign, Due.night(new PurringHolds(), "n" + c + "x"), digit ? -3 : -2);
            DUE.is("p, sign " + sign, Due.night(new PurringHolds(), "p" + c + "x"), digit ? -3 : -2);
            for (String act : new String[] {"f", "g", "s", "l"}) {
                boolean from1 = act.equals("f") || act.equals("g");
                DUE.is(act + ", sign " + sign, Due.night(new PurringHolds(), act + c), digit ? -3 : -2);
                DUE.is(act + "0, sign " + sign, Due.night(new PurringHolds(), act + "0" + c + "x"), digit && !(from1 && c == '0') ? -4 : -3);
            }
        }
    }

    private static void promise16EndsTooEarly() {
        String acts = "n1f01p0g01s01l01";
        int[] due = {0, -2, 1, -4, -5, 2, -7, 3, -9, -10, 4, -12, -13, 5, -15, -16, 6};
        for (int n = 0; n <= acts.length(); n++) {
            PurringHolds x = Due.viaduct("5;5", "510;520", "");
            DUE.is("the first " + n, Due.night(x, acts.substring(0, n)), due[n]);
            DUE.is("hour", x.count(2), due[n] > 0 ? 1 : 0);
        }
    }

    private static void promise16MoreThanSixty() {
        String goes = "l01" + "n0".repeat(28) + "n";
        String ends = "n0".repeat(30);
        DUE.is("signs", goes.length() + ends.length(), 120);
        PurringHolds x = Due.viaduct("5", "", "");
        DUE.tells("60", x, Due.night(x, ends), 30, 0, 0);
        DUE.is("60 that could go on", Due.night(x, goes), -61);
        for (String more : new String[] {"0", "n", "x", "n0", "\u0000", "n0".repeat(10)}) {
            DUE.is("could end, more: " + more, Due.night(x, ends + more), -61);
            DUE.is("could go on, more: " + more, Due.night(x, goes + more), -61);
        }
        DUE.is("a fault at 59", Due.night(x, ends.substring(0, 59) + "x" + "n0"), -60);
        DUE.is("nothing of these was done", x.arch(0, 0), 5);
        DUE.is("what can be undone", x.count(11), 1);
    }

    private static void promise16FaultLeavesAll() {
        String[] texts = {"x", "n", "n1x", "n1f00", "p0g00", "s02s", "l09n1l0", "n1 ", "l09" + "n0".repeat(29)};
        int[] due = {-1, -2, -3, -5, -5, -5, -8, -3, -61};
        for (int i = 0; i < texts.length; i++) {
            String text = texts[i];
            DUE.staysButText("night of " + text, x -> Due.night(x, text), due[i]);
        }
    }

    private static void promise16EachActAtItsBounds() {
        PurringHolds x = Due.viaduct("1;2;3;4;5;6", "110;110;110;110;110;110;110;105", "");
        DUE.tells("n0 and n9", x, Due.night(x, "n0n9"), 2, 0, x.count(5));
        DUE.is("hour", x.count(2), 9);
        DUE.tells("the last cat is fed 1, 8 more, then too much", x, Due.night(x, "f71f78f71"), 2, 1, x.count(5));
        DUE.is("bowl", x.cat(7, 1), 9);
        DUE.tells("cat 8", x, Due.night(x, "f81"), 0, 1, x.count(5));
        DUE.tells("cat 9", x, Due.night(x, "p9"), 0, 1, x.count(5));
        DUE.tells("the last cat is petted till 9", x, Due.night(x, "p7".repeat(10)), 9, 1, x.count(5));
        DUE.is("joy", x.cat(7, 0), 9);
        DUE.tells("grief 1, 9 more", x, Due.night(x, "g71g79g71"), 3, 0, x.count(5));
        DUE.is("grief", x.cat(7, 2), 9);
        DUE.tells("to the first arch, the last, none such", x, Due.night(x, "s70s75s76"), 2, 1, x.count(5));
        DUE.is("arch", x.cat(7, 3), 5);
        DUE.tells("load 0, 9, the same", x, Due.night(x, "l50l59l59"), 2, 1, x.count(5));
        DUE.is("load", x.arch(5, 0), 9);
        DUE.tells("no such arch", x, Due.night(x, "l65"), 0, 1, x.count(5));
    }

    private static void promise16StopsAtWhatCant() {
        String[] cant = {"p2", "f12", "s00", "l05", "f31", "p3", "g31", "s30", "s03", "l30"};
        for (String act : cant) {
            PurringHolds x = Alike.busy();
            DUE.tells("first " + act, x, Due.night(x, act + "n9"), 0, 1, 2);
            DUE.is("what can be undone behind " + act, x.count(11), 4);
            DUE.is("hour behind " + act, x.count(2), 2);
            PurringHolds y = Alike.busy();
            DUE.tells("second " + act, y, Due.night(y, "n1" + act + "n9"), 1, 1, 1);
            DUE.is("what can be undone behind " + act, y.count(11), 5);
            DUE.is("hour behind " + act, y.count(2), 3);
        }
    }

    private static void promise16IsDoneAsTheCalls() {
        DUE.same("a night", x -> {
            Due.night(x, "n3f04p1g07s02l19n0");
            return forgets(x);
        }, x -> {
            x.hours(3);
            x.feeds(0, 4);
            x.pets(1);
            x.grieves(0, 7);
            x.sets(0, 2);
            x.loads(1, 9);
            return forgets(x);
        });
    }

    /** So that it is no matter by how many calls it came so. */
    private static long forgets(PurringHolds x) {
        x.end(0);
        x.keep(0);
        x.again(0);
        return x.holds();
    }

    // ---- promise 17

    private static void promise17TwelveAreKept() {
        for (int acts = 11; acts <= 14; acts++) {
            PurringHolds x = Due.viaduct("5", "500", "");
            for (int i = 1; i <= acts; i++) {
                x.hours(1);
            }
            int kept = Math.min(12, acts);
            DUE.is("of " + acts, x.count(11), kept);
            for (int left = kept - 1; left >= 0; left--) {
                DUE.is("undo", x.undo(), left);
            }
            DUE.is("hour", x.count(2), acts - kept);
            DUE.is("no more", x.undo(), -1);
            DUE.is("hour", x.count(2), acts - kept);
        }
    }

    private static void promise17None() {
        PurringHolds x = Due.viaduct("5", "500", "");
        DUE.is("none", x.undo(), -1);
        x.pets(0);
        DUE.is("one", x.undo(), 0);
        DUE.is("none", x.undo(), -1);
        DUE.is("joy", x.cat(0, 0), 5);
        x.holds();
        Due.write(x, "j");
        DUE.is("none", x.undo(), -1);
        DUE.row("the row stays", x, 1, 0);
        DUE.is("the text stays", x.count(13), 1);
    }

    private static void promise17HoursOf1AndMore() {
        PurringHolds x = Due.viaduct("5", "500", "");
        x.hours(0);
        DUE.is("hours 0", x.count(11), 0);
        x.hours(1);
        DUE.is("hours 1", x.count(11), 1);
        x.hours(0);
        DUE.is("hours 0", x.count(11), 1);
        x.hours(60);
        DUE.is("hours 60", x.count(11), 2);
    }

    private static void promise17NightOfWhichOneWasDone() {
        PurringHolds x = Due.viaduct("5", "500", "");
        Due.night(x, "");
        Due.night(x, "p1p0");
        Due.night(x, "x");
        DUE.is("none was done", x.count(11), 0);
        Due.night(x, "p0p1p0");
        DUE.is("one was done", x.count(11), 1);
        Due.night(x, "p0p0n1");
        DUE.is("as one", x.count(11), 2);
        DUE.is("undo", x.undo(), 1);
        DUE.is("joy", x.cat(0, 0), 6);
        DUE.is("hour", x.count(2), 0);
        DUE.is("undo", x.undo(), 0);
        DUE.is("joy", x.cat(0, 0), 5);
    }

    private static void promise17NotWhatWasNotDone() {
        PurringHolds x = Alike.busy();
        x.hours(61);
        x.feeds(1, 1);
        x.pets(2);
        x.grieves(0, 0);
        x.sets(0, 0);
        x.loads(0, 5);
        Due.night(x, "p2");
        DUE.is("what can be undone", x.count(11), 4);
        DUE.is("undo", x.undo(), 3);
        DUE.is("load", x.arch(1, 0), 9);
    }

    private static void promise17ForgottenByArches() {
        PurringHolds x = Alike.busy();
        Due.arches(x, "");
        DUE.is("an empty text", x.count(11), 4);
        Due.arches(x, "1;x");
        DUE.is("a refused one", x.count(11), 4);
        Due.arches(x, "1;2;3;4");
        DUE.is("no room", x.count(11), 4);
        Due.arches(x, "1");
        DUE.is("one came", x.count(11), 0);
        DUE.is("undo", x.undo(), -1);
    }

    private static void promise17ForgottenByCats() {
        PurringHolds x = Alike.busy();
        Due.cats(x, "");
        DUE.is("an empty text", x.count(11), 4);
        Due.cats(x, "113");
        DUE.is("a refused one", x.count(11), 4);
        Due.cats(x, "110;110;110;110;110;110");
        DUE.is("no room", x.count(11), 4);
        Due.cats(x, "110");
        DUE.is("one came", x.count(11), 0);
        DUE.is("undo", x.undo(), -1);
    }

    private static void promise17ForgottenByAgain() {
        PurringHolds x = Alike.busy();
        x.again(2);
        x.again(-1);
        DUE.is("a refused one", x.count(11), 4);
        x.again(1);
        DUE.is("again", x.count(11), 0);
        DUE.is("undo", x.undo(), -1);
    }

    private static void promise17AllIsAsAhead() {
        Alike.Act[] acts = {x -> x.hours(60), x -> x.feeds(0, 8), x -> x.pets(0), x -> x.grieves(1, 9), x -> x.sets(2, 2),
            x -> x.loads(0, 9), x -> Due.night(x, "n9f01p0g05s12l29")};
        for (int i = 0; i < acts.length; i++) {
            Alike.Act act = acts[i];
            DUE.same("act " + i, x -> {
                act.on(x);
                x.undo();
                x.end(0);
                return x.holds();
            }, x -> {
                x.end(0);
                return x.holds();
            });
        }
    }
}
