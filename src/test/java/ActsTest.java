/** Promises 10 to 17: hours, cats that are fed, petted, that grieve, are set elsewhere, loads, nights, undone. */
public final class ActsTest {
    private static final Due DUE = new Due();

    public static void main(String[] args) {
        promise10();
        promise10Sag();
        promise10Drops();
        promise10Refused();
        promise11();
        promise12();
        promise13();
        promise14();
        promise15();
        promise16();
        promise16Faults();
        promise16Limit();
        promise16Stops();
        promise17();
        promise17Twelve();
        promise17Kinds();
        promise17Forgets();
        DUE.close();
    }

    private static PurringHolds plain() {
        return Due.viaduct("5;3;0", "530;421;200", "");
    }

    private static void promise10() {
        PurringHolds x = plain();
        x.grieves(1, 2);
        DUE.tells("hours 0", x, x.hours(0), 0, 0, 11);
        DUE.is("hours 0: hour", x.count(2), 0);
        DUE.tells("hours 1", x, x.hours(1), 1, 0, 10);
        DUE.is("hour", x.count(2), 1);
        DUE.is("bowl is less", x.cat(0, 1), 2);
        DUE.is("joy stays by the bowl", x.cat(0, 0), 5);
        DUE.is("joy is less without", x.cat(2, 0), 1);
        DUE.is("bowl stays 0", x.cat(2, 1), 0);
        DUE.is("grief is less", x.cat(1, 2), 1);
        DUE.tells("hours 2", x, x.hours(2), 0, 0, 8);
        DUE.is("grief stays 0", x.cat(1, 2), 0);
        DUE.is("joy stays 0", x.cat(2, 0), 0);
        DUE.tells("hours 3", x, x.hours(3), 4, 0, 2);
        DUE.is("hour", x.count(2), 6);
    }

    /** By n, the HOUR itself: less than 3, then as much, then more. */
    private static void promise10Sag() {
        PurringHolds x = Due.viaduct("3", "500", "n");
        int[] sags = {1, 2, 3, 3, 2, 1, 0, 1, 2};
        for (int h = 0; h < sags.length; h++) {
            DUE.is("sag behind hour " + h, x.hours(1), sags[h]);
        }
        PurringHolds y = Due.viaduct("0", "900", "");
        DUE.is("sag is 0 at least", y.hours(3), 0);
        PurringHolds z = Due.viaduct("9;4", "500;301", "j-s");
        z.hours(2);
        DUE.is("hold as it is ahead of the hour", z.arch(0, 3), 1);
        DUE.is("hold as it is ahead of the hour", z.arch(1, 3), 0);
    }

    private static void promise10Drops() {
        PurringHolds x = new PurringHolds();
        Due.arches(x, "9;9;9;9;9;9");
        DUE.tells("all down", x, x.hours(9), 54, 0, 0);
        DUE.is("no drops yet", x.count(4), 0);
        DUE.tells("one hour", x, x.hours(1), 54, 6, 0);
        DUE.is("drops", x.count(4), 6);
        for (int i = 1; i <= 27; i++) {
            DUE.tells("sixty hours", x, x.hours(60), 54, 360, 0);
            DUE.is("drops", x.count(4), 6 + 360 * i);
        }
        DUE.tells("whole, though 9999 are the most", x, x.hours(60), 54, 360, 0);
        DUE.is("drops", x.count(4), 9999);
        DUE.tells("years whole, too", x, x.years(1, 60), 54, 6L * hoursDrawn(1, 60), 30);
        x.undo();
        DUE.is("drops undone", x.count(4), 9726);
        PurringHolds y = Due.viaduct("5", "590", "");
        Due.rule(y, "0");
        y.hours(9);
        Due.rule(y, "5");
        DUE.tells("as much as is due: it stays, and nothing drops", y, y.hours(3), 9, 0, 2);
    }

    private static int hoursDrawn(int seed, int n) {
        int hours = 0;
        int r = seed;
        for (int i = 0; i < n; i++) {
            r = r * 1103515245 + 12345;
            hours += (r >>> 16) % 4 < 2 ? 1 : 0;
        }
        return hours;
    }

    private static void promise10Refused() {
        PurringHolds x = plain();
        x.holds();
        DUE.is("hours -1", x.hours(-1), -1);
        DUE.is("hours 61", x.hours(61), -1);
        DUE.row("the row stays", x, 3, 0);
        DUE.is("hour", x.count(2), 0);
        DUE.is("nothing to undo", x.count(11), 0);
        x.hours(60);
        DUE.is("hour", x.count(2), 60);
    }

    private static void promise11() {
        PurringHolds x = plain();
        x.holds();
        DUE.is("feeds 9 a full one", x.feeds(2, 9), 9);
        DUE.is("store", x.count(3), 21);
        DUE.is("bowl", x.cat(2, 1), 9);
        DUE.is("above 9", x.feeds(2, 1), -3);
        DUE.is("feeds 6", x.feeds(0, 6), 9);
        DUE.is("feeds 7", x.feeds(1, 7), 9);
        DUE.is("store", x.count(3), 8);
        DUE.is("store comes ahead of bowl", x.feeds(1, 9), -2);
        x.hours(9);
        DUE.is("store has not so much", x.feeds(0, 9), -2);
        DUE.is("store has just so much", x.feeds(0, 8), 8);
        DUE.is("store is empty", x.count(3), 0);
        DUE.is("store has none", x.feeds(1, 1), -2);
        DUE.is("n 0", x.feeds(1, 0), -1);
        DUE.is("n 10", x.feeds(1, 10), -1);
        DUE.is("cat 3", x.feeds(3, 1), -1);
        DUE.is("cat -1", x.feeds(-1, 1), -1);
        DUE.is("what can be undone", x.count(11), 5);
        DUE.is("the row stays", x.count(12), 2);
    }

    private static void promise12() {
        PurringHolds x = Due.viaduct("5", "800", "");
        DUE.is("pets", x.pets(0), 9);
        DUE.is("joy", x.cat(0, 0), 9);
        DUE.is("it is 9", x.pets(0), -2);
        DUE.is("cat 1", x.pets(1), -1);
        DUE.is("cat -1", x.pets(-1), -1);
        DUE.is("what can be undone", x.count(11), 1);
    }

    private static void promise13() {
        PurringHolds x = Due.viaduct("5", "800", "");
        DUE.is("grieves 1", x.grieves(0, 1), 1);
        DUE.is("grieves 7 more", x.grieves(0, 7), 8);
        DUE.is("9 at most", x.grieves(0, 9), 9);
        DUE.is("grief", x.cat(0, 2), 9);
        DUE.is("9 at most", x.grieves(0, 1), 9);
        DUE.is("n 0", x.grieves(0, 0), -1);
        DUE.is("n 10", x.grieves(0, 10), -1);
        DUE.is("cat 1", x.grieves(1, 1), -1);
        DUE.is("cat -1", x.grieves(-1, 1), -1);
        DUE.is("what can be undone", x.count(11), 4);
    }

    private static void promise14() {
        PurringHolds x = Due.viaduct("5;5;5;5", "803", "");
        DUE.is("sets back", x.sets(0, 1), 2);
        DUE.is("arch", x.cat(0, 3), 1);
        DUE.is("it is there", x.sets(0, 1), -2);
        DUE.is("sets on", x.sets(0, 2), 1);
        DUE.is("arch 4", x.sets(0, 4), -1);
        DUE.is("arch -1", x.sets(0, -1), -1);
        DUE.is("cat 1", x.sets(1, 0), -1);
        DUE.is("cat -1", x.sets(-1, 0), -1);
        DUE.is("arch", x.cat(0, 3), 2);
        DUE.is("what can be undone", x.count(11), 2);
    }

    private static void promise15() {
        PurringHolds x = Due.viaduct("5;4", "", "");
        DUE.is("loads", x.loads(0, 9), 15);
        DUE.is("loads", x.loads(0, 0), 19);
        DUE.is("loads", x.loads(0, 3), 10);
        DUE.is("load", x.arch(0, 0), 3);
        DUE.is("it is so", x.loads(0, 3), -2);
        DUE.is("v 10", x.loads(0, 10), -1);
        DUE.is("v -1", x.loads(0, -1), -1);
        DUE.is("arch 2", x.loads(2, 1), -1);
        DUE.is("arch -1", x.loads(-1, 1), -1);
        DUE.is("what can be undone", x.count(11), 3);
    }

    private static void promise16() {
        PurringHolds x = plain();
        DUE.tells("a night", x, Due.night(x, "n1f22p2g03s01l25"), 6, 0, 0);
        DUE.is("hour", x.count(2), 1);
        DUE.is("bowl", x.cat(2, 1), 2);
        DUE.is("store", x.count(3), 28);
        DUE.is("joy", x.cat(2, 0), 2);
        DUE.is("grief", x.cat(0, 2), 3);
        DUE.is("arch", x.cat(0, 3), 1);
        DUE.is("load", x.arch(2, 0), 5);
        DUE.is("the text is empty", x.count(13), 0);
        DUE.tells("sags then", x, Due.night(x, "n2"), 1, 0, 4);
        DUE.is("each night is one", x.count(11), 2);
        DUE.is("undone", x.undo(), 1);
        DUE.is("undone", x.undo(), 0);
        DUE.is("load", x.arch(2, 0), 0);
        DUE.is("arch", x.cat(0, 3), 0);
        DUE.is("hour", x.count(2), 0);
        DUE.tells("hours of 0 are done", x, Due.night(x, "n0"), 1, 0, 0);
        DUE.is("and can be undone", x.count(11), 1);
        DUE.tells("an empty one", x, Due.night(x, ""), 0, 0, 0);
        DUE.is("can't", x.count(11), 1);
        PurringHolds low = Due.viaduct("9", "", "");
        DUE.tells("hours with drops are done, too", low, Due.night(low, "n9n9n3"), 3, 0, 9);
        DUE.is("drops", low.count(4), 12);
    }

    private static void promise16Faults() {
        String[] texts = {"x", "n", "nn", "n1;", "f", "f0", "f00", "fx", "f0x", "g", "g0", "g00", "g0:", "p", "p/", "s", "s0", "s0x",
            "l", "l0", "l0x", "n1n", "n1 ", "N1", "0", "p0p0x", "\u00ee1", "n1f01q"};
        int[] due = {-1, -2, -2, -3, -2, -3, -3, -2, -3, -2, -3, -3, -3, -2, -2, -2, -3, -3,
            -2, -3, -3, -4, -3, -1, -1, -5, -1, -6};
        for (int i = 0; i < texts.length; i++) {
            PurringHolds x = plain();
            x.holds();
            DUE.tells("night of " + texts[i], x, Due.night(x, texts[i]), due[i], 3, 0);
            DUE.is("nothing is done, " + texts[i], x.count(2) + x.count(11) + x.count(13), 0);
            DUE.is("nothing is done, " + texts[i], x.count(7), 11);
        }
    }

    private static void promise16Limit() {
        PurringHolds x = plain();
        DUE.tells("60 signs", x, Due.night(x, "n0".repeat(30)), 30, 0, 0);
        DUE.is("61 signs", Due.night(x, "n0".repeat(30) + "n"), -61);
        DUE.is("61 signs, the last can't stand", Due.night(x, "n0".repeat(30) + "x"), -61);
        DUE.is("62 signs, the first 60 could go on", Due.night(x, "p0s" + "n0".repeat(28) + "n0"), -4);
        DUE.is("62 signs, the first 60 could go on", Due.night(x, "l00" + "n0".repeat(28) + "n1n"), -61);
        DUE.is("60 signs that end too early", Due.night(x, "l00" + "n0".repeat(28) + "n"), -61);
        DUE.is("80 signs, a fault among the first 60", Due.night(x, "n0".repeat(29) + "nx" + "n0".repeat(10)), -60);
        DUE.is("nothing is done", x.count(2), 0);
    }

    private static void promise16Stops() {
        String[] texts = {"p9", "s00", "l05", "f09", "f39", "g35", "s09", "l30", "p3"};
        for (String text : texts) {
            PurringHolds x = plain();
            DUE.tells("can't be: " + text, x, Due.night(x, text + "n1"), 0, 1, 0);
            DUE.is("can't be: " + text, x.count(11), 0);
            DUE.is("can't be: " + text, x.count(2), 0);
            DUE.tells("one, then can't be: " + text, x, Due.night(x, "n1" + text + "n1"), 1, 1, 0);
            DUE.is("one, then can't be: " + text, x.count(11), 1);
            DUE.is("one, then can't be: " + text, x.count(2), 1);
        }
    }

    private static void promise17() {
        PurringHolds x = plain();
        DUE.is("nothing yet", x.undo(), -1);
        Due.night(x, "l29s02g25f05p1n9");
        x.holds();
        DUE.is("undo", x.undo(), 0);
        DUE.is("the row stays", x.count(12), 2);
        PurringHolds y = plain();
        for (int a = 0; a < 3; a++) {
            for (int what = 0; what <= 3; what++) {
                DUE.is("arch as ahead", x.arch(a, what), y.arch(a, what));
            }
        }
        for (int c = 0; c < 3; c++) {
            for (int what = 0; what <= 4; what++) {
                DUE.is("cat as ahead", x.cat(c, what), y.cat(c, what));
            }
        }
        for (int what = 0; what <= 8; what++) {
            DUE.is("count as ahead", x.count(what), y.count(what));
        }
        DUE.is("nothing more", x.undo(), -1);
    }

    private static void promise17Twelve() {
        PurringHolds x = Due.viaduct("0", "", "");
        for (int i = 1; i <= 14; i++) {
            x.loads(0, i % 10);
            DUE.is("can be undone", x.count(11), Math.min(i, 12));
        }
        for (int left = 11; left >= 0; left--) {
            DUE.is("undo", x.undo(), left);
        }
        DUE.is("the latest twelve were kept", x.arch(0, 0), 2);
        DUE.is("no more", x.undo(), -1);
        x.loads(0, 7);
        x.loads(0, 8);
        x.undo();
        x.loads(0, 6);
        DUE.is("undo goes on behind an undo", x.undo(), 1);
        DUE.is("load", x.arch(0, 0), 7);
    }

    private static void promise17Kinds() {
        PurringHolds x = plain();
        x.hours(0);
        x.feeds(0, 9);
        x.pets(9);
        x.sets(0, 0);
        x.loads(0, 5);
        x.grieves(0, 10);
        x.sheet(0, 3, 1, 1);
        x.years(3, 30);
        x.later(0, 5);
        Due.night(x, "p9");
        DUE.is("none of these can be undone", x.count(11), 0);
        x.hours(1);
        x.feeds(0, 1);
        x.pets(0);
        x.sets(0, 1);
        x.loads(0, 9);
        x.grieves(0, 1);
        Due.night(x, "p0");
        DUE.is("all of these can", x.count(11), 7);
        int[] joy = {6, 6, 6, 6, 5, 5, 5};
        int[] bowl = {3, 3, 3, 3, 3, 2, 3};
        int[] grief = {1, 0, 0, 0, 0, 0, 0};
        int[] where = {1, 1, 1, 0, 0, 0, 0};
        int[] load = {9, 9, 1, 1, 1, 1, 1};
        for (int i = 0; i < 7; i++) {
            DUE.is("undo " + i, x.undo(), 6 - i);
            DUE.is("joy behind undo " + i, x.cat(0, 0), joy[i]);
            DUE.is("bowl behind undo " + i, x.cat(0, 1), bowl[i]);
            DUE.is("grief behind undo " + i, x.cat(0, 2), grief[i]);
            DUE.is("arch behind undo " + i, x.cat(0, 3), where[i]);
            DUE.is("load behind undo " + i, x.arch(0, 0), load[i]);
        }
        DUE.is("hour", x.count(2), 0);
    }

    private static void promise17Forgets() {
        PurringHolds x = plain();
        x.pets(0);
        Due.arches(x, "");
        Due.cats(x, "");
        Due.arches(x, "x");
        Due.cats(x, "x");
        x.again(0);
        DUE.is("not forgotten by refused ones and empty texts", x.count(11), 1);
        Due.arches(x, "1");
        DUE.is("arches forget", x.undo(), -1);
        x.pets(0);
        Due.cats(x, "550");
        DUE.is("cats forget", x.undo(), -1);
        x.keep(0);
        x.pets(0);
        DUE.is("keep does not", x.count(11), 1);
        x.again(0);
        DUE.is("again forgets", x.undo(), -1);
    }
}
