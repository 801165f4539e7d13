/** Promises 25 to 32: trades, needs, guards, where and whom to cheer, trains that are borne, the trolley. */
public final class CatsToArchesTest {
    private static final Due DUE = new Due();

    public static void main(String[] args) {
        promise25();
        promise26();
        promise26K();
        promise27();
        promise28();
        promise29();
        promise30();
        promise30Faults();
        promise31();
        promise32();
        changeNothing();
        DUE.close();
    }

    private static void promise25() {
        PurringHolds x = Due.viaduct("5;1", "110;901;901", "");
        DUE.tells("of as good ones the least row", x, x.trades(), 2, 0, 1);
        x.sets(0, 1);
        x.sets(1, 0);
        DUE.tells("as many hold as it is", x, x.trades(), 2);
        PurringHolds y = Due.viaduct("9;1;1", "510;511;402;902", "");
        DUE.tells("only the last", y, y.trades(), 3, 0, 3);
        PurringHolds k = Due.viaduct("5;5", "600;501;401", "j-k");
        DUE.tells("k as it is then", k, k.trades(), 2);
        PurringHolds l = Due.viaduct("9;2", "900;501", "l-2+k*0");
        DUE.tells("l of the arch it comes to", l, l.trades(), 0);
        PurringHolds none = new PurringHolds();
        none.holds();
        DUE.tells("no arches", none, none.trades(), 0);
    }

    private static void promise26() {
        PurringHolds x = Due.viaduct("5;3;0;9", "530;421;200", "");
        DUE.tells("one", x, x.needs(0), 1, 1, 5);
        DUE.tells("of as few the least", x, x.needs(1), 1, 1, 5);
        DUE.tells("none", x, x.needs(2), 0, 0, 0);
        DUE.tells("two", x, x.needs(3), 2, 3, 9);
        DUE.is("arch 4", x.needs(4), -1);
        DUE.is("arch -1", x.needs(-1), -1);
        x.grieves(0, 5);
        DUE.is("no set does", x.needs(3), -2);
        DUE.row("the row stays", x, 3, 9);
        PurringHolds none = Due.viaduct("1;0", "", "");
        DUE.is("no cats", none.needs(0), -2);
        DUE.tells("no cats, no load", none, none.needs(1), 0, 0, 0);
    }

    private static void promise26K() {
        PurringHolds x = Due.viaduct("6;0", "301;401;501", "j-k+l-6");
        DUE.tells("k by them alone, l of that arch", x, x.needs(0), 2, 5, 6);
        PurringHolds all = Due.viaduct("9;9", "201;201;201;201", "k");
        DUE.tells("k by them alone", all, all.needs(0), 4, 15, 12);
    }

    private static void promise27() {
        PurringHolds x = Due.viaduct("5;3;0", "300;500", "j-k*9");
        DUE.tells("each another one, alone", x, x.guards(), 3, 1, 0, -1);
        PurringHolds y = Due.viaduct("3;3;9;0", "500;500;500", "");
        DUE.tells("of as many the least row", y, y.guards(), 3, 0, 1, -1, -1);
        PurringHolds z = Due.viaduct("4;9;5", "500", "");
        DUE.tells("none is less than a cat", z, z.guards(), 1, -1, -1, 0);
        PurringHolds w = Due.viaduct("3;5", "500;300", "");
        DUE.tells("all in their turn", w, w.guards(), 2, 1, 0);
        PurringHolds l = Due.viaduct("1;9", "500;501", "(l>5)*9");
        DUE.tells("l of that arch", l, l.guards(), 1, -1, 0);
        PurringHolds full = Due.viaduct("1;2;3;4;5;6", "600;500;400;300;200;100;000;000", "");
        DUE.tells("six", full, full.guards(), 6, 5, 4, 3, 2, 1, 0);
        full.grieves(0, 9);
        DUE.tells("asked again", full, full.guards(), 5, 5, 4, 3, 2, 1, -1);
        PurringHolds cats = Due.viaduct("5;5", "", "");
        DUE.tells("no cats", cats, cats.guards(), 0, -1, -1);
        PurringHolds none = new PurringHolds();
        none.holds();
        DUE.tells("no arches", none, none.guards(), 0);
    }

    private static void promise28() {
        PurringHolds x = Due.viaduct("3;3", "500;500", "");
        DUE.tells("where it lacks", x, x.best(0, 1), 1, 0, 1);
        DUE.tells("where it lacks", x, x.best(1, 1), 1, 0, 1);
        DUE.is("n 0", x.best(0, 0), -1);
        DUE.is("n 31", x.best(0, 31), -1);
        DUE.is("cat 2", x.best(2, 1), -1);
        DUE.is("cat -1", x.best(-1, 1), -1);
        DUE.row("the row stays", x, 0, 1);
        PurringHolds y = Due.viaduct("9;9;9", "502", "");
        DUE.tells("of equal ones the first", y, y.best(0, 30), 0, 27, 27);
        PurringHolds z = Due.viaduct("2;0", "331;230", "");
        DUE.tells("as it is, too", z, z.best(1, 4), 0, 0, 0);
        DUE.is("arch", z.cat(1, 3), 0);
    }

    private static void promise29() {
        PurringHolds x = Due.viaduct("4;4", "300;301", "");
        DUE.tells("of equal ones the first", x, x.cheers(1), 0, 1, 2);
        x.loads(0, 9);
        DUE.tells("the other", x, x.cheers(1), 1, 1, 2);
        DUE.is("n 0", x.cheers(0), -1);
        DUE.is("n 31", x.cheers(31), -1);
        DUE.tells("n 30", x, x.cheers(30), 0, 18, 18);
        x.loads(0, 5);
        x.loads(1, 5);
        DUE.tells("one more, not two", x, x.cheers(1), 0, 2, 2);
        PurringHolds nine = Due.viaduct("1", "990", "10-j");
        DUE.tells("9 at most", nine, nine.cheers(1), 0, 0, 0);
        PurringHolds none = Due.viaduct("1", "", "");
        none.holds();
        DUE.is("no cats", none.cheers(1), -2);
        DUE.is("no cats, n 0", none.cheers(0), -1);
        DUE.row("the row stays", none, 0, 1);
    }

    private static void promise30() {
        PurringHolds x = Due.viaduct("5;3;0", "530;421;200", "");
        DUE.tells("7766", x, Due.bears(x, "7766", 0), 1, 3);
        DUE.tells("5", x, Due.bears(x, "5", 0), 1, 0);
        DUE.tells("8", x, Due.bears(x, "8", 0), 0, 1);
        DUE.tells("twenty", x, Due.bears(x, "0".repeat(20), 0), 20, 0);
        DUE.tells("joy goes by as ever", x, Due.bears(x, "1".repeat(20), 0), 8, 9);
        PurringHolds l = Due.viaduct("0", "900", "9-l");
        DUE.tells("by l, too", l, Due.bears(l, "4", 0), 1, 0);
        DUE.tells("by l, too", l, Due.bears(l, "5", 0), 0, 1);
        DUE.tells("then one lacks", l, Due.bears(l, "45", 0), 1, 1);
        DUE.tells("only the first count", l, Due.bears(l, "4454", 0), 2, 0);
        DUE.tells("all go by", l, Due.bears(l, "5404", 0), 0, 0);
        DUE.is("load stays", l.arch(0, 0), 0);
        DUE.is("hour stays", l.count(2), 0);
    }

    private static void promise30Faults() {
        PurringHolds x = Due.viaduct("5", "530", "");
        x.holds();
        String[] texts = {"", "x", "5x", "5;", "1".repeat(21), "1".repeat(40), "1".repeat(19) + "x", "1".repeat(20) + "x"};
        int[] due = {-1, -1, -2, -2, -21, -21, -20, -21};
        for (int i = 0; i < texts.length; i++) {
            DUE.is("bears of " + texts[i], Due.bears(x, texts[i], 0), due[i]);
            DUE.is("text first, of " + texts[i], Due.bears(x, texts[i], 1), due[i]);
            DUE.is("the text is empty, of " + texts[i], x.count(13), 0);
        }
        DUE.is("no such arch", Due.bears(x, "5", 1), -100);
        DUE.is("no such arch", Due.bears(x, "5", -1), -100);
        DUE.is("the text is empty", x.count(13), 0);
        DUE.row("the row stays", x, 1, 0);
    }

    private static void promise31() {
        PurringHolds x = Due.viaduct("9;0;0;9;0;0", "", "");
        for (int a = 0; a < 6; a++) {
            DUE.tells("nowhere to go from " + a, x, x.trolley(a), 0, a);
        }
        x.hours(1);
        int[] steps = {3, 4, 4, 3, 4, 5};
        int[] ends = {3, 3, 0, 0, 0, 0};
        for (int a = 0; a < 6; a++) {
            DUE.tells("from " + a, x, x.trolley(a), steps[a], ends[a]);
        }
        DUE.is("arch 6", x.trolley(6), -1);
        DUE.is("arch -1", x.trolley(-1), -1);
        DUE.row("the row stays", x, 0);
        PurringHolds y = Due.viaduct("9;0;9", "", "");
        y.hours(1);
        DUE.tells("of as few the least", y, y.trolley(1), 3, 0);
        PurringHolds w = Due.viaduct("0;9;0;0;9", "", "");
        w.hours(1);
        DUE.tells("the nearer end first", w, w.trolley(2), 4, 4);
        DUE.tells("the nearer end first", w, w.trolley(3), 4, 1);
        PurringHolds z = Due.viaduct("0;0;9", "", "");
        z.hours(1);
        DUE.tells("it is there", z, z.trolley(2), 0, 2);
        DUE.tells("on", z, z.trolley(0), 2, 2);
    }

    private static void promise32() {
        PurringHolds x = Due.viaduct("0;0;9;0;9;0", "", "");
        DUE.tells("nowhere to go", x, x.depot(), 0, 0);
        x.hours(1);
        DUE.tells("of equal ones the first", x, x.depot(), 2, 2);
        PurringHolds none = new PurringHolds();
        none.holds();
        DUE.is("no arches", none.depot(), -2);
        DUE.row("the row stays", none, 0, 0);
    }

    private static void changeNothing() {
        PurringHolds x = Due.viaduct("5;3;0", "530;421;200", "");
        x.hours(6);
        x.trades();
        x.needs(0);
        x.guards();
        x.best(0, 30);
        x.cheers(30);
        Due.bears(x, "99999", 0);
        x.trolley(0);
        x.depot();
        DUE.is("hour", x.count(2), 6);
        DUE.is("sags", x.count(5), 4);
        DUE.is("loads", x.count(6), 8);
        DUE.is("joy", x.count(7), 2);
        DUE.is("cat", x.cat(0, 3), 0);
        DUE.is("undone", x.count(11), 1);
    }
}
