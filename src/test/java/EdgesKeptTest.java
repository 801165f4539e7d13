/** Promises 48 to 51, each sentence that names a bound: the last that is allowed, the first beyond it, what is left alone. */
public final class EdgesKeptTest {
    private static final Due DUE = new Due();
    private static final int LEAST = Integer.MIN_VALUE;
    private static final int MOST = Integer.MAX_VALUE;

    public static void main(String[] args) throws ReflectiveOperationException {
        DUE.tests(EdgesKeptTest.class);
    }

    // ---- promise 48

    private static void promise48From0To1() {
        DUE.yes("0", Alike.busy().keep(0));
        DUE.yes("1", Alike.busy().keep(1));
        DUE.yes("nothing at all is kept, too", new PurringHolds().keep(1));
        for (int i : new int[] {LEAST, -1, 2, MOST}) {
            DUE.stays("keep " + i, x -> x.keep(i) ? 1 : 0, 0);
        }
    }

    private static void promise48EachForItself() {
        PurringHolds x = Due.viaduct("5", "100", "");
        x.keep(0);
        x.pets(0);
        x.keep(1);
        x.pets(0);
        DUE.yes("again 0", x.again(0));
        DUE.is("joy", x.cat(0, 0), 1);
        DUE.yes("again 1", x.again(1));
        DUE.is("joy", x.cat(0, 0), 2);
        x.pets(0);
        x.keep(0);
        DUE.yes("again 1", x.again(1));
        DUE.is("the other stays", x.cat(0, 0), 2);
        DUE.yes("again 0", x.again(0));
        DUE.is("it is kept anew", x.cat(0, 0), 3);
    }

    private static void promise48ChangesNothingElse() {
        PurringHolds x = Alike.busy();
        x.keep(0);
        DUE.is("what can be undone", x.count(11), 4);
        DUE.is("the text", x.count(13), 5);
        DUE.row("the row", x, 3, 0);
        x.undo();
        DUE.yes("again", x.again(0));
        DUE.is("what was kept is not undone", x.arch(1, 0), 4);
    }

    private static void promise48WhatUndoBringsBack() {
        DUE.same("a night behind it", x -> {
            x.keep(1);
            Due.night(x, "n9f01p0g05s12l29");
            x.again(1);
            return x.holds();
        }, x -> {
            x.keep(1);
            x.again(1);
            x.end(0);
            return x.holds();
        });
    }

    // ---- promise 49

    private static void promise49NothingKept() {
        PurringHolds x = Due.viaduct("5", "100", "");
        x.pets(0);
        x.holds();
        DUE.no("0", x.again(0));
        DUE.no("1", x.again(1));
        x.keep(1);
        DUE.no("0 still", x.again(0));
        DUE.is("what can be undone", x.count(11), 1);
        DUE.is("joy", x.cat(0, 0), 2);
        DUE.yes("1", x.again(1));
        for (int i : new int[] {LEAST, -1, 2, MOST}) {
            DUE.stays("again " + i, y -> y.again(i) ? 1 : 0, 0);
        }
    }

    private static void promise49ArchesCameSince() {
        PurringHolds x = Alike.busy();
        Due.arches(x, "");
        Due.arches(x, "1;2;3;4");
        DUE.yes("none came", x.again(0));
        Due.arches(x, "1");
        DUE.no("one came", x.again(0));
        DUE.no("one came", x.again(1));
        DUE.is("arches", x.count(0), 4);
        x.keep(1);
        DUE.no("kept ahead of it", x.again(0));
        DUE.yes("kept behind it", x.again(1));
    }

    private static void promise49CatsCameSince() {
        PurringHolds x = Alike.busy();
        Due.cats(x, "");
        Due.cats(x, "113");
        DUE.yes("none came", x.again(0));
        x.pets(0);
        Due.cats(x, "110");
        x.pets(0);
        DUE.no("one came", x.again(0));
        DUE.no("one came", x.again(1));
        DUE.is("cats", x.count(1), 4);
        DUE.is("what can be undone", x.count(11), 1);
        DUE.is("joy", x.cat(0, 0), 7);
        x.keep(1);
        DUE.no("kept ahead of it", x.again(0));
        DUE.yes("kept behind it", x.again(1));
    }

    private static void promise49AgainAndAgain() {
        PurringHolds x = Due.viaduct("5", "100", "");
        x.keep(0);
        for (int i = 0; i < 5; i++) {
            x.pets(0);
            x.hours(60);
            DUE.yes("again", x.again(0));
            DUE.is("joy", x.cat(0, 0), 1);
            DUE.is("hour", x.count(2), 0);
            DUE.is("nothing to undo", x.undo(), -1);
        }
    }

    // ---- promise 50

    private static void promise50From0To13() {
        int[] due = {3, 3, 2, 27, 0, 2, 9, 18, 18, 1, 2, 4, 2, 5};
        for (int what = 0; what <= 13; what++) {
            int w = what;
            DUE.stays("count " + what, x -> x.count(w), due[what]);
        }
        for (int what : new int[] {LEAST, -1, 14, MOST}) {
            DUE.stays("count " + what, x -> x.count(what), -1);
        }
    }

    private static void promise50TheMost() {
        PurringHolds x = Due.viaduct("9;9;9;9;9;9", "990;990;990;990;990;990;990;990", "0");
        x.hours(9);
        for (int i = 0; i < 80; i++) {
            x.sign(0);
        }
        for (int i = 0; i < 13; i++) {
            x.grieves(0, 1);
            x.felt(0, 0);
            x.heard(0, 0);
        }
        Due.rule(x, "9");
        for (int i = 0; i < 21; i++) {
            x.sign(0);
        }
        int[] due = {6, 8, 9, 30, 0, 54, 54, 72, 72, 10, 12, 12, 2, 80};
        for (int what = 0; what <= 13; what++) {
            DUE.is("count " + what, x.count(what), due[what]);
        }
        x.law();
        x.sign(0);
        DUE.is("the text", x.count(13), 4);
    }

    // ---- promise 51

    private static void promise51FromTheFirstToTheLast() {
        DUE.stays("row -1", x -> x.row(-1), Alike.NOTHING_SUCH);
        DUE.stays("row 0", x -> x.row(0), 3);
        DUE.stays("row 1", x -> x.row(1), 0);
        DUE.stays("row 2", x -> x.row(2), Alike.NOTHING_SUCH);
        DUE.stays("row most", x -> x.row(MOST), Alike.NOTHING_SUCH);
        DUE.stays("row least", x -> x.row(LEAST), Alike.NOTHING_SUCH);
    }

    private static void promise51OfNone() {
        PurringHolds x = new PurringHolds();
        DUE.nothingSuch("at first", () -> x.row(0));
        x.holds();
        x.trades();
        DUE.nothingSuch("behind one of none", () -> x.row(0));
        DUE.is("numbers", x.count(12), 0);
    }

    private static void promise51TheLongest() {
        PurringHolds x = Due.viaduct("1;2;3;4;5;6", "100;201;302;403;504;605", "");
        Due.law(x, "j");
        DUE.is("numbers", x.count(12), 8);
        DUE.is("the last", x.row(7), 6);
        DUE.nothingSuch("one more", () -> x.row(8));
        x.suits();
        DUE.is("numbers", x.count(12), 1);
        DUE.nothingSuch("what was told ahead is gone", () -> x.row(1));
    }
}
