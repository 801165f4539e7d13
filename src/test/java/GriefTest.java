/** Promises 33 to 41: who grieves, by what an arch holds; how grief spreads; which cat it was. */
public final class GriefTest {
    private static final Due DUE = new Due();

    public static void main(String[] args) {
        promise33();
        promise34();
        promise35();
        promise36();
        promise37();
        promise38();
        promise39();
        promise40();
        promise41();
        DUE.close();
    }

    private static PurringHolds plain() {
        return Due.viaduct("5;3;0", "530;421;200", "");
    }

    private static void promise33() {
        PurringHolds x = plain();
        x.holds();
        DUE.is("arch 3", x.felt(3, 0), -1);
        DUE.is("arch -1", x.felt(-1, 0), -1);
        DUE.is("h 73", x.felt(0, 73), -1);
        DUE.is("h -1", x.felt(0, -1), -1);
        DUE.is("none such", x.count(9), 0);
        for (int i = 1; i <= 10; i++) {
            DUE.is("felt " + i, x.felt(i % 3, i == 1 ? 72 : 0), i);
        }
        DUE.is("an eleventh", x.felt(0, 0), -1);
        DUE.is("ten", x.count(9), 10);
        DUE.row("the row stays", x, 3, 0);
    }

    private static void promise34() {
        PurringHolds x = plain();
        DUE.is("none yet", x.forget(), 0);
        x.felt(0, 1);
        x.felt(0, 2);
        DUE.is("two", x.forget(), 2);
        DUE.is("none left", x.count(9), 0);
        DUE.is("all fit again", x.fits(), 7);
        for (int i = 1; i <= 10; i++) {
            DUE.is("felt " + i, x.felt(0, 0), i);
        }
    }

    private static void promise35() {
        PurringHolds x = plain();
        DUE.tells("nothing felt", x, x.fits(), 7, 3, 1);
        x.felt(0, 7);
        DUE.tells("none of that arch", x, x.fits(), 2, 1, 1);
        x.felt(1, 4);
        DUE.tells("none at all", x, x.fits(), 0, 0, 1);
        x.forget();
        x.felt(0, 5);
        DUE.tells("the last", x, x.fits(), 4, 1, 0);
        x.pets(0);
        DUE.tells("by what is now", x, x.fits(), 0, 0, 0);
        PurringHolds k = Due.viaduct("9", "500;600;700", "j-k");
        k.felt(0, 8);
        DUE.tells("the others purr as ever", k, k.fits(), 2, 1, 0);
        PurringHolds mute = Due.viaduct("9;9", "000;501", "");
        mute.felt(0, 0);
        mute.felt(1, 5);
        DUE.tells("one that does not purr anyway", mute, mute.fits(), 1, 1, 1);
    }

    private static void promise36() {
        PurringHolds x = Due.viaduct("9;9", "301;401;501", "");
        DUE.tells("all told apart", x, x.feels(), 1, 1);
        PurringHolds y = Due.viaduct("9;9;9", "500;500;501;602", "");
        DUE.tells("of equal ones the first", y, y.feels(), 0, 2);
        PurringHolds first = Due.viaduct("9;9", "500;301;301", "");
        first.felt(1, 6);
        DUE.tells("one is left", first, first.feels(), 0, 1);
        PurringHolds three = Due.viaduct("9", "400;300;300;300", "");
        DUE.tells("three alike", three, three.feels(), 0, 3);
        y.felt(0, 5);
        DUE.tells("both in one", y, y.feels(), 0, 2);
        y.felt(0, 6);
        DUE.is("none fits", y.feels(), -2);
        DUE.row("the row stays", y, 2);
        y.forget();
        y.felt(0, 10);
        DUE.tells("those two alone", y, y.feels(), 1, 1);
        PurringHolds none = Due.viaduct("1", "", "");
        DUE.is("no cats", none.feels(), -2);
        DUE.is("no arches", new PurringHolds().feels(), -2);
    }

    private static void promise37() {
        PurringHolds x = Due.viaduct("0;0;0;0;0;0", "500;501;502;505;504;500", "");
        DUE.tells("at once", x, x.spreads(0, 0), 1, 1, 2);
        DUE.tells("an hour", x, x.spreads(0, 1), 35, 3, 2);
        DUE.tells("two", x, x.spreads(0, 2), 39, 4, 2);
        DUE.tells("nine", x, x.spreads(0, 9), 39, 4, 2);
        DUE.tells("from the middle", x, x.spreads(1, 1), 39, 4, 1);
        DUE.tells("the others", x, x.spreads(3, 9), 24, 2, 1);
        x.sets(4, 3);
        DUE.tells("alone", x, x.spreads(3, 9), 8, 1, 0);
        DUE.tells("a bridge", x, x.spreads(0, 3), 55, 5, 3);
        DUE.is("n 10", x.spreads(0, 10), -1);
        DUE.is("n -1", x.spreads(0, -1), -1);
        DUE.is("cat 6", x.spreads(6, 0), -1);
        DUE.is("cat -1", x.spreads(-1, 0), -1);
        DUE.row("the row stays", x, 5, 3);
        PurringHolds far = Due.viaduct("0;0;0;0;0;0", "500;501;502;503;504;505", "");
        DUE.tells("to the end", far, far.spreads(0, 4), 31, 5, 5);
        DUE.tells("to the end", far, far.spreads(5, 5), 63, 6, 5);
    }

    private static void promise38() {
        int[] highest = {9, 9, 5, 9, 1};
        for (int what = -1; what <= 5; what++) {
            PurringHolds x = plain();
            int most = what < 0 || what > 4 ? -1 : highest[what];
            DUE.is("heard " + what + " below", x.heard(what, -1), -1);
            DUE.is("heard " + what + " above", x.heard(what, most + 1), -1);
            DUE.is("heard " + what, x.heard(what, most), most < 0 ? -1 : 1);
            DUE.is("heard " + what, x.heard(what, 0), most < 0 ? -1 : 2);
            DUE.is("such", x.count(10), most < 0 ? 0 : 2);
        }
        PurringHolds x = new PurringHolds();
        for (int i = 1; i <= 12; i++) {
            DUE.is("heard " + i, x.heard(i % 5, 1), i);
        }
        DUE.is("a thirteenth", x.heard(0, 0), -1);
        DUE.is("twelve", x.count(10), 12);
    }

    private static void promise39() {
        PurringHolds x = plain();
        DUE.is("none yet", x.denies(), 0);
        x.heard(0, 9);
        x.heard(1, 9);
        DUE.is("two", x.denies(), 2);
        DUE.is("none left", x.count(10), 0);
        DUE.is("all suit again", x.suits(), 7);
    }

    private static void suit(int what, int v, int due) {
        PurringHolds x = Due.viaduct("5;3;0", "530;421;200", "j+b");
        x.grieves(1, 2);
        x.heard(what, v);
        DUE.tells("suits " + what + " " + v, x, x.suits(), due, Integer.bitCount(due));
    }

    private static void promise40() {
        suit(0, 0, 7);
        suit(0, 4, 3);
        suit(0, 5, 1);
        suit(0, 6, 0);
        suit(1, 0, 7);
        suit(1, 1, 3);
        suit(1, 3, 1);
        suit(2, 0, 5);
        suit(2, 1, 2);
        suit(2, 5, 0);
        suit(3, 2, 7);
        suit(3, 6, 3);
        suit(3, 8, 1);
        suit(4, 0, 5);
        suit(4, 1, 2);
        PurringHolds x = plain();
        x.heard(0, 4);
        x.heard(2, 0);
        DUE.tells("all that was heard", x, x.suits(), 1, 1);
        x.sets(1, 0);
        DUE.tells("now", x, x.suits(), 3, 2);
    }

    private static void promise41() {
        PurringHolds x = plain();
        DUE.tells("of equal ones the least", x, x.asks(), 3, 2);
        x.heard(0, 9);
        DUE.is("none fits", x.asks(), -2);
        DUE.row("the row stays", x, 2);
        PurringHolds bowls = Due.viaduct("5", "510;520;530;540", "");
        DUE.tells("by bowl", bowls, bowls.asks(), 13, 2);
        bowls.heard(1, 3);
        DUE.tells("of those left", bowls, bowls.asks(), 14, 1);
        PurringHolds places = Due.viaduct("5;5;5", "550;551;552;552", "");
        DUE.tells("by arch", places, places.asks(), 22, 2);
        PurringHolds loud = Due.viaduct("5;3", "550;550;551", "l");
        Due.rule(loud, "k*4");
        loud.sets(2, 0);
        DUE.tells("all alike", loud, loud.asks(), 0, 3);
        loud.grieves(1, 1);
        DUE.tells("by grief", loud, loud.asks(), 40, 2);
        Due.rule(loud, "g*7");
        DUE.tells("by purr", loud, loud.asks(), 31, 2);
        DUE.is("no cats", new PurringHolds().asks(), -2);
        PurringHolds one = Due.viaduct("5", "550", "");
        DUE.tells("one cat", one, one.asks(), 0, 1);
        PurringHolds glad = Due.viaduct("5", "900;800", "");
        DUE.tells("the highest", glad, glad.asks(), 9, 1);
        PurringHolds last = Due.viaduct("0;0;0;0;0;0", "005;005;000;001", "0");
        DUE.tells("the last arch", last, last.asks(), 25, 2);
    }
}
