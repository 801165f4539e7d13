/** Promises 1 to 9: a new object, THE TEXT, arches, cats, the rule, what is told of them, sheets. */
public final class TextsTest {
    private static final Due DUE = new Due();

    public static void main(String[] args) {
        promise1();
        promise2();
        promise3();
        promise4();
        promise4Room();
        promise5();
        promise5Room();
        promise6Faults();
        promise6Limit();
        promise6Values();
        promise6Again();
        promise6OfACat();
        promise6Stays();
        promise7();
        promise8();
        promise9();
        promise9Refused();
        DUE.close();
    }

    private static void promise1() {
        PurringHolds x = new PurringHolds();
        for (int what = 0; what <= 13; what++) {
            DUE.is("new: count " + what, x.count(what), what == 3 ? 30 : 0);
        }
        DUE.is("NONE", PurringHolds.NONE, -1);
        DUE.nothingSuch("new: arch 0", () -> x.arch(0, 0));
        DUE.nothingSuch("new: cat 0", () -> x.cat(0, 0));
        DUE.nothingSuch("new: row 0", () -> x.row(0));
        DUE.no("new: again", x.again(0));
        DUE.is("new: undo", x.undo(), -1);
        Due.arches(x, "9");
        Due.cats(x, "740");
        x.grieves(0, 2);
        DUE.is("at first the rule is j-g", x.cat(0, 4), 5);
        DUE.tells("at first the rule is j-g", x, Due.law(x, "j"), 0, 9, 9, 7);
    }

    private static void promise2() {
        PurringHolds x = new PurringHolds();
        for (int n = 4; n <= 80; n += 4) {
            DUE.is("sign, " + n, x.sign(0x31323334), n);
        }
        DUE.is("sign, 81 and more", x.sign(0x31323334), -1);
        DUE.is("a refused sign leaves the text", x.count(13), 80);
        x.end(77);
        DUE.is("sign behind 77", x.sign(0), -1);
        x.end(76);
        DUE.is("sign behind 76", x.sign(0), 80);
        PurringHolds y = new PurringHolds();
        y.sign(0x313b323b);
        y.sign(0x33000000);
        y.end(5);
        DUE.is("the highest byte first", y.arches(), 3);
        DUE.is("first load", y.arch(0, 0), 1);
        DUE.is("last load", y.arch(2, 0), 3);
    }

    private static void promise3() {
        PurringHolds x = new PurringHolds();
        DUE.yes("end 0 of none", x.end(0));
        DUE.no("end 1 of none", x.end(1));
        x.sign(0x31323334);
        DUE.no("end -1", x.end(-1));
        DUE.no("end 5 of 4", x.end(5));
        DUE.is("signs", x.count(13), 4);
        DUE.yes("end 4 of 4", x.end(4));
        DUE.yes("end 1", x.end(1));
        DUE.is("signs", x.count(13), 1);
        DUE.no("end 2 of 1", x.end(2));
        DUE.is("the first sign is left", x.arches(), 1);
        DUE.is("load", x.arch(0, 0), 1);
    }

    private static void promise4() {
        String[] texts = {"", "0", "9;8", "1;2;3;4;5;6", ";", "1;", "1;;", "12", "a", "1a", "1;a", "1; 2", "1:2", "/", ":",
            "1;2;3;4;5;6;", "1;2;3;4;5;6;7", "1;2;3;4;5;66", "1;2;3;4;5;", "\u00b1", "1;\u0000"};
        int[] due = {0, 1, 2, 6, -1, -3, -3, -2, -1, -2, -3, -3, -2, -1, -1, -12, -12, -12, -11, -1, -3};
        for (int i = 0; i < texts.length; i++) {
            PurringHolds x = new PurringHolds();
            DUE.is("arches of " + texts[i], Due.arches(x, texts[i]), due[i]);
            DUE.is("there are, of " + texts[i], x.count(0), Math.max(0, due[i]));
            DUE.is("the text is empty, of " + texts[i], x.count(13), 0);
        }
    }

    private static void promise4Room() {
        PurringHolds x = new PurringHolds();
        Due.arches(x, "1;2;3;4");
        DUE.is("no room for a third", Due.arches(x, "5;6;7"), -5);
        DUE.is("no room, faults behind it", Due.arches(x, "5;6;x"), -5);
        DUE.is("ends where there is no room", Due.arches(x, "5;6;"), -5);
        DUE.is("no room, ahead of the twelfth", Due.arches(x, "5;6;7;8;9;1;2"), -5);
        DUE.is("nothing of it came", x.count(0), 4);
        DUE.is("two more", Due.arches(x, "5;6"), 2);
        DUE.is("behind the others", x.arch(4, 0), 5);
        DUE.is("behind the others", x.arch(5, 0), 6);
        DUE.is("sag at first", x.arch(5, 1), 0);
        DUE.is("no room at all", Due.arches(x, "1"), -1);
        DUE.is("nothing, without room", Due.arches(x, ""), 0);
    }

    private static void promise5() {
        String[] texts = {"", "000", "991;120", "000;111;220;331;440;551;660;771", "1", "12", "12;", "120;", "1200", "12a",
            "1a0", "a20", "122", "120;1", "120;123", ";", "120,", "000;111;220;331;440;551;660;771;",
            "000;111;220;331;440;551;660;7710", "000;111;220;331;440;551;660;77"};
        int[] due = {0, 1, 2, 8, -2, -3, -3, -5, -4, -3, -2, -1, -3, -6, -7, -1, -4, -32, -32, -31};
        for (int i = 0; i < texts.length; i++) {
            PurringHolds x = new PurringHolds();
            Due.arches(x, "4;5");
            DUE.is("cats of " + texts[i], Due.cats(x, texts[i]), due[i]);
            DUE.is("there are, of " + texts[i], x.count(1), Math.max(0, due[i]));
            DUE.is("the text is empty, of " + texts[i], x.count(13), 0);
        }
        PurringHolds none = new PurringHolds();
        DUE.is("cats without arches", Due.cats(none, "120"), -3);
        DUE.is("cats without arches, early end", Due.cats(none, "12"), -3);
    }

    private static void promise5Room() {
        PurringHolds x = new PurringHolds();
        Due.arches(x, "4;5");
        Due.cats(x, "000;111;220;331;440;551;670");
        DUE.is("no room for a ninth", Due.cats(x, "120;340"), -5);
        DUE.is("nothing of it came", x.count(1), 7);
        DUE.is("an eighth", Due.cats(x, "891"), 1);
        DUE.is("joy", x.cat(7, 0), 8);
        DUE.is("bowl", x.cat(7, 1), 9);
        DUE.is("grief", x.cat(7, 2), 0);
        DUE.is("arch", x.cat(7, 3), 1);
        DUE.is("no room at all", Due.cats(x, "120"), -1);
        DUE.is("nothing, without room", Due.cats(x, ""), 0);
    }

    private static void promise6Faults() {
        String[] texts = {"j", ")", "j)", "()", "(j", "j j", "jb", "j1", "1j", "(1)2", "123", "1234", "j<b", "j<b>g", "j<b=g",
            "(j<b)<g", "j<(b<g)", "((((j))))", "(((((j", "j+(((((", "*j", "+j", "j+*", "<j", "j<", "-", "--j", "j--g",
            "j*-g", "~j", "J", "((j))+((((g))))", "(j)(g)", "(j<b", "(j<b)+1<2", "j<(1)<2", "(1<2)+(3<4)", "\u00e9", "j\u0000",
            "0", "000", "j-", "j/", "jj", "k", "l", "s", "n", "b", "g", "f", "(j<b<g)", "1+2 ", "12(", "j(", "(-)", "a"};
        int[] due = {0, -1, -2, -2, -3, -2, -2, -2, -2, -4, 0, -4, 0, -4, -4,
            0, 0, 0, -5, -7, -1, -1, -3, -1, -3, -2, 0, 0,
            0, -1, -1, 0, -4, -5, 0, -6, 0, -1, -2,
            0, 0, -3, -3, -2, 0, 0, 0, 0, 0, 0, -1, -5, -4, -3, -2, -3, -1};
        for (int i = 0; i < texts.length; i++) {
            PurringHolds x = new PurringHolds();
            DUE.is("rule of " + texts[i], Due.rule(x, texts[i]), due[i]);
            DUE.is("the text is empty, of " + texts[i], x.count(13), 0);
            DUE.is("law of " + texts[i], Due.law(x, texts[i]), due[i] == 0 ? 0 : -9999 + due[i]);
        }
    }

    private static void promise6Limit() {
        PurringHolds x = new PurringHolds();
        DUE.is("40 signs", Due.rule(x, "10" + "+0".repeat(19)), 0);
        DUE.is("40 signs that end too early", Due.rule(x, "j" + "+0".repeat(19) + "+"), -41);
        DUE.is("41 signs, the first 40 could go on", Due.rule(x, "j" + "+0".repeat(20)), -41);
        DUE.is("41 signs, the first 40 could end", Due.rule(x, "10" + "+0".repeat(19) + "+"), -41);
        DUE.is("41 signs, the last can't stand", Due.rule(x, "10" + "+0".repeat(19) + "x"), -41);
        DUE.is("more signs, a fault among the first 40", Due.rule(x, "10" + "+0".repeat(18) + "+)" + "+0+0"), -40);
        DUE.is("80 signs", Due.rule(x, "-".repeat(80)), -41);
        DUE.is("39 times -", Due.rule(x, "-".repeat(39) + "5"), 0);
        DUE.is("40 times -", Due.rule(x, "-".repeat(40)), -41);
        DUE.is("empty", Due.rule(x, ""), 0);
    }

    private static void promise6Values() {
        String[] texts = {"", "j-g", "1+2*3", "(1+2)*3", "9-3-2", "8/2/2", "7/0", "7/0+3", "-7/2+9", "2*-3+9", "--5", "---5", "99",
            "0-5", "1<2", "2<1", "2<2", "2>1", "2>2", "1>2", "2=2", "2=3", "1+1=2", "3*(1<2)", "0-999*999*999*999",
            "(1<2)=(2<3)", "-(3)+5", "-j+9", "-2*3+9", "10-2*3", "6/4*2", "2*3/4", "(1<2)+(3<4)", "9", "10", "0", "007",
            "2*(3+(4-(5-(1))))-1", "-9/2+9", "9-8+7", "8-2*3/2", "1-2<0", "0<1-2", "5-(2=2)", "100/25", "-(-(3))", "9/(1-1)"};
        int[] due = {7, 7, 7, 9, 4, 2, 0, 3, 6, 3, 5, 0, 9,
            0, 1, 0, 0, 1, 0, 0, 1, 0, 1, 3, 9,
            1, 2, 2, 3, 4, 2, 1, 2, 9, 9, 0, 7,
            5, 5, 8, 5, 1, 0, 4, 4, 3, 0};
        for (int i = 0; i < texts.length; i++) {
            PurringHolds x = Due.viaduct("6", "720", texts[i]);
            DUE.is("purr by " + texts[i], x.cat(0, 4), due[i]);
        }
    }

    /** Rules one behind another on one object: nothing of one is left in the next. */
    private static void promise6Again() {
        PurringHolds x = Due.viaduct("6", "720", "");
        for (int i = 0; i < 60; i++) {
            DUE.is("a long rule", Due.rule(x, "1+(2*(3-(4/(5)))-6)+" + "0+".repeat(i % 9) + i % 5), 0);
            DUE.is("a long rule", x.cat(0, 4), Math.max(0, 1 + (2 * 3 - 6) + i % 5));
            DUE.is("a fault", Due.rule(x, i % 2 == 0 ? "(3<4" : "--7*123)"), i % 2 == 0 ? -5 : -8);
            DUE.is("a digit first", Due.rule(x, "5" + "-0".repeat(i % 4)), 0);
            DUE.is("a digit first", x.cat(0, 4), 5);
        }
    }

    private static void promise6OfACat() {
        PurringHolds x = Due.viaduct("6;2", "720;531;640;111", "j");
        x.grieves(0, 4);
        x.hours(1);
        // HOLD of arch 0 was 13, so that its SAG is 0; of arch 1 it was 6
        String letters = "jbgklsn";
        int[] due = {7, 1, 3, 1, 6, 0, 1};
        for (int i = 0; i < letters.length(); i++) {
            Due.rule(x, letters.substring(i, i + 1));
            DUE.is("a letter " + letters.charAt(i), x.cat(0, 4), due[i]);
        }
        Due.rule(x, "0");
        x.hours(9);
        Due.rule(x, "s");
        DUE.is("sag", x.cat(1, 4), 9);
        Due.rule(x, "n");
        DUE.is("hour 10 by 7", x.cat(0, 4), 3);
        Due.rule(x, "k*3");
        DUE.is("others", x.cat(2, 4), 3);
        x.sets(2, 1);
        DUE.is("others, set elsewhere", x.cat(2, 4), 6);
        DUE.is("others, left alone", x.cat(0, 4), 0);
    }

    private static void promise6Stays() {
        PurringHolds x = Due.viaduct("6", "720", "3");
        DUE.is("a fault", Due.rule(x, "x"), -1);
        DUE.is("the rule stays", x.cat(0, 4), 3);
        DUE.is("a fault at the end", Due.rule(x, "4+5-"), -5);
        DUE.is("the rule stays", x.cat(0, 4), 3);
        x.pets(0);
        Due.rule(x, "4");
        DUE.is("the rule forgets nothing to undo", x.undo(), 0);
        DUE.is("the rule is not undone", x.cat(0, 4), 4);
        DUE.is("none again", Due.rule(x, ""), 0);
        DUE.is("j-g", x.cat(0, 4), 7);
        x.grieves(0, 3);
        DUE.is("j-g", x.cat(0, 4), 4);
    }

    private static void promise7() {
        PurringHolds x = Due.viaduct("5;3;0", "530;421;200", "");
        x.loads(1, 9);
        x.hours(1);
        DUE.is("load", x.arch(0, 0), 5);
        DUE.is("load", x.arch(1, 0), 9);
        DUE.is("sag", x.arch(0, 1), 0);
        DUE.is("sag", x.arch(1, 1), 1);
        DUE.is("cats", x.arch(0, 2), 5);
        DUE.is("cats", x.arch(1, 2), 2);
        DUE.is("cats", x.arch(2, 2), 0);
        DUE.is("hold", x.arch(0, 3), 6);
        DUE.is("hold", x.arch(2, 3), 0);
        DUE.nothingSuch("arch 3", () -> x.arch(3, 0));
        DUE.nothingSuch("arch -1", () -> x.arch(-1, 0));
        DUE.nothingSuch("arch 0, 4", () -> x.arch(0, 4));
        DUE.nothingSuch("arch 0, -1", () -> x.arch(0, -1));
        DUE.nothingSuch("arch least", () -> x.arch(Integer.MIN_VALUE, Integer.MAX_VALUE));
    }

    private static void promise8() {
        PurringHolds x = Due.viaduct("5;3;0", "532;421;200", "j+b-g");
        x.grieves(0, 2);
        DUE.is("joy", x.cat(0, 0), 5);
        DUE.is("bowl", x.cat(0, 1), 3);
        DUE.is("grief", x.cat(0, 2), 2);
        DUE.is("arch", x.cat(0, 3), 2);
        DUE.is("purr", x.cat(0, 4), 6);
        DUE.is("purr", x.cat(1, 4), 6);
        DUE.nothingSuch("cat 3", () -> x.cat(3, 0));
        DUE.nothingSuch("cat -1", () -> x.cat(-1, 0));
        DUE.nothingSuch("cat 0, 5", () -> x.cat(0, 5));
        DUE.nothingSuch("cat 0, -1", () -> x.cat(0, -1));
    }

    private static void sheet(int[] call, int answer, int... loads) {
        PurringHolds x = new PurringHolds();
        Due.arches(x, "7;7;7;7");
        DUE.is("sheet " + call[0] + " of " + call[1], x.sheet(call[0], call[1], call[2], call[3]), answer);
        for (int a = 0; a < 4; a++) {
            DUE.is("sheet " + call[0] + " of " + call[1] + ", load " + a, x.arch(a, 0), loads[a]);
        }
        DUE.is("nothing to undo", x.count(11), 0);
    }

    private static void promise9() {
        sheet(new int[] {0, 4, 1, 2}, 16, 1, 3, 5, 7);
        sheet(new int[] {0, 2, 1, 2}, 4, 1, 3, 0, 0);
        sheet(new int[] {0, 0, 1, 2}, 0, 0, 0, 0, 0);
        sheet(new int[] {0, 4, 127, 1}, 9, 9, 0, 0, 0);
        sheet(new int[] {0, 4, 254, 1}, 1, 0, 0, 0, 1);
        sheet(new int[] {1, 4, 32766, 1}, 18, 9, 9, 0, 0);
        sheet(new int[] {1, 4, 65534, 2}, 6, 0, 0, 2, 4);
        sheet(new int[] {1, 4, 254, 1}, 36, 9, 9, 9, 9);
        sheet(new int[] {2, 4, 65534, 2}, 36, 9, 9, 9, 9);
        sheet(new int[] {2, 4, Integer.MAX_VALUE, 1}, 9, 9, 0, 0, 0);
        sheet(new int[] {2, 4, 9, -3}, 18, 9, 6, 3, 0);
        sheet(new int[] {2, 6, 1, 1}, 10, 1, 2, 3, 4);
        sheet(new int[] {3, 4, 5, 0}, -3, 0, 0, 0, 0);
        sheet(new int[] {3, -1, 5, 0}, -3, 0, 0, 0, 0);
        PurringHolds x = new PurringHolds();
        Due.arches(x, "7;7;7");
        x.loads(0, 5);
        x.sheet(2, 3, 1, 1);
        DUE.is("undo behind a sheet", x.undo(), 0);
        DUE.is("loads are back", x.count(6), 21);
        DUE.is("a sheet without arches", new PurringHolds().sheet(0, 6, 5, 0), 0);
    }

    private static void promise9Refused() {
        sheet(new int[] {0, 7, 1, 1}, -1, 7, 7, 7, 7);
        sheet(new int[] {3, 7, 1, 1}, -1, 7, 7, 7, 7);
        sheet(new int[] {4, 3, 1, 1}, -1, 7, 7, 7, 7);
        sheet(new int[] {-1, -1, 1, 1}, -1, 7, 7, 7, 7);
        sheet(new int[] {4, -1, 1, 1}, -1, 7, 7, 7, 7);
        sheet(new int[] {0, -1, 1, 1}, -2, 7, 7, 7, 7);
        sheet(new int[] {1, -1, 1, 1}, -2, 7, 7, 7, 7);
        sheet(new int[] {2, Integer.MIN_VALUE, 1, 1}, -2, 7, 7, 7, 7);
    }
}
