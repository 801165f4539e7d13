/** Promises 1 to 9, each sentence that names a bound: the last that is allowed, the first beyond it, what is left alone. */
public final class EdgesTextsTest {
    private static final Due DUE = new Due();
    private static final int[] FAR = {Integer.MIN_VALUE, -100, -2, -1};

    public static void main(String[] args) throws ReflectiveOperationException {
        DUE.tests(EdgesTextsTest.class);
    }

    private static PurringHolds archesOf(int n) {
        return Due.viaduct("1;2;3;4;5;6".substring(0, Math.max(0, 2 * n - 1)), "", "");
    }

    // ---- promise 1

    private static void promise1NothingIsThere() {
        PurringHolds x = new PurringHolds();
        int[] due = {0, 0, 0, 30, 0, 0, 0, 0, 0, 0, 0, 0, 0, 0};
        for (int what = 0; what < due.length; what++) {
            DUE.is("count " + what, x.count(what), due[what]);
        }
        DUE.nothingSuch("arch", () -> x.arch(0, 0));
        DUE.nothingSuch("cat", () -> x.cat(0, 0));
        DUE.nothingSuch("row", () -> x.row(0));
    }

    private static void promise1NoArchToAsk() {
        PurringHolds x = new PurringHolds();
        DUE.is("later", x.later(0, 0), -1);
        DUE.is("when", x.when(0, 0), -1);
        DUE.is("needs", x.needs(0), -1);
        DUE.is("bears", Due.bears(x, "5", 0), -100);
        DUE.is("trolley", x.trolley(0), -1);
        DUE.is("felt", x.felt(0, 0), -1);
        DUE.is("odds", x.odds(0, 0), -1);
        DUE.is("loads", x.loads(0, 0), -1);
        DUE.is("weakest", x.weakest(), -2);
        DUE.is("depot", x.depot(), -2);
        DUE.is("down", x.down(), -2);
        DUE.is("feels", x.feels(), -2);
    }

    private static void promise1NoCatToAsk() {
        PurringHolds x = new PurringHolds();
        DUE.is("feeds", x.feeds(0, 1), -1);
        DUE.is("pets", x.pets(0), -1);
        DUE.is("grieves", x.grieves(0, 1), -1);
        DUE.is("sets", x.sets(0, 0), -1);
        DUE.is("best", x.best(0, 1), -1);
        DUE.is("spreads", x.spreads(0, 0), -1);
        DUE.is("cheers", x.cheers(1), -2);
        DUE.is("asks", x.asks(), -2);
    }

    private static void promise1AllThatIsTheRest() {
        PurringHolds x = new PurringHolds();
        DUE.tells("holds", x, x.holds(), 0, 0, 0);
        DUE.tells("safe", x, x.safe(), 0, 100);
        DUE.tells("loudest", x, x.loudest(99), 0, 0, 0, 0);
        DUE.tells("trades", x, x.trades(), 0);
        DUE.tells("guards", x, x.guards(), 0);
        DUE.tells("fits", x, x.fits(), 0, 0, 1);
        DUE.tells("suits", x, x.suits(), 0, 0);
        DUE.tells("stands", x, x.stands(10), 0, 1, 1);
        DUE.tells("law", x, x.law(), 0, 0, 0);
        DUE.tells("years", x, x.years(9, 60), 0, 0, 30);
        DUE.is("sheet", x.sheet(2, 6, 9, 0), 0);
        DUE.tells("night", x, Due.night(x, "n9"), 1, 0, 0);
        DUE.tells("hours", x, x.hours(60), 0, 0, 0);
        DUE.is("hour", x.count(2), 69);
    }

    // ---- promise 2

    private static void promise2EightySigns() {
        for (int has = 72; has <= 80; has++) {
            PurringHolds x = new PurringHolds();
            Due.write(x, "-".repeat(has));
            DUE.is("behind " + has, x.sign(0x31323334), has <= 76 ? has + 4 : -1);
            DUE.is("signs", x.count(13), has <= 76 ? has + 4 : has);
        }
    }

    private static void promise2HighestByteFirst() {
        PurringHolds x = new PurringHolds();
        x.sign('7' << 24 | ';' << 16 | '8' << 8 | ';');
        x.sign('9' << 24);
        x.end(5);
        DUE.is("7;8;9", x.arches(), 3);
        for (int a = 0; a < 3; a++) {
            DUE.is("load " + a, x.arch(a, 0), 7 + a);
        }
    }

    private static void promise2AllBytesAreSigns() {
        int[] odd = {-1, 0, Integer.MIN_VALUE, Integer.MAX_VALUE, 0x80808080, 0xb1b1b1b1};
        for (int v : odd) {
            PurringHolds x = new PurringHolds();
            DUE.is("sign " + v, x.sign(v), 4);
            DUE.is("they can't stand, " + v, x.arches(), -1);
            x.sign(v);
            DUE.is("nor in a rule, " + v, x.rule(), -1);
        }
    }

    private static void promise2RefusedLeavesAll() {
        DUE.same("a sign too many", x -> {
            Due.write(x, "j+1".repeat(25) + "-" + "1+1-");
            return x.sign(0x29292929);
        }, x -> {
            Due.write(x, "j+1".repeat(25) + "-" + "1+1-");
            return 0;
        });
        PurringHolds x = new PurringHolds();
        Due.write(x, "5" + "\u0000".repeat(79));
        DUE.is("refused", x.sign(0x39393939), -1);
        x.end(1);
        DUE.is("the first sign is as it was", x.arches(), 1);
        DUE.is("load", x.arch(0, 0), 5);
    }

    // ---- promise 3

    private static void promise3NotSoMany() {
        for (int has = 0; has <= 80; has += 4) {
            PurringHolds x = new PurringHolds();
            for (int n = 0; n < has; n += 4) {
                x.sign(0x35353535);
            }
            DUE.no("one more than " + has, x.end(has + 1));
            DUE.no("far more than " + has, x.end(Integer.MAX_VALUE));
            DUE.is("signs", x.count(13), has);
            DUE.yes("all " + has, x.end(has));
            DUE.is("signs", x.count(13), has);
        }
    }

    private static void promise3Below0() {
        for (int n : FAR) {
            DUE.stays("end " + n, x -> x.end(n) ? 1 : 0, 0);
            DUE.no("end " + n + " of none", new PurringHolds().end(n));
        }
        DUE.stays("one too many", x -> x.end(6) ? 1 : 0, 0);
    }

    private static void promise3FirstSignsAlone() {
        for (int n = 0; n <= 4; n++) {
            PurringHolds x = Due.viaduct("5", "", "");
            x.sign('1' << 24 | '2' << 16 | '0' << 8 | ';');
            DUE.yes("end " + n, x.end(n));
            DUE.is("signs", x.count(13), n);
            DUE.is("cats of the first " + n, x.cats(), n == 0 ? 0 : n == 3 ? 1 : -1 - n);
        }
        PurringHolds y = new PurringHolds();
        y.sign(0x35353535);
        DUE.yes("end 1", y.end(1));
        DUE.no("what is gone is gone", y.end(2));
    }

    // ---- promise 4

    private static void promise4EmptyText() {
        for (int n = 0; n <= 6; n++) {
            PurringHolds x = archesOf(n);
            DUE.is("nothing, of " + n, Due.arches(x, ""), 0);
            DUE.is("arches", x.count(0), n);
        }
        DUE.staysButText("it changes nothing", x -> Due.arches(x, ""), 0);
    }

    private static void promise4SignThatCantStand() {
        for (int p = 0; p <= 10; p++) {
            for (int sign = 0; sign < 256; sign++) {
                boolean stands = p % 2 == 0 ? sign >= '0' && sign <= '9' : sign == ';';
                String text = "1;2;3;4;5;6".substring(0, p) + (char) sign + "1;2;3;4;5;6;".substring(p + 1);
                DUE.is("sign " + sign + " at " + p, Due.arches(new PurringHolds(), text), stands ? -12 : -1 - p);
            }
        }
    }

    private static void promise4EndsTooEarly() {
        for (int n = 1; n <= 11; n++) {
            PurringHolds x = new PurringHolds();
            DUE.is("the first " + n, Due.arches(x, "1;2;3;4;5;6".substring(0, n)), n % 2 == 1 ? (n + 1) / 2 : -1 - n);
            DUE.is("arches", x.count(0), n % 2 == 1 ? (n + 1) / 2 : 0);
        }
    }

    private static void promise4MoreThanEleven() {
        String eleven = "1;2;3;4;5;6";
        DUE.is("11", Due.arches(new PurringHolds(), eleven), 6);
        for (String more : new String[] {";", "7", "x", ";7", "\u0000", ";7;8;9;0", "7".repeat(69)}) {
            PurringHolds x = new PurringHolds();
            DUE.is("more: " + more, Due.arches(x, eleven + more), -12);
            DUE.is("nothing came", x.count(0), 0);
        }
        DUE.is("a fault among the first 11", Due.arches(new PurringHolds(), "1;2;3;4;5;;7"), -11);
        DUE.is("a fault among the first 11", Due.arches(new PurringHolds(), "12;3;4;5;6;7;8"), -2);
    }

    private static void promise4NoRoom() {
        String lines = "9;8;7;6;5;4;3;2";
        for (int n = 0; n <= 6; n++) {
            for (int more = 1; more <= 7; more++) {
                PurringHolds x = archesOf(n);
                int room = 6 - n;
                int due = more <= room ? more : room == 6 ? -12 : -1 - 2 * room;
                DUE.is(more + " more than " + n, Due.arches(x, lines.substring(0, 2 * more - 1)), due);
                DUE.is("arches", x.count(0), more <= room ? n + more : n);
                DUE.is("loads", x.count(6), n * (n + 1) / 2 + (more <= room ? more * (19 - more) / 2 : 0));
            }
        }
    }

    private static void promise4NoRoomByItsFirstSign() {
        PurringHolds x = archesOf(5);
        DUE.is("a sign that can't stand, either", Due.arches(x, "1;x"), -3);
        DUE.is("it ends ahead of it", Due.arches(x, "1;"), -3);
        DUE.is("a fault ahead of it", Due.arches(x, "1x2"), -2);
        DUE.is("its first sign, not a later one", Due.arches(x, "1;22"), -3);
        DUE.is("another behind it", Due.arches(x, "1;2;3"), -3);
        DUE.is("arches", x.count(0), 5);
        DUE.is("the room is still there", Due.arches(x, "1"), 1);
    }

    private static void promise4NothingComes() {
        String[] texts = {"x", "1;", "1;x", "1;2;3;x", "1;2;3;4", "1;2;3;4;5;6;7", "11"};
        int[] due = {-1, -3, -3, -7, -7, -7, -2};
        for (int i = 0; i < texts.length; i++) {
            String text = texts[i];
            DUE.staysButText("arches of " + text, x -> Due.arches(x, text), due[i]);
        }
    }

    private static void promise4BehindTheOthers() {
        PurringHolds x = Alike.busy();
        DUE.is("two more", Due.arches(x, "8;7"), 2);
        int[] loads = {5, 4, 0, 8, 7};
        for (int a = 0; a < loads.length; a++) {
            DUE.is("load " + a, x.arch(a, 0), loads[a]);
            DUE.is("sag " + a, x.arch(a, 1), a == 1 ? 2 : 0);
        }
        DUE.is("the text is empty", x.count(13), 0);
    }

    // ---- promise 5

    private static void promise5EmptyText() {
        DUE.is("nothing, without arches", Due.cats(new PurringHolds(), ""), 0);
        DUE.is("nothing, without room", Due.cats(Due.viaduct("5", "110;220;330;440;550;660;770;880", ""), ""), 0);
        DUE.staysButText("it changes nothing", x -> Due.cats(x, ""), 0);
    }

    private static void promise5SignThatCantStand() {
        String lines = "110;221;330;441;550;661;770;881";
        for (int p = 0; p <= 30; p++) {
            for (int sign = 0; sign < 256; sign++) {
                int last = p % 4 == 2 ? '1' : '9';
                boolean stands = p % 4 == 3 ? sign == ';' : sign >= '0' && sign <= last;
                String text = lines.substring(0, p) + (char) sign + (lines + ";").substring(p + 1);
                DUE.is("sign " + sign + " at " + p, Due.cats(Due.viaduct("5;5", "", ""), text), stands ? -32 : -1 - p);
            }
        }
    }

    private static void promise5EndsTooEarly() {
        String lines = "110;221;330;441;550;661;770;881";
        for (int n = 1; n <= 31; n++) {
            PurringHolds x = Due.viaduct("5;5", "", "");
            DUE.is("the first " + n, Due.cats(x, lines.substring(0, n)), n % 4 == 3 ? (n + 1) / 4 : -1 - n);
            DUE.is("cats", x.count(1), n % 4 == 3 ? (n + 1) / 4 : 0);
        }
    }

    private static void promise5MoreThanThirtyOne() {
        String lines = "110;221;330;441;550;661;770;881";
        for (String more : new String[] {";", "7", "x", ";1", ";110", ";110;220", "\u0000", "1".repeat(49)}) {
            PurringHolds x = Due.viaduct("5;5", "", "");
            DUE.is("more: " + more, Due.cats(x, lines + more), -32);
            DUE.is("nothing came", x.count(1), 0);
        }
        DUE.is("a fault among the first 31", Due.cats(Due.viaduct("5;5", "", ""), "110;221;330;441;550;661;770;882;"), -31);
    }

    private static void promise5NoRoom() {
        String lines = "910;820;730;640;550;460;370;280;190";
        for (int n = 0; n <= 8; n++) {
            for (int more = 1; more <= 9; more++) {
                PurringHolds x = Due.viaduct("5", "000;000;000;000;000;000;000;000".substring(0, Math.max(0, 4 * n - 1)), "");
                int room = 8 - n;
                int due = more <= room ? more : room == 8 ? -32 : -1 - 4 * room;
                DUE.is(more + " more than " + n, Due.cats(x, lines.substring(0, 4 * more - 1)), due);
                DUE.is("cats", x.count(1), more <= room ? n + more : n);
                DUE.is("joy", x.count(7), more <= room ? more * (19 - more) / 2 : 0);
            }
        }
    }

    private static void promise5NoRoomByItsFirstSign() {
        PurringHolds x = Due.viaduct("5", "000;000;000;000;000;000;000", "");
        DUE.is("a sign that can't stand, either", Due.cats(x, "110;x"), -5);
        DUE.is("it ends ahead of it", Due.cats(x, "110;"), -5);
        DUE.is("a fault ahead of it", Due.cats(x, "119;110"), -3);
        DUE.is("its first sign, not a later one", Due.cats(x, "110;119"), -5);
        DUE.is("cats", x.count(1), 7);
    }

    private static void promise5ArchThatIsNotThere() {
        for (int arches = 0; arches <= 6; arches++) {
            for (int d = 0; d <= 9; d++) {
                PurringHolds x = archesOf(arches);
                DUE.is("arch " + d + " of " + arches, Due.cats(x, "12" + d), d < arches ? 1 : -3);
                PurringHolds y = archesOf(arches);
                DUE.is("arch " + d + " of " + arches + ", behind", Due.cats(y, "120;34" + d), arches == 0 ? -3 : d < arches ? 2 : -7);
                DUE.is("cats", y.count(1), d < arches ? 2 : 0);
            }
        }
    }

    private static void promise5NothingComes() {
        String[] texts = {"x", "1", "11", "110;", "113", "110;x", "110;113", "110;1", "110;11", "110220", "110;110;110;110;110;110"};
        int[] due = {-1, -2, -3, -5, -3, -5, -7, -6, -7, -4, -21};
        for (int i = 0; i < texts.length; i++) {
            String text = texts[i];
            DUE.staysButText("cats of " + text, x -> Due.cats(x, text), due[i]);
        }
    }

    // ---- promise 6

    private static void promise6EmptyText() {
        PurringHolds x = Due.viaduct("5", "720", "9");
        x.grieves(0, 3);
        DUE.is("by 9", x.cat(0, 4), 9);
        DUE.is("none", Due.rule(x, ""), 0);
        DUE.is("none is j-g", x.cat(0, 4), 4);
        DUE.is("none again", Due.rule(x, ""), 0);
        DUE.is("none is j-g", x.cat(0, 4), 4);
    }

    private static void promise6EndsTooEarly() {
        String rule = "-(j+12)*((b<g)-k)/l+n";
        boolean[] could = new boolean[rule.length() + 1];
        could[7] = true;
        could[17] = true;
        could[19] = true;
        could[21] = true;
        for (int n = 1; n <= rule.length(); n++) {
            String first = rule.substring(0, n);
            DUE.is("the first " + n, Due.rule(new PurringHolds(), first), could[n] ? 0 : -1 - n);
            DUE.is("law of the first " + n, Due.law(new PurringHolds(), first), could[n] ? 0 : -10000 - n);
        }
    }

    private static void promise6MoreThanForty() {
        String goes = "j" + "+0".repeat(19) + "+";
        String ends = "10" + "+0".repeat(19);
        DUE.is("signs", goes.length() + ends.length(), 80);
        DUE.is("40 that can end", Due.rule(new PurringHolds(), ends), 0);
        DUE.is("40 that could go on", Due.rule(new PurringHolds(), goes), -41);
        for (String more : new String[] {"0", "+", "x", ")", "\u0000", "+0+0", "0".repeat(40)}) {
            DUE.is("could end, more: " + more, Due.rule(new PurringHolds(), ends + more), -41);
            DUE.is("could go on, more: " + more, Due.rule(new PurringHolds(), goes + more), -41);
            DUE.is("law, could end, more: " + more, Due.law(new PurringHolds(), ends + more), -10040);
        }
        DUE.is("a fault at 39", Due.rule(new PurringHolds(), ends.substring(0, 39) + "x0"), -40);
        DUE.is("a fault at 0", Due.rule(new PurringHolds(), "+".repeat(80)), -1);
    }

    private static void promise6FaultLeavesTheRule() {
        String[] texts = {"x", "j+", "(j", "1000", "(((((j", "j<b<g", "jj", "-".repeat(41)};
        int[] due = {-1, -3, -3, -4, -5, -4, -2, -41};
        for (int i = 0; i < texts.length; i++) {
            String text = texts[i];
            DUE.staysButText("rule of " + text, x -> Due.rule(x, text), due[i]);
        }
    }

    private static void promise6FaultIsForgotten() {
        String[] faults = {"(((((j", "((((j", "1<2<3", "(1<2", "1234", "123", "-(-(-", "9*(8/(7+(6-", "-".repeat(41), "5)"};
        String[] rules = {"5", "((((5))))", "(1<2)*5", "5*(1=1)", "005", "2+3", "--5", "1<2"};
        for (String fault : faults) {
            for (String rule : rules) {
                PurringHolds x = Due.viaduct("5", "720", "");
                Due.law(x, fault);
                Due.rule(x, fault);
                DUE.is(rule + " behind " + fault, Due.rule(x, rule), 0);
                DUE.is("purr by " + rule + " behind " + fault, x.cat(0, 4), rule.equals("1<2") ? 1 : 5);
            }
        }
    }

    /** Among these are the numbers of all signs that a rule knows. */
    private static void promise6NothingOfAnotherIsLeft() {
        for (int v = 0; v <= 260; v++) {
            PurringHolds x = Due.viaduct("5", "720", String.valueOf(v));
            DUE.is("purr by " + v, x.cat(0, 4), Math.min(9, v));
            Due.rule(x, "4");
            DUE.is("purr by 4", x.cat(0, 4), 4);
            Due.rule(x, "5");
            DUE.is("purr by 5, behind " + v, x.cat(0, 4), 5);
        }
    }

    private static void promise6IsNotUndone() {
        PurringHolds x = Due.viaduct("5", "720", "3");
        x.keep(0);
        x.pets(0);
        Due.rule(x, "4");
        DUE.is("it forgets nothing", x.count(11), 1);
        DUE.is("undo", x.undo(), 0);
        DUE.is("by the new rule", x.cat(0, 4), 4);
        DUE.yes("again", x.again(0));
        DUE.is("by the new rule", x.cat(0, 4), 4);
    }

    // ---- promise 7

    private static void promise7NoneSuch() {
        for (int what = 0; what <= 3; what++) {
            for (int arches = 0; arches <= 6; arches++) {
                PurringHolds x = archesOf(arches);
                int w = what;
                int beyond = arches;
                DUE.nothingSuch("arch " + arches, () -> x.arch(beyond, w));
                DUE.nothingSuch("arch -1", () -> x.arch(-1, w));
                DUE.is("the last", arches > 0 && what == 0 ? x.arch(arches - 1, 0) : arches, arches);
            }
        }
        DUE.stays("arch 3", x -> x.arch(3, 0), Alike.NOTHING_SUCH);
        DUE.stays("arch far", x -> x.arch(Integer.MAX_VALUE, 0), Alike.NOTHING_SUCH);
        DUE.stays("arch least", x -> x.arch(Integer.MIN_VALUE, 0), Alike.NOTHING_SUCH);
    }

    private static void promise7AnotherWhat() {
        DUE.stays("what -1", x -> x.arch(0, -1), Alike.NOTHING_SUCH);
        DUE.stays("what 0", x -> x.arch(0, 0), 5);
        DUE.stays("what 1", x -> x.arch(1, 1), 2);
        DUE.stays("what 2", x -> x.arch(0, 2), 5);
        DUE.stays("what 3", x -> x.arch(0, 3), 13);
        DUE.stays("what 4", x -> x.arch(0, 4), Alike.NOTHING_SUCH);
        DUE.stays("what most", x -> x.arch(0, Integer.MAX_VALUE), Alike.NOTHING_SUCH);
        DUE.stays("what least", x -> x.arch(0, Integer.MIN_VALUE), Alike.NOTHING_SUCH);
        DUE.stays("both", x -> x.arch(3, 4), Alike.NOTHING_SUCH);
    }

    private static void promise7LeastAndMost() {
        PurringHolds x = Due.viaduct("0;9", "901;901;901;901;901;901;901;901", "");
        DUE.is("load 0", x.arch(0, 0), 0);
        DUE.is("load 9", x.arch(1, 0), 9);
        DUE.is("no cats", x.arch(0, 2), 0);
        DUE.is("all cats", x.arch(1, 2), 255);
        DUE.is("hold 0", x.arch(0, 3), 0);
        DUE.is("hold 72", x.arch(1, 3), 72);
        Due.rule(x, "0");
        x.hours(60);
        DUE.is("sag 0", x.arch(0, 1), 0);
        DUE.is("sag 9", x.arch(1, 1), 9);
    }

    // ---- promise 8

    private static void promise8NoneSuch() {
        for (int what = 0; what <= 4; what++) {
            int w = what;
            for (int cats = 0; cats <= 8; cats++) {
                PurringHolds x = Due.viaduct("5", "110;220;330;440;550;660;770;880".substring(0, Math.max(0, 4 * cats - 1)), "");
                int beyond = cats;
                DUE.nothingSuch("cat " + cats, () -> x.cat(beyond, w));
                DUE.nothingSuch("cat -1", () -> x.cat(-1, w));
                DUE.is("the last", cats > 0 && what == 0 ? x.cat(cats - 1, 0) : cats, cats);
            }
        }
        DUE.stays("cat 3", x -> x.cat(3, 0), Alike.NOTHING_SUCH);
        DUE.stays("cat far", x -> x.cat(Integer.MAX_VALUE, 0), Alike.NOTHING_SUCH);
        DUE.stays("cat least", x -> x.cat(Integer.MIN_VALUE, 0), Alike.NOTHING_SUCH);
    }

    private static void promise8AnotherWhat() {
        DUE.stays("what -1", x -> x.cat(0, -1), Alike.NOTHING_SUCH);
        DUE.stays("what 0", x -> x.cat(0, 0), 5);
        DUE.stays("what 1", x -> x.cat(0, 1), 1);
        DUE.stays("what 2", x -> x.cat(0, 2), 2);
        DUE.stays("what 3", x -> x.cat(1, 3), 1);
        DUE.stays("what 4", x -> x.cat(0, 4), 4);
        DUE.stays("what 5", x -> x.cat(0, 5), Alike.NOTHING_SUCH);
        DUE.stays("what most", x -> x.cat(0, Integer.MAX_VALUE), Alike.NOTHING_SUCH);
        DUE.stays("what least", x -> x.cat(0, Integer.MIN_VALUE), Alike.NOTHING_SUCH);
        DUE.stays("both", x -> x.cat(3, 5), Alike.NOTHING_SUCH);
    }

    // ---- promise 9

    /** Of six ARCHES of LOAD 7. */
    private static void sheet(int kind, int n, int f, int step, int due, int... loads) {
        PurringHolds x = Due.viaduct("7;7;7;7;7;7", "", "");
        String what = "sheet " + kind + " " + n + " " + f + " " + step;
        DUE.is(what, x.sheet(kind, n, f, step), due);
        for (int a = 0; a < 6; a++) {
            DUE.is(what + ", load " + a, x.arch(a, 0), loads[a]);
        }
    }

    private static void promise9EntriesArePutTo0To9() {
        for (int kind = 0; kind <= 2; kind++) {
            sheet(kind, 6, -2, 1, 6, 0, 0, 0, 1, 2, 3);
            sheet(kind, 6, 6, 1, 48, 6, 7, 8, 9, 9, 9);
            sheet(kind, 6, 10, -2, 29, 9, 8, 6, 4, 2, 0);
        }
    }

    private static void promise9BytesWithTheirSign() {
        sheet(0, 6, 126, 1, 18, 9, 9, 0, 0, 0, 0);
        sheet(0, 6, 254, 1, 6, 0, 0, 0, 1, 2, 3);
        sheet(0, 6, -128, 1, 0, 0, 0, 0, 0, 0, 0);
        sheet(0, 6, -129, 1, 9, 9, 0, 0, 0, 0, 0);
        sheet(0, 6, 5, 256, 30, 5, 5, 5, 5, 5, 5);
        sheet(0, 6, 5, 128, 15, 5, 0, 5, 0, 5, 0);
    }

    private static void promise9ShortsWithTheirSign() {
        sheet(1, 6, 32766, 1, 18, 9, 9, 0, 0, 0, 0);
        sheet(1, 6, 65534, 1, 6, 0, 0, 0, 1, 2, 3);
        sheet(1, 6, -32768, 1, 0, 0, 0, 0, 0, 0, 0);
        sheet(1, 6, -32769, 1, 9, 9, 0, 0, 0, 0, 0);
        sheet(1, 6, 5, 65536, 30, 5, 5, 5, 5, 5, 5);
        sheet(1, 6, 5, 256, 50, 5, 9, 9, 9, 9, 9);
    }

    private static void promise9IntsWhole() {
        sheet(2, 6, Integer.MAX_VALUE, 1, 9, 9, 0, 0, 0, 0, 0);
        sheet(2, 6, Integer.MIN_VALUE, -1, 45, 0, 9, 9, 9, 9, 9);
        sheet(2, 6, 5, 65536, 50, 5, 9, 9, 9, 9, 9);
        sheet(2, 6, 1, 1 << 30, 20, 1, 9, 0, 0, 1, 9);
    }

    private static void promise9EntriesByN() {
        for (int kind = 0; kind <= 2; kind++) {
            sheet(kind, 0, 3, 1, 0, 0, 0, 0, 0, 0, 0);
            sheet(kind, 1, 3, 1, 3, 3, 0, 0, 0, 0, 0);
            sheet(kind, 5, 3, 1, 25, 3, 4, 5, 6, 7, 0);
            sheet(kind, 6, 3, 1, 33, 3, 4, 5, 6, 7, 8);
            sheet(kind, 7, 3, 1, -1, 7, 7, 7, 7, 7, 7);
        }
    }

    private static void promise9MoreEntriesThanArches() {
        PurringHolds x = Due.viaduct("7;7", "", "");
        DUE.is("the sum of all loads", x.sheet(2, 6, 1, 1), 3);
        DUE.is("load 0", x.arch(0, 0), 1);
        DUE.is("load 1", x.arch(1, 0), 2);
        Due.arches(x, "0");
        DUE.is("nothing is left for one that comes", x.arch(2, 0), 0);
    }

    private static void promise9NBelow0() {
        for (int kind = 0; kind <= 2; kind++) {
            int k = kind;
            for (int n : FAR) {
                DUE.stays("n " + n + " of kind " + kind, x -> x.sheet(k, n, 1, 1), -2);
            }
        }
    }

    private static void promise9Missing() {
        int[] sizes = {Integer.MIN_VALUE, -1, 0, 1, 6};
        for (int n : sizes) {
            sheet(3, n, 5, 5, -3, 0, 0, 0, 0, 0, 0);
            DUE.same("all 0, n " + n, x -> x.sheet(3, n, 5, 5), x -> x.sheet(2, 0, 0, 0));
        }
        sheet(3, 7, 5, 5, -1, 7, 7, 7, 7, 7, 7);
        DUE.stays("missing, n 7", x -> x.sheet(3, 7, 5, 5), -1);
    }

    private static void promise9NoneFirst() {
        int[] kinds = {Integer.MIN_VALUE, -1, 4, Integer.MAX_VALUE};
        for (int kind : kinds) {
            for (int n : new int[] {-1, 0, 6, 7}) {
                DUE.stays("kind " + kind + ", n " + n, x -> x.sheet(kind, n, 1, 1), -1);
            }
        }
        for (int kind = 0; kind <= 3; kind++) {
            int k = kind;
            DUE.stays("kind " + kind + ", n 7", x -> x.sheet(k, 7, 1, 1), -1);
            DUE.stays("kind " + kind + ", n most", x -> x.sheet(k, Integer.MAX_VALUE, 1, 1), -1);
        }
    }

    private static void promise9IsNotUndone() {
        PurringHolds x = Due.viaduct("7;7", "500", "");
        DUE.is("sheet", x.sheet(2, 2, 1, 1), 3);
        DUE.is("nothing to undo", x.undo(), -1);
        x.pets(0);
        DUE.is("sheet", x.sheet(2, 2, 4, 1), 9);
        DUE.is("it forgets nothing", x.count(11), 1);
        DUE.is("undo", x.undo(), 0);
        DUE.is("loads as ahead of what is undone", x.arch(0, 0), 1);
        DUE.is("loads as ahead of what is undone", x.arch(1, 0), 2);
        x.loads(0, 8);
        DUE.is("missing", x.sheet(3, 0, 0, 0), -3);
        DUE.is("undo", x.undo(), 0);
        DUE.is("loads as ahead of what is undone", x.count(6), 3);
    }
}
