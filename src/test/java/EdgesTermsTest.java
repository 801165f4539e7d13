/** Terms 1 and 2 of the document, each sentence that names a bound: the last that is allowed, the first beyond it. */
public final class EdgesTermsTest {
    private static final Due DUE = new Due();

    public static void main(String[] args) throws ReflectiveOperationException {
        DUE.tests(EdgesTermsTest.class);
    }

    /** PURR of a CAT of JOY 7, BOWL 2, alone in an ARCH of LOAD 6. */
    private static void purr(String rule, int due) {
        PurringHolds x = Due.viaduct("6", "720", "");
        DUE.is("rule " + rule, Due.rule(x, rule), 0);
        DUE.is("purr by " + rule, x.cat(0, 4), due);
    }

    private static void fault(String rule, int at) {
        PurringHolds x = new PurringHolds();
        DUE.is("rule " + rule, Due.rule(x, rule), -1 - at);
    }

    // ---- terms 1: arches

    private static void terms1SixArches() {
        PurringHolds x = new PurringHolds();
        DUE.is("five", Due.arches(x, "1;2;3;4;5"), 5);
        DUE.is("a sixth", Due.arches(x, "6"), 1);
        DUE.is("a seventh", Due.arches(x, "7"), -1);
        DUE.is("arches", x.count(0), 6);
        DUE.is("the last", x.arch(5, 0), 6);
        DUE.nothingSuch("a seventh", () -> x.arch(6, 0));
    }

    private static void terms1LoadIsADigit() {
        for (int sign = 0; sign < 256; sign++) {
            PurringHolds x = new PurringHolds();
            boolean digit = sign >= '0' && sign <= '9';
            DUE.is("sign " + sign, Due.arches(x, String.valueOf((char) sign)), digit ? 1 : -1);
            DUE.is("sign " + sign, x.count(6), digit ? sign - '0' : 0);
        }
    }

    private static void terms1SagAtFirst() {
        PurringHolds x = Due.viaduct("9", "", "");
        DUE.is("sag at first", x.arch(0, 1), 0);
        x.hours(5);
        Due.arches(x, "9");
        DUE.is("sag of one that was there", x.arch(0, 1), 5);
        DUE.is("sag of one that came later", x.arch(1, 1), 0);
    }

    private static void terms1ElevenSigns() {
        DUE.is("11 signs", Due.arches(new PurringHolds(), "1;2;3;4;5;6"), 6);
        DUE.is("12 signs", Due.arches(new PurringHolds(), "1;2;3;4;5;6;"), -12);
    }

    // ---- terms 1: cats

    private static void terms1EightCats() {
        PurringHolds x = Due.viaduct("5", "110;220;330;440;550;660;770", "");
        DUE.is("seven", x.count(1), 7);
        DUE.is("an eighth", Due.cats(x, "880"), 1);
        DUE.is("a ninth", Due.cats(x, "990"), -1);
        DUE.is("cats", x.count(1), 8);
        DUE.is("the last", x.cat(7, 0), 8);
        DUE.nothingSuch("a ninth", () -> x.cat(8, 0));
    }

    private static void terms1JoyAndBowlAreDigits() {
        for (int sign = 0; sign < 256; sign++) {
            boolean digit = sign >= '0' && sign <= '9';
            PurringHolds joy = Due.viaduct("5", "", "");
            DUE.is("joy of sign " + sign, Due.cats(joy, (char) sign + "40"), digit ? 1 : -1);
            DUE.is("joy of sign " + sign, digit ? joy.cat(0, 0) : 0, digit ? sign - '0' : 0);
            PurringHolds bowl = Due.viaduct("5", "", "");
            DUE.is("bowl of sign " + sign, Due.cats(bowl, "4" + (char) sign + "0"), digit ? 1 : -2);
            DUE.is("bowl of sign " + sign, digit ? bowl.cat(0, 1) : 0, digit ? sign - '0' : 0);
        }
    }

    private static void terms1ArchOfACatIsThere() {
        for (int arches = 0; arches <= 6; arches++) {
            for (int sign = 0; sign < 256; sign++) {
                PurringHolds x = Due.viaduct("1;2;3;4;5;6".substring(0, Math.max(0, 2 * arches - 1)), "", "");
                boolean there = sign >= '0' && sign < '0' + arches;
                DUE.is("arch of sign " + sign + " of " + arches, Due.cats(x, "44" + (char) sign), there ? 1 : -3);
                DUE.is("arch of sign " + sign, there ? x.cat(0, 3) : 0, there ? sign - '0' : 0);
            }
        }
    }

    private static void terms1GriefAtFirst() {
        PurringHolds x = Due.viaduct("5", "990", "");
        DUE.is("grief at first", x.cat(0, 2), 0);
        x.grieves(0, 9);
        Due.cats(x, "990");
        DUE.is("grief of one that was there", x.cat(0, 2), 9);
        DUE.is("grief of one that came later", x.cat(1, 2), 0);
    }

    private static void terms1ThirtyOneSigns() {
        String lines = "110;220;330;440;550;660;770;880";
        DUE.is("31 signs", Due.cats(Due.viaduct("5", "", ""), lines), 8);
        DUE.is("32 signs", Due.cats(Due.viaduct("5", "", ""), lines + ";"), -32);
    }

    private static void terms1StoreHourDropsAtFirst() {
        PurringHolds x = new PurringHolds();
        DUE.is("store", x.count(3), 30);
        DUE.is("hour", x.count(2), 0);
        DUE.is("drops", x.count(4), 0);
    }

    private static void terms1StoreIsNotBelow0() {
        PurringHolds x = Due.viaduct("5", "500;500;500;500", "");
        x.feeds(0, 9);
        x.feeds(1, 9);
        x.feeds(2, 9);
        DUE.is("store", x.count(3), 3);
        DUE.is("4 of 3", x.feeds(3, 4), -2);
        DUE.is("3 of 3", x.feeds(3, 3), 3);
        DUE.is("store", x.count(3), 0);
        DUE.is("1 of none", x.feeds(3, 1), -2);
        DUE.is("store", x.count(3), 0);
    }

    // ---- terms 1: the rule

    private static void terms1RuleAtFirst() {
        PurringHolds x = new PurringHolds();
        Due.arches(x, "9");
        Due.cats(x, "740;910");
        x.grieves(0, 7);
        DUE.is("7-7", x.cat(0, 4), 0);
        DUE.is("9-0", x.cat(1, 4), 9);
        x.grieves(0, 2);
        DUE.is("7-9", x.cat(0, 4), 0);
    }

    private static void terms1RuleFortySigns() {
        String forty = "1" + "+1".repeat(5) + "+0".repeat(13) + "+00";
        DUE.is("its signs", forty.length(), 40);
        purr(forty, 6);
        fault(forty + "0", 40);
        purr("-".repeat(38) + "5", 5);
        purr("-".repeat(39) + "5", 0);
        fault("-".repeat(40) + "5", 40);
    }

    private static void terms1ComparingBindsLeast() {
        purr("1<2+3", 1);
        purr("2+1<3", 0);
        purr("5-1=4", 1);
        purr("2*3>5", 1);
        purr("5>2*3", 0);
        purr("1=-1+2", 1);
    }

    private static void terms1ComparingIs1Or0() {
        int[][] pairs = {{1, 2}, {2, 2}, {3, 2}, {0, 0}, {999, 998}, {998, 999}};
        for (int[] p : pairs) {
            purr(p[0] + "<" + p[1], p[0] < p[1] ? 1 : 0);
            purr(p[0] + ">" + p[1], p[0] > p[1] ? 1 : 0);
            purr(p[0] + "=" + p[1], p[0] == p[1] ? 1 : 0);
        }
        purr("-1<0", 1);
        purr("-1>0", 0);
        purr("-1=-1", 1);
        purr("8+(1<2)", 9);
    }

    private static void terms1ComparingNotBehindAnother() {
        for (char one : "<>=".toCharArray()) {
            for (char other : "<>=".toCharArray()) {
                fault("1" + one + "2" + other + "3", 3);
                fault("(1" + one + "2" + other + "3)", 4);
                fault("1" + one + "(2)" + other + "3", 5);
                fault("1" + one + "2+3" + other + "3", 5);
                fault("1" + one + "(2" + other + "3)" + one + "4", 7);
                DUE.is("in brackets", Due.rule(new PurringHolds(), "(1" + one + "2)" + other + "3"), 0);
                DUE.is("in brackets", Due.rule(new PurringHolds(), "1" + one + "(2" + other + "3)"), 0);
                DUE.is("in brackets", Due.rule(new PurringHolds(), "(1" + one + "2)+(2" + other + "3)<4"), 0);
            }
            fault("1" + one, 2);
            fault(one + "1", 0);
        }
    }

    private static void terms1PlusAndMinusFromTheLeft() {
        purr("9-3-2", 4);
        purr("9-3+2", 8);
        purr("3-9+8", 2);
        purr("9-2*3-1", 2);
    }

    private static void terms1TimesAndByFromTheLeft() {
        purr("8/4*2", 4);
        purr("8/2/2", 2);
        purr("3*3/2", 4);
        purr("1+2*3", 7);
        purr("9-8/2", 5);
    }

    private static void terms1By0Is0() {
        purr("5/0", 0);
        purr("3+5/0", 3);
        purr("5/0*3+1", 1);
        purr("0/0+2", 2);
        purr("9/(1-1)+4", 4);
        purr("9/g+4", 4);
        purr("-9/0+4", 4);
        purr("9/1", 9);
        purr("9/-1+9", 0);
    }

    private static void terms1ByIsCutTo0() {
        purr("7/2", 3);
        purr("-7/2+9", 6);
        purr("7/-2+9", 6);
        purr("-7/-2", 3);
        purr("1/2", 0);
        purr("-1/2+5", 5);
        purr("6/2", 3);
        purr("-6/2+9", 6);
    }

    private static void terms1MinusAheadOfAThing() {
        purr("-5+9", 4);
        purr("--5", 5);
        purr("---5", 0);
        purr("2--3", 5);
        purr("9--(-3)", 6);
        purr("2*-3+9", 3);
        purr("-2*-3", 6);
        purr("-(2-5)", 3);
        purr("-j+9", 2);
        fault("-", 1);
        fault("5-", 2);
        fault("5--", 3);
        fault("(-)", 2);
        fault("+5", 0);
        fault("5*+3", 2);
    }

    private static void terms1NumberOf1To3Digits() {
        purr("7", 7);
        purr("07", 7);
        purr("007", 7);
        fault("0007", 3);
        fault("1000", 3);
        fault("1+1000", 5);
        purr("999/111", 9);
        purr("100-95", 5);
        fault("12 3", 2);
        fault("7j", 1);
        fault("7(", 1);
        fault("(7)7", 3);
    }

    private static void terms1BracketsAtMost4() {
        purr("((((5))))", 5);
        fault("(((((5", 4);
        purr("((((5))))+((((4))))", 9);
        purr("((((1)+(1))))", 2);
        fault("((((1+(", 6);
        fault("((((5)))))", 9);
        fault("((((5)))", 8);
        fault("()", 1);
        fault("5)", 1);
        fault(")", 0);
        fault("(5", 2);
    }

    private static void terms1EachSignOfARule() {
        for (int sign = 0; sign < 256; sign++) {
            char c = (char) sign;
            boolean thing = "0123456789jbgklsn".indexOf(c) >= 0;
            boolean ahead = "-(".indexOf(c) >= 0;
            DUE.is("first is sign " + sign, Due.rule(new PurringHolds(), String.valueOf(c)), thing ? 0 : ahead ? -2 : -1);
            boolean joins = "+-*/<>=".indexOf(c) >= 0;
            DUE.is("behind j is sign " + sign, Due.rule(new PurringHolds(), "j" + c), joins ? -3 : -2);
            boolean digit = "0123456789".indexOf(c) >= 0;
            DUE.is("behind 5 is sign " + sign, Due.rule(new PurringHolds(), "5" + c), digit ? 0 : joins ? -3 : -2);
            DUE.is("behind (5 is sign " + sign, Due.rule(new PurringHolds(), "(5" + c), c == ')' ? 0 : digit || joins ? -4 : -3);
            DUE.is("behind (5) is sign " + sign, Due.rule(new PurringHolds(), "(5)" + c), joins ? -5 : -4);
        }
    }

    private static void terms1LettersFromLeastToMost() {
        for (int v = 0; v <= 9; v++) {
            DUE.is("j " + v, Due.viaduct("6", v + "50", "j").cat(0, 4), v);
            DUE.is("b " + v, Due.viaduct("6", "5" + v + "0", "b").cat(0, 4), v);
            DUE.is("l " + v, Due.viaduct(3 + ";" + v, "501", "l").cat(0, 4), v);
            PurringHolds g = Due.viaduct("6", "550;550", "g");
            g.grieves(1, v);
            DUE.is("g " + v, g.cat(1, 4), v);
            DUE.is("g of another " + v, g.cat(0, 4), 0);
            PurringHolds s = Due.viaduct("0;9", "501", "0");
            s.hours(v);
            Due.rule(s, "s");
            DUE.is("s " + v, s.cat(0, 4), v);
        }
    }

    private static void terms1OthersFrom0To7() {
        String eight = "500;500;500;500;500;500;500;500";
        for (int cats = 1; cats <= 8; cats++) {
            PurringHolds x = Due.viaduct("6;6", eight.substring(0, 4 * cats - 1), "k");
            for (int c = 0; c < cats; c++) {
                DUE.is("k of " + c + " of " + cats, x.cat(c, 4), cats - 1);
            }
            x.sets(0, 1);
            DUE.is("k of one alone", x.cat(0, 4), 0);
        }
    }

    private static void terms1HourBy7() {
        PurringHolds x = Due.viaduct("6", "500", "n");
        for (int hour = 0; hour <= 15; hour++) {
            DUE.is("n at hour " + hour, x.cat(0, 4), hour % 7);
            x.hours(1);
        }
        x.hours(60);
        DUE.is("n at hour 76", x.cat(0, 4), 6);
        x.hours(1);
        DUE.is("n at hour 77", x.cat(0, 4), 0);
    }

    private static void terms1AsInts() {
        purr("999*999*999*3", 0);
        purr("(999*999*999*3<0)*7", 7);
        purr("(999*999*999*2>0)*7", 7);
        purr("(512*512*512*16<0)*5", 5);
        purr("(512*512*512*16-1>0)*5", 5);
        purr("(512*512*512*16/-1<0)*5", 5);
        purr("(-(512*512*512*16)<0)*5", 5);
        purr("512*512*512*32+3", 3);
        purr("(512*512*512*8+512*512*512*8<0)*4", 4);
    }

    private static void terms1PurrIsPutTo0To9() {
        purr("0-1", 0);
        purr("0", 0);
        purr("1", 1);
        purr("9", 9);
        purr("10", 9);
        purr("999", 9);
        purr("5-9+9", 5);
        purr("(9+9)/2", 9);
        purr("20-15", 5);
        purr("(2-9)*(0-1)", 7);
    }

    private static void terms1HoldIsPurrTogether() {
        String eight = "500;500;500;500;500;500;500;500";
        DUE.is("the most", Due.viaduct("6", eight, "9").arch(0, 3), 72);
        DUE.is("each is put to 9", Due.viaduct("6", eight, "99").arch(0, 3), 72);
        DUE.is("the least", Due.viaduct("6", eight, "0").arch(0, 3), 0);
        DUE.is("each is put to 0", Due.viaduct("6", "900;000", "j-5").arch(0, 3), 4);
        DUE.is("nobody", Due.viaduct("6", "", "9").arch(0, 3), 0);
        DUE.is("only those in it", Due.viaduct("6;6", "500;501;501", "j").arch(1, 3), 10);
    }

    // ---- terms 1: an hour goes by

    private static void terms1SagIs9AtMost() {
        PurringHolds x = Due.viaduct("1", "", "");
        for (int hour = 1; hour <= 14; hour++) {
            DUE.tells("hour " + hour, x, x.hours(1), Math.min(hour, 9), hour > 9 ? 1 : 0, 0);
            DUE.is("drops behind hour " + hour, x.count(4), Math.max(0, hour - 9));
        }
    }

    private static void terms1SagIs0AtLeast() {
        PurringHolds x = Due.viaduct("1", "990", "0");
        x.hours(2);
        Due.rule(x, "2");
        int[] sags = {1, 0, 0, 0};
        for (int sag : sags) {
            DUE.is("sag", x.hours(1), sag);
        }
        DUE.is("no drops", x.count(4), 0);
    }

    private static void terms1SagStaysByAsMuch() {
        PurringHolds x = Due.viaduct("4", "990", "0");
        int[] before = {0, 1, 8, 9};
        for (int sag : before) {
            Due.rule(x, "0");
            x.hours(sag - x.arch(0, 1));
            Due.rule(x, "3");
            DUE.is("hold 3 of load 4, sag " + sag, x.later(0, 1), Math.min(9, sag + 1));
            Due.rule(x, "4");
            DUE.is("hold 4 of load 4, sag " + sag, x.later(0, 1), sag);
            Due.rule(x, "5");
            DUE.is("hold 5 of load 4, sag " + sag, x.later(0, 1), Math.max(0, sag - 1));
        }
        Due.rule(x, "4");
        DUE.tells("as much at sag 9 is no drop", x, x.hours(3), 9, 0, 6);
    }

    /** 6 ARCHES at SAG 9 drop 6 in each HOUR: 1666 HOURS come to 9996. */
    private static PurringHolds at9996() {
        PurringHolds x = Due.viaduct("9;9;9;9;9;9", "", "");
        x.hours(9);
        for (int i = 0; i < 27; i++) {
            x.hours(60);
        }
        x.hours(46);
        return x;
    }

    private static void terms1DropsAre9999AtMost() {
        PurringHolds x = at9996();
        DUE.is("drops", x.count(4), 9996);
        x.sheet(2, 3, 9, 0);
        DUE.tells("three more", x, x.hours(1), 54, 3, 0);
        DUE.is("just the most", x.count(4), 9999);
        DUE.tells("three more", x, x.hours(1), 54, 3, 0);
        DUE.is("it stays", x.count(4), 9999);
        PurringHolds y = at9996();
        DUE.tells("six more", y, y.hours(1), 54, 6, 0);
        DUE.is("no more than the most", y.count(4), 9999);
    }

    private static void terms1JoyIsLessByAnEmptyBowl() {
        PurringHolds x = Due.viaduct("0", "220", "");
        int[] joy = {2, 2, 1, 0, 0, 0};
        int[] bowl = {1, 0, 0, 0, 0, 0};
        for (int h = 0; h < joy.length; h++) {
            x.hours(1);
            DUE.is("joy behind hour " + h, x.cat(0, 0), joy[h]);
            DUE.is("bowl behind hour " + h, x.cat(0, 1), bowl[h]);
        }
        PurringHolds full = Due.viaduct("0", "990", "");
        full.hours(9);
        DUE.is("joy while there is a bowl", full.cat(0, 0), 9);
        DUE.is("bowl", full.cat(0, 1), 0);
        full.hours(1);
        DUE.is("joy", full.cat(0, 0), 8);
        full.hours(9);
        DUE.is("joy is 0 at least", full.cat(0, 0), 0);
    }

    private static void terms1GriefIsLessEachHour() {
        PurringHolds x = Due.viaduct("0", "990;900;090", "");
        for (int c = 0; c < 3; c++) {
            x.grieves(c, 1 + 4 * c);
        }
        for (int h = 1; h <= 10; h++) {
            x.hours(1);
            for (int c = 0; c < 3; c++) {
                DUE.is("grief of " + c + " behind hour " + h, x.cat(c, 2), Math.max(0, 1 + 4 * c - h));
            }
        }
    }

    private static void terms1AllAsItIsAheadOfTheHour() {
        PurringHolds joy = Due.viaduct("5", "500", "");
        DUE.is("by joy ahead", joy.hours(1), 0);
        DUE.is("by less joy", joy.hours(1), 1);
        PurringHolds grief = Due.viaduct("5", "590", "");
        grief.grieves(0, 1);
        DUE.is("by grief ahead", grief.hours(1), 1);
        PurringHolds bowl = Due.viaduct("1", "910", "b");
        DUE.is("by bowl ahead", bowl.hours(1), 0);
        DUE.is("by less bowl", bowl.hours(1), 1);
        PurringHolds hour = Due.viaduct("1", "990", "n");
        DUE.is("by hour 0", hour.hours(1), 1);
        DUE.is("by hour 1", hour.hours(1), 1);
        DUE.is("by hour 2", hour.hours(1), 0);
        PurringHolds sag = Due.viaduct("2", "990;990", "s");
        DUE.is("by sag 0", sag.hours(1), 1);
        DUE.is("by sag 1, both cats", sag.hours(1), 1);
    }

    // ---- terms 2

    private static void terms2FractionsInLowestTerms() {
        PurringHolds x = Due.viaduct("5;0;1", "500;500", "");
        DUE.tells("none of it", x, x.odds(2, 4), 0, 0, 1);
        DUE.tells("all of it", x, x.odds(1, 4), 0, 1, 1);
        DUE.tells("84 of 100", x, x.odds(0, 4), 0, 21, 25);
        DUE.tells("99 of 100", x, x.odds(0, 1), 0, 99, 100);
        DUE.tells("none of it together", x, x.stands(4), 0, 0, 1);
    }

    private static void terms2QuestionsChangeNothing() {
        DUE.asksAlone("arch", x -> x.arch(1, 1), 2);
        DUE.asksAlone("cat", x -> x.cat(1, 4), 5);
        DUE.asksAlone("holds", x -> x.holds(), 7);
        DUE.asksAlone("later", x -> x.later(1, 99), 9);
        DUE.asksAlone("when", x -> x.when(1, 9), 20);
        DUE.asksAlone("down", x -> x.down(), 20);
        DUE.asksAlone("safe", x -> x.safe(), 2);
        DUE.asksAlone("loudest", x -> x.loudest(99), 19);
        DUE.asksAlone("weakest", x -> x.weakest(), 2);
        DUE.asksAlone("trades", x -> x.trades(), 3);
        DUE.asksAlone("needs", x -> x.needs(0), 1);
        DUE.asksAlone("guards", x -> x.guards(), 3);
        DUE.asksAlone("best", x -> x.best(2, 30), 0);
        DUE.asksAlone("cheers", x -> x.cheers(30), 0);
        DUE.asksAlone("trolley", x -> x.trolley(0), 1);
        DUE.asksAlone("depot", x -> x.depot(), 1);
        DUE.asksAlone("fits", x -> x.fits(), 2);
        DUE.asksAlone("feels", x -> x.feels(), 0);
        DUE.asksAlone("spreads", x -> x.spreads(0, 9), 7);
        DUE.asksAlone("suits", x -> x.suits(), 6);
        DUE.asksAlone("asks", x -> x.asks(), 5);
        DUE.asksAlone("odds", x -> x.odds(0, 5), 0);
        DUE.asksAlone("stands", x -> x.stands(5), 0);
        DUE.asksAlone("litters", x -> x.litters(40), 1);
        DUE.asksAlone("rests", x -> x.rests(9), 7);
        DUE.asksAlone("years", x -> x.years(5, 60), Alike.busy().years(5, 60));
        DUE.asksAlone("count", x -> x.count(5), 2);
        DUE.asksAlone("row", x -> x.row(0), 3);
    }

    private static void terms2RowStaysWhereNoneIsTold() {
        String[] names = {"sign", "end", "arches", "cats", "rule", "sheet", "feeds", "pets", "grieves", "sets", "loads", "undo",
            "felt", "forget", "heard", "denies", "keep", "again", "arch", "cat", "count", "row"};
        Alike.Act[] acts = {x -> x.sign(7), x -> x.end(1) ? 1 : 0, x -> Due.arches(x, "5"), x -> Due.cats(x, "550"),
            x -> Due.rule(x, "j"), x -> x.sheet(0, 3, 9, 0), x -> x.feeds(0, 1), x -> x.pets(0), x -> x.grieves(0, 1),
            x -> x.sets(0, 2), x -> x.loads(0, 9), x -> x.undo(), x -> x.felt(0, 1), x -> x.forget(), x -> x.heard(0, 1),
            x -> x.denies(), x -> x.keep(0) ? 1 : 0, x -> x.again(0) ? 1 : 0, x -> x.arch(0, 3), x -> x.cat(0, 4),
            x -> x.count(8), x -> x.row(0)};
        DUE.is("as many names", names.length, acts.length);
        for (int i = 0; i < acts.length; i++) {
            PurringHolds x = Alike.busy();
            x.loudest(0);
            DUE.yes(names[i] + " can be", Alike.answer(acts[i], x) >= 0);
            DUE.row(names[i], x, 0, 18, 0);
        }
    }

    private static void terms2NoneComesFirst() {
        PurringHolds x = Due.viaduct("5", "990", "");
        x.feeds(0, 9);
        DUE.is("no such cat, and store has not so much", x.feeds(1, 9), -1);
        DUE.is("n 10, and the bowl is full", x.feeds(0, 10), -1);
        DUE.is("no such arch, though it is there", x.sets(1, 0), -1);
        DUE.is("another n, and no cats", Due.viaduct("5", "", "").cheers(31), -1);
        DUE.is("no such arch, and no cats", new PurringHolds().needs(0), -1);
        DUE.is("another v, and in none", x.when(0, 10), -1);
        DUE.is("n above 6, and another sheet is missing", x.sheet(3, 7, 0, 0), -1);
    }
}
