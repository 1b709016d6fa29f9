/** Promises 5 to 13: counts, houses, tenants, acts and their undoing, and what a quarter does. */
public final class StateTest {
    public static void main(String[] args) {
        facts();
        firstQuarter();
        burials();
        sleeping();
        atOnce();
        asItBegan();
        limitsOfAQuarter();
        quartersCall();
        buying();
        catsAndTemper();
        leading();
        undoing();
        Due.end();
    }

    private static void facts() {
        DogLeases x = Due.of("house 11 12 3 4;corner 21 31 5 1;tenant 6 7 2 13;butcher 8 9 1 14;tenant 0 0 0 0;life 77;");
        int[][] houses = {{11, 12, 3, 4, -1, 0, 0, 0}, {21, 31, 5, 1, -1, 0, 1, 1}};
        for (int h = 0; h < 2; h++) {
            for (int what = 0; what < 8; what++) {
                int i = h;
                int j = what;
                Due.same("house(" + i + ", " + j + ")", houses[i][j], () -> x.house(i, j));
            }
        }
        int[][] tenants = {{6, 7, 2, 13, 0, 0}, {8, 9, 1, 14, 0, 1}, {0, 0, 0, 0, 0, 0}};
        for (int t = 0; t < 3; t++) {
            for (int what = 0; what < 6; what++) {
                int i = t;
                int j = what;
                Due.same("tenant(" + i + ", " + j + ")", tenants[i][j], () -> x.tenant(i, j));
            }
        }
        int[] counts = {2, 3, 77, 0, 0, 3, 0, 27, 0, 0, 0, 0, 0, 0};
        for (int what = 0; what < counts.length; what++) {
            int i = what;
            Due.same("count(" + i + ")", counts[i], () -> x.count(i));
        }
        for (int odd : new int[] {-1, 14, Integer.MIN_VALUE, Integer.MAX_VALUE}) {
            Due.noSuch("count(" + odd + ")", () -> x.count(odd));
            Due.noSuch("house(0, " + odd + ")", () -> x.house(0, odd));
            Due.noSuch("tenant(0, " + odd + ")", () -> x.tenant(0, odd));
            Due.noSuch("house(" + odd + ", 0)", () -> x.house(odd, 0));
            Due.noSuch("tenant(" + odd + ", 0)", () -> x.tenant(odd, 0));
        }
        Due.noSuch("house(2, 0)", () -> x.house(2, 0));
        Due.noSuch("house(0, 8)", () -> x.house(0, 8));
        Due.noSuch("tenant(3, 0)", () -> x.tenant(3, 0));
        Due.noSuch("tenant(0, 6)", () -> x.tenant(0, 6));
    }

    /** Without a rule a dog likes chops thrice and held, less cats by temper; a butcher 2 more. */
    private static void firstQuarter() {
        DogLeases x = Due.of("house 5 0 4 0;house 6 0 0 0;tenant 1 0 0 0;butcher 1 1 1 9;");
        Due.same("3 for a tenant", 3, () -> x.liking(0, 0));
        Due.same("3 less 4 and 2 for a butcher", 1, () -> x.liking(0, 1));
        Due.same("quarters(1)", 1, () -> x.quarters(1));
        Due.same("the tenant has house 0", 0, () -> x.house(0, 4));
        Due.same("the butcher's 3 and 2 beat nothing", 1, () -> x.house(1, 4));
        Due.same("held", 1, () -> x.house(0, 5));
        Due.same("age", 1, () -> x.house(0, 1));
        Due.same("a chop less", 0, () -> x.tenant(0, 0));
        Due.same("a chop less, a wage more", 1, () -> x.tenant(1, 0));
        Due.same("rent", 5, () -> x.tenant(0, 3));
        Due.same("rent more", 15, () -> x.tenant(1, 3));
        Due.same("coins of all", 20, () -> x.count(7));
        Due.same("houses of the tenant", 1, () -> x.tenant(0, 4));
        Due.same("houses of the butcher", 2, () -> x.tenant(1, 4));
        Due.same("nobody's", 0, () -> x.count(5));
        Due.same("liking by held alone", 1, () -> x.liking(0, 0));
        // House 0: 1 for the tenant by held, 3 - 4 + 2 = 1 for the butcher: the least of like ones.
        Due.same("quarters(1) again", 2, () -> x.quarters(1));
        Due.same("held goes on", "0 2", () -> x.house(0, 4) + " " + x.house(0, 5));
        Due.same("held of house 1", "1 2", () -> x.house(1, 4) + " " + x.house(1, 5));
        Due.same("no chop below 0", 0, () -> x.tenant(0, 0));
        DogLeases none = Due.of("house 5 0 4 0;tenant 0 0 0 0;");
        none.quarters(1);
        Due.same("a liking of 0 is too little", "-1 0", () -> none.house(0, 4) + " " + none.house(0, 5));
        DogLeases butcher = Due.of("house 5 0 4 0;tenant 0 0 0 0;butcher 0 0 0 0;likes 0-1;");
        butcher.quarters(1);
        Due.same("a butcher's -1 and 2 is enough", 1, () -> butcher.house(0, 4));
        DogLeases kept = Due.of("house 0 0 0 0;tenant 0 0 0 0;butcher 0 0 0 0;likes 9999;");
        Due.same("kept to 999", 999, () -> kept.liking(0, 0));
        Due.same("2 more than that", 1001, () -> kept.liking(0, 1));
        DogLeases below = Due.of("house 0 0 0 0;tenant 0 0 0 0;butcher 0 0 0 0;likes 0-9999;");
        Due.same("kept to -999", -999, () -> below.liking(0, 0));
        Due.same("2 more than -999", -997, () -> below.liking(0, 1));
    }

    private static void burials() {
        DogLeases x = Due.of("house 1 2 6 1;corner 1 2 0 0;house 1 60 0 0;tenant 0 0 0 0;life 5;likes 1;");
        x.quarters(1);
        Due.same("too old already: sealed by the first quarter", 4, () -> x.count(4));
        Due.same("a sealed house is nobody's", "-1 0", () -> x.house(2, 4) + " " + x.house(2, 5));
        Due.same("nobody's", 4, () -> x.count(5));
        Due.same("liking of a sealed house", 0, () -> x.liking(2, 0));
        Due.same("asleep: not one that is buried", 0, () -> x.house(2, 7));
        Due.same("the age at the burial stays", 61, () -> x.house(2, 1));
        x.quarters(2);
        Due.same("a pup inherits: age", 0, () -> x.house(0, 1));
        Due.same("pups", 0, () -> x.house(0, 3));
        Due.same("temper as it was", 6, () -> x.house(0, 2));
        Due.same("the tenant has it still", "0 3", () -> x.house(0, 4) + " " + x.house(0, 5));
        Due.same("no older in the grave", 61, () -> x.house(2, 1));
        x.quarters(4);
        Due.same("the pup before its burial", "4 0 4", () -> x.house(0, 1) + " " + x.house(0, 4) + " " + x.count(4));
        Due.same("a corner's dog lives on", 9, () -> x.house(1, 1));
        x.quarters(1);
        Due.same("all are sealed: twice life in a corner", 7, () -> x.count(4));
        Due.same("all are nobody's", 7, () -> x.count(5));
        Due.same("no houses", 0, () -> x.tenant(0, 4));
        int coins = x.tenant(0, 3);
        x.quarters(3);
        Due.same("no rent any more", coins, () -> x.tenant(0, 3));
    }

    private static void sleeping() {
        DogLeases x = Due.of("house 1 28 0 0;tenant 0 0 0 0;likes 1;");
        x.quarters(1);
        Due.same("29: awake", "0 0", () -> x.house(0, 4) + " " + x.house(0, 7));
        x.quarters(1);
        Due.same("30: asleep, nobody's", "-1 1 0", () -> x.house(0, 4) + " " + x.house(0, 7) + " " + x.house(0, 5));
        DogLeases rule = Due.of("house 1 0 0 0;house 2 0 0 0;tenant 0 0 0 0;likes 1;sleeps (quarter=1)*(2-rent)-(quarter=2);");
        Due.same("the first two owners", "0 0", () -> rule.then(0, 1) + " " + rule.then(1, 1));
        Due.same("in quarter 1 house 0 sleeps", "-1 0", () -> rule.then(0, 2) + " " + rule.then(1, 2));
        Due.same("below 0 is awake", "0 0", () -> rule.then(0, 3) + " " + rule.then(1, 3));
        Due.same("now", 0, () -> rule.house(0, 7));
        rule.quarters(1);
        Due.same("asleep now", "1 0", () -> rule.house(0, 7) + " " + rule.house(1, 7));
        DogLeases old = Due.of("house 1 50 0 0;tenant 0 0 0 0;likes 1;sleeps 0;life 99;");
        Due.same("by a rule an old one is awake", "0 0", () -> old.house(0, 7) + " " + old.then(0, 5));
    }

    private static void atOnce() {
        DogLeases x = Due.of("house 1 0 0 0;house 1 0 0 0;tenant 2 0 0 0;tenant 1 0 0 0;likes chops;");
        Due.same("2 against 1", 0, () -> x.then(0, 1));
        Due.same("1 against 1: the least", 0, () -> x.then(1, 1));
        Due.same("0 against 1", 1, () -> x.then(0, 2));
        Due.same("0 against 0", -1, () -> x.then(1, 2));
    }

    private static void asItBegan() {
        DogLeases many = Due.of("house 0 0 0 0;house 0 0 0 0;tenant 0 0 0 0;tenant 0 0 0 0;likes 1-houses;");
        Due.same("like ones", "0 0", () -> many.then(0, 1) + " " + many.then(1, 1));
        Due.same("the other one has both", "1 1", () -> many.then(0, 2) + " " + many.then(1, 2));
        DogLeases sealing = Due.of("house 0 8 0 0;house 0 0 0 0;tenant 0 0 0 0;life 10;likes quarter = 0 or houses = 2;");
        Due.same("a house counts in the quarter that seals it", 0, () -> sealing.then(1, 2));
        Due.same("but not in the next", -1, () -> sealing.then(1, 3));
        DogLeases next = Due.of("house 0 8 0 0;house 0 0 0 0;tenant 0 0 0 0;life 10;likes quarter = 0 or beside = 1;");
        Due.same("so it does beside", 0, () -> next.then(1, 2));
        Due.same("but not in the next either", -1, () -> next.then(1, 3));
        DogLeases all = Due.of("house 0 0 0 0;house 0 0 0 0;house 0 0 0 0;tenant 0 0 0 0;tenant 0 0 0 0;likes 100*held+10*houses+beside+1;");
        all.quarters(2);
        Due.same("held 2, houses 3, beside 1", 232, () -> all.liking(0, 0));
        Due.same("held 2, houses 3, beside 2", 233, () -> all.liking(1, 0));
        Due.same("held 2, houses 3, beside 1 at the end", 232, () -> all.liking(2, 0));
        Due.same("nothing had", 1, () -> all.liking(1, 1));
    }

    private static void limitsOfAQuarter() {
        DogLeases x = Due.of("house 99 0 0 0;".repeat(8) + "tenant 0 9 0 999;tenant 19 9 0 0;likes 1;");
        Due.same("coins behind 11", 999 + 11 * 8 * 99, () -> x.purse(0, 11, 0));
        Due.same("coins behind 12: 9999 at most", 9999, () -> x.purse(0, 12, 0));
        Due.same("chops 20 at most", 20, () -> x.purse(1, 1, 1));
        Due.same("8 less of none, 9 more", 9, () -> x.purse(0, 1, 1));
    }

    private static void quartersCall() {
        DogLeases x = Due.of("house 0 0 0 5;tenant 0 0 0 0;");
        Due.same("quarters(0)", -1, () -> x.quarters(0));
        Due.same("quarters(21)", -1, () -> x.quarters(21));
        Due.same("quarters(-5)", -1, () -> x.quarters(-5));
        Due.same("quarters(greatest)", -1, () -> x.quarters(Integer.MAX_VALUE));
        Due.same("refused", "4 0 0", () -> x.count(12) + " " + x.count(8) + " " + x.count(3));
        for (int i = 1; i <= 49; i++) {
            int many = 20 * i;
            Due.same("quarters(20)", many, () -> x.quarters(20));
        }
        Due.same("1000 is too much", -1, () -> x.quarters(20));
        Due.same("999 is not", 999, () -> x.quarters(19));
        Due.same("1000 is", -1, () -> x.quarters(1));
        Due.same("acts, refused", "40 6", () -> x.count(8) + " " + x.count(12));
        Due.same("what may be told of later goes on", -1, () -> x.then(0, 40));
    }

    private static void buying() {
        DogLeases x = Due.of("house 0 0 0 0;tenant 3 0 0 30;tenant 19 0 0 999;");
        Due.noSuch("buy(2, 1)", () -> x.buy(2, 1));
        Due.noSuch("buy(-1, 0)", () -> x.buy(-1, 0));
        Due.same("no such tenant is no refusal", 0, () -> x.count(12));
        Due.same("buy(0, 0)", -1, () -> x.buy(0, 0));
        Due.same("buy(0, 10)", -1, () -> x.buy(0, 10));
        Due.same("buy(0, least)", -1, () -> x.buy(0, Integer.MIN_VALUE));
        Due.same("buy(0, 9)", 12, () -> x.buy(0, 9));
        Due.same("3 coins are left", 3, () -> x.tenant(0, 3));
        Due.same("too few coins", -1, () -> x.buy(0, 2));
        Due.same("just enough", 13, () -> x.buy(0, 1));
        Due.same("none are left", 0, () -> x.tenant(0, 3));
        Due.same("20 at most", 20, () -> x.buy(1, 5));
        Due.same("paid for all", 984, () -> x.tenant(1, 3));
        Due.same("and once more", 20, () -> x.buy(1, 1));
        Due.same("acts, refused", "4 4", () -> x.count(8) + " " + x.count(12));
    }

    private static void catsAndTemper() {
        DogLeases x = Due.of("house 0 0 7 0;house 0 9 3 0;tenant 3 0 1 30;life 10;");
        Due.noSuch("cats(1, 0)", () -> x.cats(1, 0));
        Due.same("cats(0, 4)", -1, () -> x.cats(0, 4));
        Due.same("cats(0, -1)", -1, () -> x.cats(0, -1));
        Due.same("cats(0, 3)", 1, () -> x.cats(0, 3));
        Due.same("as many as there are is an act too", 3, () -> x.cats(0, 3));
        Due.same("cats", 3, () -> x.tenant(0, 2));
        Due.same("liking by them", 9 - 21, () -> x.liking(0, 0));
        Due.noSuch("temper(2, 0)", () -> x.temper(2, 0));
        Due.same("temper(0, 10)", -1, () -> x.temper(0, 10));
        Due.same("temper(0, -1)", -1, () -> x.temper(0, -1));
        Due.same("temper(0, 9)", 7, () -> x.temper(0, 9));
        Due.same("temper(0, 9) again", 9, () -> x.temper(0, 9));
        Due.same("acts, refused", "4 4", () -> x.count(8) + " " + x.count(12));
        x.quarters(1);
        Due.same("sealed", -1, () -> x.temper(1, 0));
        Due.same("temper of a sealed house", 3, () -> x.house(1, 2));
        Due.same("acts, refused then", "5 5", () -> x.count(8) + " " + x.count(12));
    }

    private static void leading() {
        DogLeases x = Due.of("house 1 0 0 0;house 1 8 0 1;house 1 9 0 0;tenant 0 0 0 0;life 10;likes 1;");
        Due.noSuch("lead(3, true)", () -> x.lead(3, true));
        Due.same("not led already", false, () -> x.lead(0, false));
        Due.same("lead(0)", true, () -> x.lead(0, true));
        Due.same("led already", false, () -> x.lead(0, true));
        Due.same("bits", 1, () -> x.count(6));
        Due.same("lead(2)", true, () -> x.lead(2, true));
        Due.same("bits of two", 5, () -> x.count(6));
        Due.same("not any more", true, () -> x.lead(0, false));
        Due.same("bits of one", 4, () -> x.count(6));
        x.lead(0, true);
        x.quarters(1);
        Due.same("no dog is led then", 0, () -> x.count(6));
        Due.same("nobody's, a tenant's, sealed", "-1 0 4", () -> x.house(0, 4) + " " + x.house(1, 4) + " " + x.count(4));
        Due.same("sealed", false, () -> x.lead(2, true));
        Due.same("sealed, not led", false, () -> x.lead(2, false));
        Due.same("acts, refused", "5 4", () -> x.count(8) + " " + x.count(12));
        x.lead(1, true);
        x.quarters(1);
        Due.same("a pup is led as its elder was", "0 -1", () -> x.house(1, 1) + " " + x.house(1, 4));
        Due.same("held from the start", "0 1", () -> x.house(0, 4) + " " + x.house(0, 5));
    }

    private static void undoing() {
        DogLeases x = Due.of("house 9 8 5 1;house 7 9 1 0;tenant 3 2 1 30;tenant 2 1 0 5;life 10;");
        String before = all(x);
        x.buy(0, 2);
        x.cats(0, 2);
        x.temper(0, 4);
        x.lead(0, true);
        String led = all(x);
        x.quarters(7);
        x.see(0, 0, 1, true);
        x.buy(0, 50);
        Due.same("undo quarters", 4, () -> x.undo());
        Due.same("as it was, led too", led, () -> all(x));
        Due.same("what is seen stays", 1, () -> x.count(9));
        Due.same("the status stays", 1, () -> x.count(12));
        for (int left = 3; left >= 0; left--) {
            int want = left;
            Due.same("undo", want, () -> x.undo());
        }
        Due.same("as it was at first", before, () -> all(x));
        Due.same("no act", -1, () -> x.undo());
        Due.same("which is no refusal", 1, () -> x.count(12));
        for (int i = 0; i < 45; i++) {
            x.cats(1, i % 4);
        }
        Due.same("40 are kept", 40, () -> x.count(8));
        Due.same("undo one", 39, () -> x.undo());
        Due.same("cats as before it", 43 % 4, () -> x.tenant(1, 2));
        x.temper(0, 9);
        for (int left = 39; left >= 0; left--) {
            int want = left;
            Due.same("undo of many", want, () -> x.undo());
        }
        Due.same("the first five stay", 0, () -> x.tenant(1, 2));
        Due.same("no more", -1, () -> x.undo());
    }

    private static String all(DogLeases x) {
        StringBuilder some = new StringBuilder();
        for (int what = 0; what < 8; what++) {
            some.append(x.count(what)).append(' ').append(x.house(0, what)).append(' ').append(x.house(1, what)).append(' ');
        }
        for (int what = 0; what < 6; what++) {
            some.append(x.tenant(0, what)).append(' ').append(x.tenant(1, what)).append(' ');
        }
        return some.toString();
    }
}
