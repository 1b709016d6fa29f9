/** Promises 23 to 26 and 34: the least chops, to win, ruin, shares, the game of two. */
public final class ChoiceTest {
    public static void main(String[] args) {
        chops();
        ruins();
        shares();
        games();
        wrong();
        Due.end();
    }

    private static void chops() {
        DogLeases x = Due.of("house 10 0 0 0;house 20 0 0 0;tenant 0 0 0 0;tenant 4 0 0 0;likes chops;");
        Due.same("as many as the other one, who is greater", 4, () -> x.leastChops(0, 0));
        // By 3 the other one has house 0 first and then no more than 3; by 4 tenant 0 has house 0, and too few for house 1.
        Due.same("fewer for the second house", 3, () -> x.leastChops(0, 1));
        Due.same("one more than nobody", 1, () -> x.leastChops(1, 0));
        Due.same("two for the second", 2, () -> x.leastChops(1, 1));
        Due.same("to win both", "2 5", () -> x.toWin(0, 0) + " " + x.toWin(0, 1));
        Due.same("to win both by 2", "2 2", () -> x.toWin(1, 0) + " " + x.toWin(1, 1));
        x.lead(0, true);
        Due.same("a dog that is led takes none", -1, () -> x.leastChops(0, 0));
        Due.same("so one house at most", "1 4", () -> x.toWin(0, 0) + " " + x.toWin(0, 1));
        x.lead(1, true);
        Due.same("no house, by 0", "0 0", () -> x.toWin(0, 0) + " " + x.toWin(0, 1));
        Due.same("chops stay", "0 4", () -> x.tenant(0, 0) + " " + x.tenant(1, 0));
        DogLeases least = Due.of("house 1 0 0 0;tenant 9 0 0 0;likes 1-(chops=0)*2+(chops=20)*5;");
        Due.same("1 is the least", 1, () -> least.leastChops(0, 0));
        DogLeases zero = Due.of("house 1 0 0 0;tenant 9 0 0 0;likes 3-chops;");
        Due.same("0 is one too", 0, () -> zero.leastChops(0, 0));
        DogLeases twenty = Due.of("house 1 0 0 0;tenant 9 0 0 0;likes chops=20;");
        Due.same("so is 20", "20 1 20", () -> twenty.leastChops(0, 0) + " " + twenty.toWin(0, 0) + " " + twenty.toWin(0, 1));
        DogLeases never = Due.of("house 1 0 0 0;tenant 9 0 0 0;likes 20<chops;");
        Due.same("none", -1, () -> never.leastChops(0, 0));
    }

    private static void ruins() {
        DogLeases x = Due.of("house 1 0 5 0;tenant 2 0 0 0;tenant 3 0 1 0;tenant 3 0 1 0;");
        Due.same("of like ones the least", 1, () -> x.ruin(0));
        Due.same("who has none can't have fewer", -1, () -> x.ruin(1));
        Due.same("cats stay", 1, () -> x.tenant(1, 2));
        DogLeases most = Due.of("house 1 0 0 0;house 1 0 0 0;tenant 5 0 0 0;tenant 6 0 1 0;tenant 20 0 2 0;likes chops-cats*10;");
        Due.same("fewest by the last one", 2, () -> most.ruin(0));
        DogLeases own = Due.of("house 1 0 9 0;tenant 5 0 1 0;tenant 1 0 0 0;likes chops+cats*10;");
        Due.same("one's own cats are no ruin", -1, () -> own.ruin(0));
    }

    private static void shares() {
        DogLeases x = Due.of("house 0 0 0 0;house 0 0 0 0;tenant 5 0 0 0;tenant 3 0 0 0;likes chops;");
        Due.same("one each", "8 0 1", () -> x.share(-1, 1) + " " + x.share(0, 1) + " " + x.share(1, 1));
        Due.same("two each", "10 0 0", () -> x.share(-1, 2) + " " + x.share(0, 2) + " " + x.share(1, 2));
        Due.same("eight each", 10, () -> x.share(-1, 8));
        DogLeases like = Due.of("house 0 0 0 0;house 0 0 0 0;tenant 4 0 0 0;tenant 4 0 0 0;likes chops;");
        Due.same("the first one's houses are least as bits: none", "8 1 1", () -> like.share(-1, 2) + " " + like.share(0, 2) + " " + like.share(1, 2));
        Due.same("the first one's houses are least as bits: house 0", "8 0 1", () -> like.share(-1, 1) + " " + like.share(0, 1) + " " + like.share(1, 1));
        // Rents 1, 2, 3 by chops 2 and 3; each one: the greatest to the second one, and of the rest the greatest to the first.
        DogLeases rents = Due.of("house 1 0 0 0;house 2 9 0 0;house 3 0 0 0;tenant 2 0 0 0;tenant 3 0 0 0;life 10;likes rent*chops;");
        Due.same("one each of three", "13 -1 0 1", () -> rents.share(-1, 1) + " " + rents.share(0, 1) + " " + rents.share(1, 1) + " " + rents.share(2, 1));
        Due.same("two each of three", "17 0 1 1", () -> rents.share(-1, 2) + " " + rents.share(0, 2) + " " + rents.share(1, 2) + " " + rents.share(2, 2));
        rents.quarters(1);
        // House 0 was tenant 1's, house 1 is sealed, house 2 tenant 0's by 6 against 6: 1 and 2 chops are left.
        Due.same("two of three are left", "7 -1 0", () -> rents.share(-1, 1) + " " + rents.share(1, 1) + " " + rents.share(0, 1));
        DogLeases zero = Due.of("house 0 0 5 0;house 0 0 0 0;tenant 5 0 3 0;likes chops-cats*temper;");
        Due.same("no house below a liking of 1", "5 -1 0", () -> zero.share(-1, 8) + " " + zero.share(0, 8) + " " + zero.share(1, 8));
        DogLeases sealed = Due.of("house 0 9 0 0;house 0 0 0 0;tenant 5 0 0 0;life 10;");
        sealed.quarters(1);
        Due.same("none that is sealed", "-1 0", () -> sealed.share(0, 8) + " " + sealed.share(1, 8));
        Due.same("nor its liking", sealed.liking(1, 0), () -> sealed.share(-1, 8));
        DogLeases asleep = Due.of("house 0 40 0 0;tenant 5 0 0 0;life 99;");
        Due.same("a dog asleep has a liking", "15 0", () -> asleep.share(-1, 1) + " " + asleep.share(0, 1));
        DogLeases full = Due.of("house 1 0 0 0;".repeat(8) + "tenant 5 0 0 0;".repeat(7) + "likes 999;");
        Due.same("all of eight", 8 * 999, () -> full.share(-1, 8));
        Due.same("all to the last one", "6 6", () -> full.share(0, 8) + " " + full.share(7, 8));
        Due.same("seven of eight", 7 * 999, () -> full.share(-1, 1));
        // Each must have one: the first one the least bits, house 0, and so on; house 7 is left.
        Due.same("one after another", "0 3 6 -1", () -> full.share(0, 1) + " " + full.share(3, 1) + " " + full.share(6, 1) + " " + full.share(7, 1));
    }

    private static String rest(int rent) {
        DogLeases x = Due.of("house " + rent + " 0 0 0;tenant 1 0 0 0;tenant 1 0 0 0;likes chops;");
        return x.game(0, 1, 0) + " " + x.game(0, 1, 1) + " " + x.game(1, 0, 0) + " " + x.game(1, 0, 1);
    }

    /** Of like ones tenant 0 has the house; three chops cost 6. */
    private static void games() {
        Due.same("rent 5: nobody pays", "1 11 1 11", () -> rest(5));
        Due.same("rent 6: the other one may pay or not", "2 10 2 1", () -> rest(6));
        Due.same("rent 10: no rest", "0 -1 0 -1", () -> rest(10));
        // By either choice tenant 0 is liked by 9, and the other one by 9 at most: chops cost 6 for nothing.
        DogLeases cat = Due.of("house 20 0 9 0;tenant 3 0 1 0;tenant 0 0 0 0;");
        Due.same("a cat less", "1 11", () -> cat.game(0, 1, 0) + " " + cat.game(0, 1, 1));
        Due.same("cats and chops stay", "1 3", () -> cat.tenant(0, 2) + " " + cat.tenant(0, 0));
        DogLeases chops = Due.of("house 20 0 9 0;tenant 2 0 3 0;tenant 3 0 2 0;likes chops*4-cats*4;");
        // Tenant 0: 20 less 12 by chops, 8 less 8 by a cat; tenant 1: 24 less 8, or 12 less 4. Gains: -6 14, 14 0, 0 14, 0 20.
        Due.same("chops against a cat", "0 -1", () -> chops.game(0, 1, 0) + " " + chops.game(0, 1, 1));
        DogLeases twenty = Due.of("house 20 0 0 0;tenant 19 0 0 0;tenant 20 0 0 0;likes chops;");
        // 20 at most: by chops tenant 0 has as many as tenant 1 ever can, and is the least: 14; else nothing.
        Due.same("20 at most", "1 1", () -> twenty.game(0, 1, 0) + " " + twenty.game(0, 1, 1));
    }

    private static void wrong() {
        DogLeases x = Due.of("house 0 0 0 0;tenant 0 0 0 0;tenant 0 0 0 0;");
        for (int odd : new int[] {-1, 2, 8, Integer.MAX_VALUE, Integer.MIN_VALUE}) {
            Due.noSuch("leastChops(" + odd + ", 0)", () -> x.leastChops(odd, 0));
            Due.noSuch("leastChops(0, " + odd + ")", () -> x.leastChops(0, odd));
            Due.noSuch("toWin(" + odd + ", 0)", () -> x.toWin(odd, 0));
            Due.noSuch("toWin(0, " + odd + ")", () -> x.toWin(0, odd));
            Due.noSuch("ruin(" + odd + ")", () -> x.ruin(odd));
            Due.noSuch("game(" + odd + ", 0, 0)", () -> x.game(odd, 0, 0));
            Due.noSuch("game(0, " + odd + ", 0)", () -> x.game(0, odd, 0));
            Due.noSuch("game(" + odd + ", " + odd + ", 0): ahead", () -> x.game(odd, odd, 0));
            Due.noSuch("game(0, 0, " + odd + "): ahead", () -> x.game(0, 0, odd));
        }
        for (int odd : new int[] {-2, 1, 8, Integer.MAX_VALUE, Integer.MIN_VALUE}) {
            Due.noSuch("share(" + odd + ", 1)", () -> x.share(odd, 1));
            Due.noSuch("share(" + odd + ", 0): ahead", () -> x.share(odd, 0));
        }
        for (int odd : new int[] {-1, 0, 9, Integer.MAX_VALUE, Integer.MIN_VALUE}) {
            Due.illegal("share(-1, " + odd + ")", () -> x.share(-1, odd));
            Due.illegal("share(0, " + odd + ")", () -> x.share(0, odd));
        }
        Due.illegal("game(0, 0, 0)", () -> x.game(0, 0, 0));
        Due.illegal("game(1, 1, 1)", () -> x.game(1, 1, 1));
        DogLeases none = new DogLeases();
        Due.same("a share of nothing", 0, () -> none.share(-1, 1));
    }
}
