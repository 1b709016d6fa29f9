/** Promises 14 to 22 and 27 to 29: what will be if only quarters go by, and what is told of now. */
public final class ForecastTest {
    public static void main(String[] args) {
        taking();
        seals();
        oldest();
        rows();
        likings();
        envies();
        wrong();
        Due.end();
    }

    /** House 0 goes to tenant 0 thrice, is then tenant 1's, and sleeps at last. */
    private static void taking() {
        DogLeases x = Due.of("house 10 0 0 0;house 1 0 0 0;tenant 0 1 0 0;tenant 0 2 0 5;life 60;"
            + "likes (quarter<3)*(3-chops/4)+(2<quarter)*chops*(rent=10);sleeps rent*10<age*2;");
        Due.same("then 0", -1, () -> x.then(0, 0));
        Due.same("then 1", 0, () -> x.then(0, 1));
        Due.same("then 3", 0, () -> x.then(0, 3));
        // Chops behind 3 quarters: each quarter both houses are tenant 0's by like ones, who keeps 1, the other has 2, 4, 6.
        Due.same("chops of tenant 0 behind 3", 1, () -> x.purse(0, 3, 1));
        Due.same("chops of tenant 1 behind 3", 6, () -> x.purse(1, 3, 1));
        Due.same("coins of tenant 0 behind 3", 33, () -> x.purse(0, 3, 0));
        Due.same("then 4", 1, () -> x.then(0, 4));
        Due.same("coins of tenant 1 behind 4", 15, () -> x.purse(1, 4, 0));
        Due.same("then 10", 1, () -> x.then(0, 10));
        // By then both have 20 again and again, and of like ones it is the least.
        Due.same("then 40", 0, () -> x.then(0, 40));
        Due.same("gets(0, 0)", 1, () -> x.gets(0, 0));
        Due.same("gets(1, 0)", 4, () -> x.gets(1, 0));
        Due.same("gets(1, 1)", -1, () -> x.gets(1, 1));
        Due.same("loses(0), nobody's", -1, () -> x.loses(0));
        Due.same("most 0", -1, () -> x.most(0));
        Due.same("most 1", 0, () -> x.most(1));
        Due.same("most 4", 1, () -> x.most(4));
        Due.same("empty 0", 3, () -> x.empty(0));
        Due.same("empty 1", 0, () -> x.empty(1));
        Due.same("empty 4", 2, () -> x.empty(4));
        x.quarters(1);
        Due.same("nothing of that was done", 1, () -> x.count(3));
        Due.same("gets now", 0, () -> x.gets(0, 0));
        Due.same("loses(0)", 3, () -> x.loses(0));
        Due.same("loses(1)", 3, () -> x.loses(1));
        Due.same("then is from now on", 1, () -> x.then(0, 3));
        DogLeases shared = Due.of("house 0 0 0 0;house 0 0 0 0;house 0 0 0 0;tenant 0 0 0 0;tenant 9 0 0 0;tenant 8 0 0 0;likes chops;");
        // 9 to tenant 1, then 8 and 8: the least; 8 for the last one.
        Due.same("most of three", 1, () -> shared.most(1));
        DogLeases like = Due.of("house 0 0 0 0;house 0 0 0 0;tenant 9 0 0 0;tenant 9 0 0 0;likes chops;");
        Due.same("most of like ones", 0, () -> like.most(1));
        DogLeases led = Due.of("house 3 0 0 0;tenant 1 1 0 0;");
        led.lead(0, true);
        Due.same("a dog that is led now is so in the next quarter", -1, () -> led.then(0, 1));
        Due.same("but not later", 0, () -> led.then(0, 2));
        Due.same("gets behind that", 2, () -> led.gets(0, 0));
        DogLeases keeps = Due.of("house 3 0 0 0;tenant 0 0 0 0;life 99;likes 1;sleeps 0;");
        keeps.quarters(1);
        Due.same("loses never", -1, () -> keeps.loses(0));
        DogLeases fortieth = Due.of("house 3 0 0 0;house 3 0 0 0;tenant 0 0 0 0;tenant 0 0 0 0;life 99;likes 1;sleeps age<40 or age=41;");
        Due.same("gets behind 40", 40, () -> fortieth.gets(0, 0));
        DogLeases later = Due.of("house 3 0 0 0;tenant 0 0 0 0;life 99;likes 1;sleeps age<41;");
        Due.same("gets behind 41 is none", -1, () -> later.gets(0, 0));
        fortieth.quarters(20);
        fortieth.quarters(20);
        Due.same("loses behind 1", 1, () -> fortieth.loses(0));
        DogLeases end = Due.of("house 3 0 0 0;tenant 0 0 0 0;life 41;likes 1;sleeps 0;");
        end.quarters(1);
        Due.same("loses behind 40", 40, () -> end.loses(0));
        Due.same("sealed behind 40", 40, () -> end.sealed(0));
    }

    private static void seals() {
        DogLeases x = Due.of("house 0 0 0 0;house 0 9 0 2;corner 0 5 0 1;house 0 10 0 0;house 0 60 0 0;house 0 1 0 5;corner 0 1 0 4;life 16;");
        int[] want = {16, 7 + 32, 27 + 32, 6, 1, 15 + 80, -1};
        for (int h = 0; h < want.length; h++) {
            int i = h;
            Due.same("sealed(" + i + ")", want[i], () -> x.sealed(i));
        }
        x.quarters(6);
        Due.same("sealed already", "0 0", () -> x.sealed(3) + " " + x.sealed(4));
        Due.same("sealed later", 10, () -> x.sealed(0));
        DogLeases edge = Due.of("house 0 0 0 0;house 0 1 0 1;life 99;");
        Due.same("sealed behind 99", 99, () -> edge.sealed(0));
        Due.same("sealed behind more", -1, () -> edge.sealed(1));
        DogLeases hundred = Due.of("corner 0 0 0 0;house 0 0 0 1;life 50;");
        Due.same("sealed behind 100 is none", "-1 -1", () -> hundred.sealed(0) + " " + hundred.sealed(1));
        hundred.quarters(1);
        Due.same("sealed behind 99 then", "99 99", () -> hundred.sealed(0) + " " + hundred.sealed(1));
        DogLeases short_ = Due.of("house 0 0 0 5;life 1;");
        Due.same("a life of 1", 6, () -> short_.sealed(0));
    }

    private static void oldest() {
        DogLeases x = Due.of("corner 0 17 0 0;house 0 9 0 5;house 0 9 0 0;house 0 8 0 0;life 10;");
        Due.same("oldest, of like ones the least", "1 1", () -> x.oldest(0) + " " + x.oldest(1));
        x.quarters(1);
        Due.same("oldest of what is left", "3 1", () -> x.oldest(0) + " " + x.oldest(1));
        x.quarters(2);
        Due.same("a pup in turn", "1 8", () -> x.oldest(0) + " " + x.oldest(1));
        x.quarters(20);
        x.quarters(20);
        x.quarters(20);
        Due.same("none", "-1 -1", () -> x.oldest(0) + " " + x.oldest(1));
        DogLeases over = Due.of("house 0 5 0 0;house 0 50 0 0;life 6;");
        Due.same("too old and just as old come together", "0 1", () -> over.oldest(0) + " " + over.oldest(1));
        Due.noSuch("oldest(2)", () -> x.oldest(2));
        Due.noSuch("oldest(-1)", () -> x.oldest(-1));
    }

    private static void rows() {
        DogLeases x = Due.of("house 0 0 0 0;house 0 0 0 0;house 0 0 0 0;house 0 0 0 0;house 0 0 0 0;tenant 0 0 0 0;tenant 0 0 0 0;likes 1;");
        Due.same("no row", "0 -1", () -> x.row(0, 0) + " " + x.row(0, 1));
        Due.same("beside nothing", 0, () -> x.beside(0));
        x.lead(1, true);
        x.quarters(1);
        Due.same("the longer row", "3 2", () -> x.row(0, 0) + " " + x.row(0, 1));
        Due.same("beside: between", 2, () -> x.beside(0));
        x.lead(2, true);
        x.quarters(1);
        Due.same("of like rows the first", "2 0", () -> x.row(0, 0) + " " + x.row(0, 1));
        Due.same("beside: one once", 4, () -> x.beside(0));
        Due.same("the other one has none", "0 -1 0", () -> x.row(1, 0) + " " + x.row(1, 1) + " " + x.beside(1));
        x.lead(0, true);
        x.lead(4, true);
        x.quarters(1);
        Due.same("a row within", "3 1", () -> x.row(0, 0) + " " + x.row(0, 1));
        Due.same("beside at both ends", 17, () -> x.beside(0));
        Due.noSuch("row(2, 0)", () -> x.row(2, 0));
        Due.noSuch("row(0, 2)", () -> x.row(0, 2));
        Due.noSuch("row(0, -1)", () -> x.row(0, -1));
        Due.noSuch("beside(2)", () -> x.beside(2));
        DogLeases all = Due.of("house 0 0 0 0;".repeat(8) + "tenant 0 0 0 0;likes 1;");
        all.quarters(1);
        Due.same("a row of all", "8 0 0", () -> all.row(0, 0) + " " + all.row(0, 1) + " " + all.beside(0));
        DogLeases end = Due.of("house 0 9 0 0;house 0 0 0 0;house 0 0 0 0;tenant 0 0 0 0;tenant 9 0 0 0;life 10;likes chops*(rent=0)+1;");
        end.lead(2, true);
        end.quarters(1);
        Due.same("beside: no sealed one", 4, () -> end.beside(1));
    }

    private static void likings() {
        DogLeases x = Due.of("house 7 20 3 0;tenant 2 0 1 40;butcher 1 0 0 3;life 21;likes chops*100+age-temper*cats;");
        Due.same("age as it is", 217, () -> x.liking(0, 0));
        Due.same("a butcher's 2 too", 122, () -> x.liking(0, 1));
        x.buy(0, 3);
        Due.same("with what was bought", 517, () -> x.liking(0, 0));
        x.lead(0, true);
        Due.same("led or not", 517, () -> x.liking(0, 0));
        x.quarters(1);
        Due.same("sealed", "0 0", () -> x.liking(0, 0) + " " + x.liking(0, 1));
        DogLeases asleep = Due.of("house 7 35 3 0;tenant 2 0 1 40;");
        Due.same("asleep or not", 3, () -> asleep.liking(0, 0));
    }

    private static void envies() {
        DogLeases x = Due.of("house 0 0 0 0;house 0 0 0 0;house 0 0 0 0;tenant 0 0 0 999;tenant 4 0 0 0;tenant 2 0 0 0;likes chops;");
        Due.same("nobody has any", 0, () -> x.envy(0));
        x.lead(2, true);
        x.quarters(1);
        Due.same("houses", "3 0 2", () -> x.tenant(1, 4) + " " + x.tenant(2, 4) + " " + x.tenant(1, 0));
        Due.same("less, as much", "0 0", () -> x.envy(0) + " " + x.envy(2));
        x.buy(0, 3);
        Due.same("more: the houses of that one alone", 3, () -> x.envy(0));
        Due.same("one's own are none", 0, () -> x.envy(1));
        Due.noSuch("envy(3)", () -> x.envy(3));
    }

    private static void wrong() {
        DogLeases x = Due.of("house 0 0 0 0;tenant 0 0 0 0;");
        for (int odd : new int[] {-1, 1, 8, Integer.MAX_VALUE, Integer.MIN_VALUE}) {
            Due.noSuch("then(" + odd + ", 0)", () -> x.then(odd, 0));
            Due.noSuch("then(" + odd + ", 99): ahead", () -> x.then(odd, 99));
            Due.noSuch("purse(" + odd + ", 0, 0)", () -> x.purse(odd, 0, 0));
            Due.noSuch("purse(" + odd + ", 99, 0): ahead", () -> x.purse(odd, 99, 0));
            Due.noSuch("sealed(" + odd + ")", () -> x.sealed(odd));
            Due.noSuch("gets(" + odd + ", 0)", () -> x.gets(odd, 0));
            Due.noSuch("gets(0, " + odd + ")", () -> x.gets(0, odd));
            Due.noSuch("loses(" + odd + ")", () -> x.loses(odd));
            Due.noSuch("liking(" + odd + ", 0)", () -> x.liking(odd, 0));
            Due.noSuch("liking(0, " + odd + ")", () -> x.liking(0, odd));
        }
        for (int odd : new int[] {-1, 41, Integer.MAX_VALUE, Integer.MIN_VALUE}) {
            Due.illegal("then(0, " + odd + ")", () -> x.then(0, odd));
            Due.illegal("purse(0, " + odd + ", 0)", () -> x.purse(0, odd, 0));
            Due.noSuch("purse(0, " + odd + ", 2): ahead", () -> x.purse(0, odd, 2));
            Due.illegal("most(" + odd + ")", () -> x.most(odd));
            Due.illegal("empty(" + odd + ")", () -> x.empty(odd));
        }
        Due.noSuch("purse(0, 0, 2)", () -> x.purse(0, 0, 2));
        Due.noSuch("purse(0, 0, -1)", () -> x.purse(0, 0, -1));
        Due.same("none of it is a refusal", "0 0 0", () -> x.count(11) + " " + x.count(12) + " " + x.count(13));
    }
}
