/** Promises 30 to 33: what is seen, pockets, where to look next, forgetting. */
public final class PocketTest {
    private static final String TEXT = "house 10 0 0 0;house 20 0 0 0;tenant 0 0 0 0;tenant 4 0 0 0;likes chops;";

    public static void main(String[] args) {
        narrowing();
        later();
        atMost();
        withoutAny();
        wrong();
        Due.end();
    }

    private static String pockets(DogLeases x) {
        return x.pockets(0) + " " + x.pockets(1) + " " + x.pockets(2);
    }

    private static String look(DogLeases x) {
        return x.look(0) + " " + x.look(1);
    }

    private static void narrowing() {
        DogLeases x = Due.of(TEXT);
        Due.same("all pockets; tenant 0 has 0 already", "40 1 1", () -> pockets(x));
        // House 0 is nobody's if tenant 1 has none, else of either: 3 unlike ones; so it is with house 1.
        Due.same("look at house 0", "0 3", () -> look(x));
        Due.same("see one", 1, () -> x.see(0, 0, 1, true));
        Due.same("4 to 20 of tenant 0", "17 4 0", () -> pockets(x));
        // House 0 is tenant 0's by all of them, house 1 by 5 and more; by 4 the other one's.
        Due.same("look at house 1", "1 2", () -> look(x));
        Due.same("see another", 2, () -> x.see(1, 1, 1, true));
        Due.same("4 alone", "1 4 0", () -> pockets(x));
        Due.same("nothing is unlike by one alone", "0 1", () -> look(x));
        Due.same("see what can't be", 3, () -> x.see(0, 0, 1, false));
        Due.same("none", "0 -1 0", () -> pockets(x));
        Due.same("nowhere to look", "-1 0", () -> look(x));
        x.forget();
        Due.same("forgotten", 0, () -> x.count(9));
        Due.same("all pockets again", "40 1 1", () -> pockets(x));
        x.see(1, 0, 1, true);
        x.see(0, 1, 1, false);
        // As it is: tenant 1 by any but 0; tenant 0 by 1 and 2 only.
        Due.same("so without", 1, () -> x.pockets(2));
        Due.same("so by 1, 2 and by 1 to 20 but 4", "21 1", () -> x.pockets(0) + " " + x.pockets(1));
        Due.same("chops stay", "0 4", () -> x.tenant(0, 0) + " " + x.tenant(1, 0));
        x.forget();
        x.see(1, 0, 1, false);
        x.see(0, 0, 1, false);
        Due.same("nobody has it: tenant 1 has no chops", "1 100 0", () -> pockets(x));
    }

    /** What is seen is told from now on, whenever now is. */
    private static void later() {
        DogLeases x = Due.of("house 1 0 0 0;tenant 3 0 0 0;likes chops;");
        x.see(0, 0, 3, true);
        x.see(0, 0, 4, false);
        Due.same("3 chops last three quarters", "0 -1 1", () -> pockets(x));
        x.quarters(1);
        Due.same("2 don't, but 3 would", "1 3 0", () -> pockets(x));
        x.undo();
        Due.same("seen as before", "0 -1 1", () -> pockets(x));
        x.see(0, 0, 12, false);
        Due.same("far ahead too", "0 -1 1", () -> pockets(x));
        x.see(0, 0, 12, true);
        Due.same("and not so", "0 -1 0", () -> pockets(x));
    }

    private static void atMost() {
        DogLeases x = Due.of(TEXT);
        for (int i = 1; i <= 8; i++) {
            int many = i;
            Due.same("see " + i, many, () -> x.see(0, 1, 12, true));
        }
        Due.same("a ninth", -1, () -> x.see(0, 1, 12, true));
        Due.same("seen, refused", "8 1", () -> x.count(9) + " " + x.count(13));
        x.forget();
        Due.same("room again", 1, () -> x.see(0, 1, 1, true));
        Due.same("0 quarters", -1, () -> x.see(0, 1, 0, true));
        Due.same("13 quarters", -1, () -> x.see(0, 1, 13, true));
        Due.same("least quarters", -1, () -> x.see(0, 1, Integer.MIN_VALUE, true));
        Due.same("seen, refused then", "1 4", () -> x.count(9) + " " + x.count(13));
        Due.same("no act", "0 0", () -> x.count(8) + " " + x.count(12));
    }

    private static void withoutAny() {
        DogLeases empty = new DogLeases();
        Due.same("no tenants", "0 -1 1", () -> pockets(empty));
        Due.same("no houses", "-1 0", () -> look(empty));
        DogLeases tenants = Due.of("tenant 1 1 1 1;");
        Due.same("a tenant", "20 0 1", () -> pockets(tenants));
        Due.same("no house to look at", "-1 0", () -> look(tenants));
        DogLeases houses = Due.of("house 1 1 1 1;");
        Due.same("no pockets", "0 -1 1", () -> pockets(houses));
        Due.same("no pockets to look by", "-1 0", () -> look(houses));
    }

    private static void wrong() {
        DogLeases x = Due.of(TEXT);
        for (int odd : new int[] {-1, 2, 8, Integer.MAX_VALUE, Integer.MIN_VALUE}) {
            Due.noSuch("see(" + odd + ", 0, 1, true)", () -> x.see(odd, 0, 1, true));
            Due.noSuch("see(0, " + odd + ", 1, true)", () -> x.see(0, odd, 1, true));
            Due.noSuch("see(0, " + odd + ", 99, true): ahead", () -> x.see(0, odd, 99, true));
            Due.noSuch("look(" + odd + ")", () -> x.look(odd));
        }
        for (int odd : new int[] {-1, 3, Integer.MAX_VALUE, Integer.MIN_VALUE}) {
            Due.noSuch("pockets(" + odd + ")", () -> x.pockets(odd));
        }
        Due.same("none of it is a refusal", "0 0", () -> x.count(9) + " " + x.count(13));
    }
}
