/** Promises 35 to 37: years by a seed, the image and its return. */
public final class YearsTest {
    public static void main(String[] args) {
        years();
        nothingDrawn();
        ledAlready();
        wrong();
        images();
        Due.end();
    }

    /** The numbers come from a sheet of their own, reckoned by hand and by another program. */
    private static void years() {
        DogLeases x = Due.of("house 10 0 0 0;house 20 3 0 0;corner 30 0 0 0;tenant 1 0 0 5;tenant 2 0 0 6;life 6;likes chops;sleeps 0;");
        int[][] want = {{5, 0, 0, 0, 11}, {5, 1, 2, 0, 51}, {5, 4, 8, 1, 121}, {-7, 12, 11, 3, 291}, {123456789, 5, 9, 1, 161},
            {Integer.MAX_VALUE, 40, 14, 3, 291}, {Integer.MIN_VALUE, 9, 11, 2, 281}};
        for (int[] row : want) {
            for (int what = 0; what < 3; what++) {
                int i = what;
                Due.same("years(" + row[0] + ", " + row[1] + ", " + i + ")", row[2 + i], () -> x.years(row[0], row[1], i));
            }
        }
        Due.same("nothing of it was done", "0 7 11 0", () -> x.count(3) + " " + x.count(5) + " " + x.count(7) + " " + x.count(6));
    }

    private static void nothingDrawn() {
        DogLeases none = new DogLeases();
        Due.same("nothing", "0 0 0", () -> none.years(1, 40, 0) + " " + none.years(1, 40, 1) + " " + none.years(1, 40, 2));
        DogLeases houses = Due.of("house 1 0 0 0;house 1 0 0 1;life 5;");
        Due.same("quarters go by all the same", "0 1 0", () -> houses.years(1, 9, 0) + " " + houses.years(1, 9, 1) + " " + houses.years(1, 9, 2));
        DogLeases tenants = Due.of("tenant 1 1 0 33;tenant 1 1 0 44;");
        Due.same("coins of all", "0 0 77", () -> tenants.years(1, 9, 0) + " " + tenants.years(1, 9, 1) + " " + tenants.years(1, 9, 2));
    }

    /** The only house is led ahead of each quarter: its tenant loses it once. */
    private static void ledAlready() {
        DogLeases x = Due.of("house 8 0 0 0;tenant 9 0 0 0;likes 1;");
        Due.same("nobody's ever", "0 0", () -> x.years(77, 20, 0) + " " + x.years(77, 20, 2));
        x.quarters(1);
        Due.same("lost once", "1 8", () -> x.years(77, 20, 0) + " " + x.years(77, 20, 2));
        DogLeases two = Due.of("house 8 0 0 0;house 8 0 0 0;tenant 9 0 0 0;likes 1;");
        two.lead(0, true);
        two.lead(1, true);
        Due.same("led now, and drawn: nobody's", "0 0", () -> two.years(3, 1, 0) + " " + two.years(3, 1, 2));
    }

    private static void wrong() {
        DogLeases x = Due.of("house 8 0 0 0;tenant 9 0 0 0;likes 1;");
        for (int odd : new int[] {-1, 3, Integer.MAX_VALUE, Integer.MIN_VALUE}) {
            Due.noSuch("years(1, 1, " + odd + ")", () -> x.years(1, 1, odd));
            Due.noSuch("years(1, 41, " + odd + "): ahead", () -> x.years(1, 41, odd));
        }
        for (int odd : new int[] {-1, 41, Integer.MAX_VALUE, Integer.MIN_VALUE}) {
            Due.illegal("years(1, " + odd + ", 0)", () -> x.years(1, odd, 0));
        }
    }

    private static String all(DogLeases x) {
        StringBuilder some = new StringBuilder();
        for (int what = 0; what < 14; what++) {
            some.append(what == 10 ? "" : x.count(what) + " ");
        }
        for (int what = 0; what < 8; what++) {
            some.append(x.house(0, what)).append(' ').append(x.house(1, what)).append(' ');
        }
        for (int what = 0; what < 6; what++) {
            some.append(x.tenant(0, what)).append(' ').append(x.tenant(1, what)).append(' ');
        }
        return some.append(x.pockets(0)).append(' ').append(x.pockets(2)).toString();
    }

    private static void images() {
        DogLeases x = Due.of("house 9 8 5 1;house 7 7 1 0;tenant 3 2 1 30;tenant 2 1 0 5;life 10;");
        Due.same("no image", false, () -> x.restore());
        x.quarters(1);
        x.buy(0, 2);
        x.temper(1, 4);
        x.lead(0, true);
        x.see(0, 0, 2, false);
        x.see(9 - 9, 1, 1, true);
        x.buy(1, 99);
        Due.tell(x, "nonsense");
        x.see(0, 0, 0, true);
        String before = all(x);
        x.image();
        x.feed(0, 0, 0, 0, 0);
        change(x);
        Due.same("restore", true, () -> x.restore());
        Due.same("as it was", before, () -> all(x));
        Due.same("the tape is no part of it", 20, () -> x.count(10));
        Due.same("the acts are there", 3, () -> x.undo());
        Due.same("not led", 0, () -> x.count(6));
        Due.same("again", true, () -> x.restore());
        Due.same("as it was again", before, () -> all(x));
        undoAll(x);
        Due.same("at the start", "0 8 30", () -> x.count(3) + " " + x.house(0, 1) + " " + x.tenant(0, 3));
        x.image();
        x.quarters(3);
        Due.same("another image", true, () -> x.restore());
        Due.same("in place of the first", "0 0", () -> x.count(3) + " " + x.count(8));
        DogLeases full = Due.of("house 9 8 5 1;tenant 3 2 1 30;");
        for (int i = 0; i < 43; i++) {
            full.temper(0, i % 7);
        }
        full.image();
        for (int i = 0; i < 25; i++) {
            full.cats(0, i % 4);
        }
        full.restore();
        Due.same("a full ring", "40 0", () -> full.count(8) + " " + full.house(0, 2));
        Due.same("its last act", "39 6", () -> full.undo() + " " + full.house(0, 2));
        undoAll(full);
        Due.same("its first act", 2, () -> full.house(0, 2));
        for (int i = 0; i < 8; i++) {
            full.see(0, 0, 1, i < 7);
        }
        full.image();
        full.forget();
        for (int i = 0; i < 8; i++) {
            full.see(0, 0, 2, true);
        }
        Due.same("eight that are so", 1, () -> full.pockets(2));
        full.restore();
        Due.same("eight of which the last one is not so", "8 0", () -> full.count(9) + " " + full.pockets(2));
    }

    private static void change(DogLeases x) {
        x.quarters(5);
        x.cats(1, 3);
        x.forget();
        x.see(1, 1, 3, true);
        x.quarters(99);
        x.see(1, 1, 99, true);
        for (int i = 0; i < 50; i++) {
            x.cats(0, i % 4);
        }
    }

    private static void undoAll(DogLeases x) {
        for (int i = 0; i < 40; i++) {
            x.undo();
        }
    }
}
