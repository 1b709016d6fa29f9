/** Promises 1 to 4, and what a text may say: faults and their places, and what rules give. */
public final class TextTest {
    public static void main(String[] args) {
        newObject();
        feeding();
        terraceCalls();
        lines();
        limits();
        rules();
        nesting();
        cutOff();
        afterFault();
        ruleBehindFault();
        values();
        Due.end();
    }

    private static void newObject() {
        DogLeases x = new DogLeases();
        int[] want = {0, 0, 40, 0, 0, 0, 0, 0, 0, 0, 0, 0, 0, 0};
        for (int what = 0; what < want.length; what++) {
            int i = what;
            Due.same("new: count(" + i + ")", want[i], () -> x.count(i));
        }
        Due.same("new: fault()", -1, () -> x.fault());
        Due.same("new: restore()", false, () -> x.restore());
        Due.same("new: undo()", -1, () -> x.undo());
        Due.noSuch("new: house(0, 0)", () -> x.house(0, 0));
        Due.noSuch("new: tenant(0, 0)", () -> x.tenant(0, 0));
        Due.same("NONE", -1, () -> DogLeases.NONE);
    }

    private static void feeding() {
        DogLeases x = new DogLeases();
        for (int i = 1; i <= 35; i++) {
            int many = 20 * i;
            Due.same("feed " + i, many, () -> x.feed(-1, 0, 0, 0, 0));
        }
        Due.same("feed beyond 700", -1, () -> x.feed(0, 0, 0, 0, 0));
        Due.same("count(10) of a full tape", 700, () -> x.count(10));
        Due.illegal("terrace(701)", () -> x.terrace(701));
        Due.same("count(10) behind a refused terrace", 700, () -> x.count(10));
        Due.same("terrace(0) of a tape with anything", 0, () -> x.terrace(0));
        Due.same("count(10) behind terrace(0)", 0, () -> x.count(10));
        // l i f e, blank 7 ; ...: of each number the highest byte first
        Due.same("feed life 7;", 20, () -> x.feed(0x6c696665, 0x20373b0a, 0x20202020, 0x20202020, 0x20202020));
        Due.same("terrace(20)", 0, () -> x.terrace(20));
        Due.same("life of the fed text", 7, () -> x.count(2));
        Due.same("feed of blanks behind it", 20, () -> x.feed(0x20202020, 0x20202020, 0x20202020, 0x20202020, 0x20202020));
    }

    private static void terraceCalls() {
        DogLeases x = new DogLeases();
        Due.feed(x, "life 9;zzz");
        Due.illegal("terrace(21)", () -> x.terrace(21));
        Due.illegal("terrace(-1)", () -> x.terrace(-1));
        Due.illegal("terrace(least)", () -> x.terrace(Integer.MIN_VALUE));
        Due.same("count(10), nothing changes", 20, () -> x.count(10));
        Due.same("fault(), nothing changes", -1, () -> x.fault());
        Due.same("terrace(7)", 0, () -> x.terrace(7));
        Due.same("life", 9, () -> x.count(2));
        Due.same("count(10): the rest is gone too", 0, () -> x.count(10));
        Due.same("terrace(0) of nothing", 0, () -> x.terrace(0));
        Due.same("life anew", 40, () -> x.count(2));
    }

    private static void fault(String text, int kind, int place) {
        DogLeases x = new DogLeases();
        Due.same("fault of " + text, kind + "@" + place, () -> Due.tell(x, text) + "@" + x.fault());
        Due.same("status of " + text, kind == 0 ? 0 : 1, () -> x.count(11));
        Due.same("tape behind " + text, 0, () -> x.count(10));
    }

    private static void fine(String text) {
        fault(text, 0, -1);
    }

    private static void lines() {
        fine("");
        fine(" \n \n");
        fine("house 1 2 3 4;");
        fine("corner1 2 3 4;tenant5 6 3 8;butcher0 0 0 0;life3;likes(1);sleeps(1);");
        fine("\n house\n1 2 3\n4 ; ");
        fault("x", 1, 0);
        fault(";", 1, 0);
        fault("7", 1, 0);
        fault("12345", 1, 0);
        fault("House 1 2 3 4;", 1, 0);
        fault("houses 1 2 3 4;", 1, 0);
        fault("or 1;", 1, 0);
        fault("\t", 1, 0);
        fault("\r", 1, 0);
        fault("  \u00c8", 1, 2);
        fault("\u0000", 1, 0);
        fault("mouse 1 2 3 4;", 1, 0);
        fault("zzz", 1, 0);
        fault("house {", 1, 6);
        fault("house `", 1, 6);
        fault("house :", 1, 6);
        fault("house", 1, 5);
        fault("house  ", 1, 7);
        fault("house 1 2 3", 1, 11);
        fault("house 1 2 3;", 1, 11);
        fault("house 1 2 3 4", 1, 13);
        fault("house 1 2 3 4;;", 1, 14);
        fault("house 1 2 3 4 5;", 1, 14);
        fault("house 1 2 3 4 12345;", 1, 14);
        fault("house 1 2 3 4 house", 1, 14);
        fault("house 1\t2 3 4;", 1, 7);
        fault("house 1 x 3 4;", 1, 8);
        fault("house -1 2 3 4;", 1, 6);
        fault("house (1) 2 3 4;", 1, 6);
        fault("tenant 1 2 3 4, ", 1, 14);
        fault("life;", 1, 4);
        fault("life 5 5;", 1, 7);
        fault("life x;", 1, 5);
    }

    private static void limits() {
        fine("house 99 60 9 5;house 0099 0060 0009 0005;tenant 20 9 3 999;life 99;");
        fine("life 1;");
        fault("house 100 0 0 0;", 2, 6);
        fault("house 0 61 0 0;", 2, 8);
        fault("house 0 0 10 0;", 2, 10);
        fault("house 0 0 0 6;", 2, 12);
        fault("corner 0 0 0 6;", 2, 13);
        fault("house 00001 0 0 0;", 2, 6);
        fault("house 99999999999999999999 0 0 0;", 2, 6);
        fault("house 4294967296 0 0 0;", 2, 6);
        fault("tenant 21 0 0 0;", 2, 7);
        fault("tenant 0 10 0 0;", 2, 9);
        fault("tenant 0 0 4 0;", 2, 11);
        fault("tenant 0 0 0 1000;", 2, 13);
        fault("butcher 0 0 4 0;", 2, 12);
        fault("life 0;", 2, 5);
        fault("life 100;", 2, 5);
        fault("house 100 x", 2, 6);
        fault("life 1;life 1;", 5, 7);
        fault("likes 1;likes 1;", 5, 8);
        fault("sleeps 1; sleeps", 5, 10);
        fault("life 1;likes 1;sleeps 1;life", 5, 24);
        String houses = "house 0 0 0 0;";
        fine(houses.repeat(8));
        fault(houses.repeat(8) + "house", 2, 112);
        fault(houses.repeat(7) + "corner 0 0 0 0;corner x", 2, 113);
        String tenants = "tenant 0 0 0 0;";
        fine(tenants.repeat(7));
        fault(tenants.repeat(7) + "tenant 99 0 0 0;", 2, 105);
        fault(tenants.repeat(6) + "butcher 0 0 0 0;butcher 0 0 0 0;", 2, 106);
        fine(houses.repeat(8) + tenants.repeat(7) + "likes " + "1+".repeat(234) + "1;" + " ".repeat(4));
    }

    private static void rules() {
        fine("likes chops;");
        fine("sleeps age+temper*quarter/rent;");
        fine("likes age+temper+quarter+rent+chops+cats+coins+held+houses+beside;");
        fine("likes 1 < 2 and 2 < 3 or not 3 = 4;");
        fine("likes (1 < 2) < 3;");
        fine("likes 1 < (2 < 3);");
        fine("likes 9999;");
        fault("likes", 1, 5);
        fault("likes ;", 1, 6);
        fault("likes chops", 1, 11);
        fault("likes 1)", 1, 7);
        fault("likes (1;", 1, 8);
        fault("likes ();", 1, 7);
        fault("likes 1 1;", 1, 8);
        fault("likes 1 chops;", 1, 8);
        fault("likes 1 not 1;", 1, 8);
        fault("likes 1 house 1 1 1 1;", 1, 8);
        fault("likes +1;", 1, 6);
        fault("likes 1+;", 1, 8);
        fault("likes 1 < 2 < 3;", 1, 12);
        fault("likes 1 = 2 < 3;", 1, 12);
        fault("likes not 1 < 2 = 3;", 1, 16);
        fault("likes 1 < (2 < 3) < 4;", 1, 18);
        fault("likes 1 > 2;", 1, 8);
        fault("likes not;", 1, 9);
        fault("likes chops or;", 1, 14);
        fault("likes 12345;", 2, 6);
        fault("likes 1+00000;", 2, 8);
        fault("likes 1 12345;", 1, 8);
        fault("likes x;", 3, 6);
        fault("likes nott 1;", 3, 6);
        fault("likes z;", 3, 6);
        fault("likes zchops;", 3, 6);
        fault("likes bats;", 3, 6);
        fault("likes {;", 1, 6);
        fault("likes `;", 1, 6);
        fault("likes :;", 1, 6);
        fault("likes and;", 3, 6);
        fault("likes house;", 3, 6);
        fault("likes not x;", 3, 10);
        fault("likes chops or or", 3, 15);
        fault("likes 1 + not 1;", 3, 10);
        fault("likes 1 < not 1;", 3, 10);
        fault("likes 1*not", 3, 8);
        for (String word : new String[] {"chops", "cats", "coins", "held", "houses", "beside"}) {
            fault("sleeps 1+" + word + ";", 3, 9);
        }
    }

    private static void nesting() {
        fine("likes (((((1)))));");
        fine("likes (1)+(((((2)))))*(((((3)))));");
        fault("likes ((((((1))))));", 2, 12);
        fault("likes ((((((x", 2, 12);
        fault("likes ((((((not 1", 2, 12);
        fault("likes ((((((99999", 2, 12);
        fault("likes (((((((", 2, 12);
        fault("likes ((((((", 1, 12);
        fault("likes ((((((;", 1, 12);
        fault("likes (((((()", 1, 12);
        fault("likes ((((((+", 1, 12);
        fault("likes ((((((A", 1, 12);
        fault("sleeps 1+(2*(3<(4 or(5-(6/(7", 2, 27);
        fine("likes not not not not not not 1;");
        fault("likes not not not not not not not 1;", 2, 30);
        fault("likes 1 and not not not not not not not", 2, 36);
        fine("likes not not not not (not not not 1);");
        fine("likes 1+(not not not not not not 1);");
        fine("likes not not not not 1 and not not not 1;");
    }

    /** Bytes of the tape behind the text are no part of its last token. */
    private static void cutOff() {
        cut("house 1 2 3 4;", 4, 1, 0);
        cut("life 12;", 6, 1, 6);
        cut("likes 12345;", 10, 1, 10);
        cut("likes 12345;", 11, 2, 6);
        cut("likes chops;", 9, 3, 6);
        cut("likes chops;", 11, 1, 11);
        cut("life 7;likes", 7, 0, -1);
        cut("life 7;likes", 8, 1, 7);
    }

    private static void cut(String text, int n, int kind, int place) {
        DogLeases x = new DogLeases();
        Due.feed(x, text);
        Due.same("the first " + n + " of " + text, kind + "@" + place, () -> x.terrace(n) + "@" + x.fault());
    }

    /** A rule that broke off leaves nothing behind for the next one. */
    private static void ruleBehindFault() {
        String[] broken = {"likes not x", "likes not not not not not not x", "likes 3-x", "likes 3<x", "likes 3-(4-(x", "likes 1<(1)<1", "likes (1<1", "sleeps chops"};
        DogLeases x = new DogLeases();
        for (String text : broken) {
            Due.tell(x, text);
            Due.same("a fault of " + text, true, () -> x.fault() > 0);
            Due.same("a rule behind " + text, 0, () -> Due.tell(x, "house 1 2 3 4;tenant 5 0 0 0;likes not not not not not not 1=1;"));
            Due.same("its value", 1, () -> x.liking(0, 0));
            Due.tell(x, text);
            Due.same("another rule behind " + text, 0, () -> Due.tell(x, "house 1 2 3 4;tenant 5 0 0 0;likes 7-chops;"));
            Due.same("its value too", 2, () -> x.liking(0, 0));
        }
        Due.same("no rule", 0, () -> Due.tell(x, "house 1 2 3 4;tenant 5 0 0 0;"));
        Due.same("liking without", 15, () -> x.liking(0, 0));
    }

    private static void afterFault() {
        DogLeases x = Due.of("house 1 2 3 4;tenant 1 2 3 4;life 50;likes chops;");
        x.quarters(1);
        x.see(0, 0, 1, true);
        x.image();
        Due.same("a fault", 1, () -> Due.tell(x, "house 9 9 9 4;tenant 9 9 3 9;life 7;likes 5;sleeps 1;q"));
        Due.same("its place", 53, () -> x.fault());
        Due.same("rent stays", 1, () -> x.house(0, 0));
        Due.same("life stays", 50, () -> x.count(2));
        Due.same("likes stay", 2, () -> x.liking(0, 0));
        Due.same("no sleeps as before", 0, () -> x.house(0, 7));
        Due.same("quarter stays", 1, () -> x.count(3));
        Due.same("acts stay", 1, () -> x.count(8));
        Due.same("seen stays", 1, () -> x.count(9));
        Due.same("status", 1, () -> x.count(11));
        Due.illegal("a refused call changes nothing", () -> x.terrace(1));
        Due.same("the place stays", 53, () -> x.fault());
        Due.same("the image stays", true, () -> x.restore());
        Due.same("status as in the image", 0, () -> x.count(11));
        Due.same("another fault", 1, () -> Due.tell(x, "q"));
        Due.same("a terrace", 0, () -> Due.tell(x, "house 5 6 7 2;house 5 6 7 3;"));
        Due.same("no fault", -1, () -> x.fault());
        Due.same("houses", 2, () -> x.count(0));
        Due.same("tenants", 0, () -> x.count(1));
        Due.same("life without", 40, () -> x.count(2));
        Due.same("quarter anew", 0, () -> x.count(3));
        Due.same("acts are gone", 0, () -> x.count(8));
        Due.same("seen is gone", 0, () -> x.count(9));
        Due.same("the image is gone", false, () -> x.restore());
        Due.same("the status goes on", 1, () -> x.count(11));
    }

    private static void gives(String expression, int want) {
        DogLeases x = Due.of("house 7 3 2 0;tenant 4 1 1 50;likes " + expression + ";");
        Due.same(expression, want, () -> x.liking(0, 0));
    }

    private static void values() {
        gives("age", 3);
        gives("temper", 2);
        gives("quarter", 0);
        gives("rent", 7);
        gives("chops", 4);
        gives("cats", 1);
        gives("coins", 50);
        gives("held+houses+beside", 0);
        gives("2+3*4", 14);
        gives("(2+3)*4", 20);
        gives("10-3-2", 5);
        gives("100/5/2", 10);
        gives("2*3/4", 1);
        gives("2/3*4", 0);
        gives("7/2", 3);
        gives("(0-7)/2", -3);
        gives("7/(0-2)", -3);
        gives("5/0", 0);
        gives("5/(1-1)+3", 3);
        gives("1<2", 1);
        gives("2<1", 0);
        gives("2<2", 0);
        gives("2=2", 1);
        gives("0-1<0", 1);
        gives("1+1=2", 1);
        gives("not 0", 1);
        gives("not 5", 0);
        gives("not not 5", 1);
        gives("not 0-3", 0);
        gives("not 1=0", 1);
        gives("not 1 and 0", 0);
        gives("not 0 or 1", 1);
        gives("not (1 and 0)", 1);
        gives("3 and 4", 1);
        gives("3 and 0", 0);
        gives("0 or 7", 1);
        gives("0 or 0", 0);
        gives("1 or 0 and 0", 1);
        gives("0 and 0 or 1", 1);
        gives("(1 or 0) and 0", 0);
        gives("(3 and 4)*5+2", 7);
        gives("((1<2)<3)+9", 10);
        gives("(3)<(1<2)", 0);
        gives("9999", 999);
        gives("0-9999", -999);
        gives("9999*9999*9999<0", 1);
        gives("4096*4096*256", 0);
        gives("(0-4096*4096*128)/(0-1)", -999);
        gives("0012/12", 1);
        // Everything that can wait, at every depth: 1 if what is within is 0 or more, else 0.
        String all = "0 or 1 and not not not not not not 0<1+2*(";
        gives(all.repeat(5) + "1" + ")".repeat(5), 1);
        gives(all + "0-1)", 0);
        gives(all.repeat(2) + "0-1))", 1);
        gives(all.repeat(5) + all.substring(0, all.length() - 1) + "1" + ")".repeat(5), 1);
        gives("500-(((3)))-1", 496);
    }
}
