/** Each sentence of the document on texts and the tape (==== 1, promises 1 to 4) that names a boundary case. */
public final class EdgeTextTest {
    private static final String BLANKS = "538976288";

    public static void main(String[] args) {
        atMost();
        ofAHouse();
        ofATenant();
        life();
        longestText();
        words();
        numbers();
        signsAndBlanks();
        lines();
        linesTooShort();
        expressions();
        arithmetic();
        tests();
        valuesOfADog();
        valuesForATenant();
        firstFault();
        leastFault();
        strangeTokens();
        tooMuch();
        within();
        nots();
        noValues();
        seconds();
        newObject();
        feed();
        terrace();
        terraceRefused();
        faultPlace();
        Due.end();
    }

    private static void atMost() {
        Edge.sentence("HOUSES 0, 1 .. (at most 8) in a row");
        String house = "house 1 0 0 0;";
        Edge.due("", "count(0)=0 house(0,0)=NoSuch");
        Edge.due(house, "count(0)=1 house(0,0)=1 house(1,0)=NoSuch house(-1,0)=NoSuch");
        Edge.due(house.repeat(7) + "corner 5 0 0 0;", "count(0)=8 house(7,0)=5 house(8,0)=NoSuch count(5)=255");
        Edge.fault(house.repeat(8) + house, 2, 8 * 14);
        Edge.fault(house.repeat(8) + "corner 1 0 0 0;", 2, 8 * 14);
        Edge.fault("corner 1 0 0 0;".repeat(8) + house, 2, 8 * 15);
        Edge.sentence("TENANTS 0, 1 .. (at most 7)");
        String tenant = "tenant 1 0 0 0;";
        Edge.due("", "count(1)=0 tenant(0,0)=NoSuch");
        Edge.due(tenant, "count(1)=1 tenant(0,0)=1 tenant(1,0)=NoSuch tenant(-1,0)=NoSuch");
        Edge.due(tenant.repeat(6) + "butcher 5 0 0 0;", "count(1)=7 tenant(6,0)=5 tenant(7,0)=NoSuch");
        Edge.fault(tenant.repeat(7) + tenant, 2, 7 * 15);
        Edge.fault(tenant.repeat(7) + "butcher 1 0 0 0;", 2, 7 * 15);
        Edge.fault("butcher 1 0 0 0;".repeat(7) + tenant, 2, 7 * 16);
        Edge.sentence("the first TOKEN of the 9th HOUSE, the 8th TENANT");
        Edge.fault(house.repeat(8) + "\n house", 2, 8 * 14 + 2);
        Edge.fault(tenant.repeat(7) + " butcher;", 2, 7 * 15 + 1);
        Edge.fine(house.repeat(8) + tenant.repeat(7));
        Edge.fault(house.repeat(8) + tenant.repeat(7) + house, 2, 8 * 14 + 7 * 15);
    }

    /** From 0 to a limit at one place of a line; all others are 0. */
    private static void from0To(String word, int place, int limit, String question) {
        String[] four = {"0", "0", "0", "0"};
        int at = word.length() + 1 + 2 * place;
        Edge.due(line(word, four), question + "=0");
        four[place] = String.valueOf(limit);
        Edge.due(line(word, four), question + "=" + limit);
        four[place] = String.valueOf(limit + 1);
        Edge.fault(line(word, four), 2, at);
        four[place] = "9999";
        Edge.fault(line(word, four), 2, at);
        four[place] = "-1";
        Edge.fault(line(word, four), 1, at);
    }

    private static String line(String word, String[] four) {
        return word + " " + String.join(" ", four) + ";";
    }

    private static void ofAHouse() {
        for (String word : new String[] {"house", "corner"}) {
            Edge.sentence("RENT (0 to 99)");
            from0To(word, 0, 99, "house(0,0)");
            Edge.sentence("a DOG of AGE (0 to 60)");
            from0To(word, 1, 60, "house(0,1)");
            Edge.sentence("TEMPER (0 to 9)");
            from0To(word, 2, 9, "house(0,2)");
            Edge.sentence("PUPS (0 to 5)");
            from0To(word, 3, 5, "house(0,3)");
        }
    }

    private static void ofATenant() {
        for (String word : new String[] {"tenant", "butcher"}) {
            Edge.sentence("CHOPS (0 to 20)");
            from0To(word, 0, 20, "tenant(0,0)");
            Edge.sentence("WAGE (0 to 9 CHOPS each QUARTER)");
            from0To(word, 1, 9, "tenant(0,1)");
            Edge.sentence("CATS (0 to 3)");
            from0To(word, 2, 3, "tenant(0,2)");
            Edge.sentence("COINS (0 to 999)");
            from0To(word, 3, 999, "tenant(0,3)");
        }
    }

    private static void life() {
        Edge.sentence("LIFE (1 to 99 QUARTERS; 40 without)");
        Edge.due("", "count(2)=40");
        Edge.due("life 1;", "count(2)=1");
        Edge.due("life 99;", "count(2)=99");
        Edge.due("life 0099;", "count(2)=99");
        Edge.fault("life 0;", 2, 5);
        Edge.fault("life 0000;", 2, 5);
        Edge.fault("life 100;", 2, 5);
        Edge.fault("life -1;", 1, 5);
        Edge.due("house 0 38 0 0;", "sealed(0)=2 quarters(1)=1 count(4)=0 quarters(1)=2 count(4)=1");
    }

    private static void longestText() {
        Edge.sentence("A TEXT of at most 700 bytes tells it");
        String text = "house 9 0 0 0;".repeat(8) + "life " + " ".repeat(575) + "\n\n\n\n77;";
        Due.same("the length of the text", 699, () -> text.length());
        Edge.due(text, "count(0)=8 count(2)=77");
        Edge.due(" " + text, "count(0)=8 count(2)=77");
        DogLeases x = new DogLeases();
        Due.feed(x, " " + text);
        Edge.due(x, "count(10)=700 feed(0,0,0,0,0)=-1 terrace(701)=Illegal terrace(699)=1 fault()=699 count(10)=0");
        Due.feed(x, " " + text);
        Edge.due(x, "terrace(700)=0 count(2)=77");
    }

    private static void words() {
        Edge.sentence("words (a .. z, the longest row)");
        Edge.fault("housetenant 1 2 3 4;", 1, 0);
        Edge.fault("lifelife 5;", 1, 0);
        Edge.fault("lif e 5;", 1, 0);
        Edge.fault("lif", 1, 0);
        Edge.fine("life5;likes7;");
        Edge.fault("likesage;", 1, 0);
        Edge.fault("likes ageage;", 3, 6);
        Edge.fault("likes age age;", 1, 10);
        Edge.fault("likes notage;", 3, 6);
        Edge.fault("likes 1 orage;", 1, 8);
        Edge.fine("likes 1or age;");
        Edge.fault("likes a;", 3, 6);
        Edge.fault("likes z;", 3, 6);
        Edge.fault("likes abcdefghijklmnopqrstuvwxyz;", 3, 6);
        Edge.fault("likes abcdefghijklmnopqrstuvwxyz{;", 3, 6);
        Edge.fault("LIFE 5;", 1, 0);
        Edge.fault("lIFE 5;", 1, 0);
    }

    private static void numbers() {
        Edge.sentence("NUMBERS (1 to 4 digits)");
        Edge.gives("7", 7);
        Edge.gives("0007", 7);
        Edge.gives("9999-9990", 9);
        Edge.fault("likes 00007;", 2, 6);
        Edge.fine("life 0007;");
        Edge.fault("life 00007;", 2, 5);
        Edge.fault("life 7 7;", 1, 7);
        Edge.gives("0123/1", 123);
        Edge.gives("4567-4000", 567);
        Edge.gives("0089", 89);
    }

    /** Every byte, at the start of a line, within one, and within an EXPR. */
    private static void signsAndBlanks() {
        Edge.sentence("signs ; ( ) + - * / < = ; blanks (32, 10) between them count for nothing");
        for (char sign = 0; sign < 256; sign++) {
            boolean isBlank = sign == 32 || sign == 10;
            boolean isDigit = sign >= '0' && sign <= '9';
            boolean isLetter = sign >= 'a' && sign <= 'z';
            Edge.fault(sign + "life 5;", isBlank ? 0 : 1, isBlank ? -1 : 0);
            Edge.fault("life" + sign + "5;", isBlank || isDigit ? 0 : 1, isBlank || isDigit ? -1 : isLetter ? 0 : 4);
            Edge.fault("life 5;" + sign, isBlank ? 0 : 1, isBlank ? -1 : 7);
            boolean joins = isDigit || "+-*/<=".indexOf(sign) >= 0;
            Edge.fault("likes 1" + sign + "1;", joins ? 0 : 1, joins ? -1 : isBlank || sign == ';' ? 8 : 7);
            int kind = isBlank || isDigit || sign == '(' ? 0 : isLetter ? 3 : 1;
            Edge.fault("likes " + sign + "1" + (sign == '(' ? ");" : ";"), kind, kind == 0 ? -1 : 6);
        }
        Edge.fine("\n\nlikes\n \n(\nchops <\n3 ) ;\n ");
        Edge.fine("likes(chops<3);life 5;");
        Edge.fault("li fe 5;", 1, 0);
    }

    private static void lines() {
        Edge.sentence("TERRACE: LINE*");
        Edge.fine("");
        Edge.fine(" ");
        Edge.fine("\n \n");
        Edge.fault(";", 1, 0);
        Edge.fine("life 5;house 1 1 1 1;likes 1;tenant 1 1 1 1;sleeps 1;corner 1 1 1 1;butcher 1 1 1 1;");
        Edge.fault("life 5;;", 1, 7);
        Edge.sentence("('house' | 'corner') RENT AGE TEMPER PUPS");
        Edge.due("house 10 20 3 4;corner 11 21 2 5;", "house(0,0)=10 house(0,1)=20 house(0,2)=3 house(0,3)=4 house(0,6)=0"
            + " house(1,0)=11 house(1,1)=21 house(1,2)=2 house(1,3)=5 house(1,6)=1");
        Edge.fault("house 1 2 3 4 5;", 1, 14);
        Edge.fault("corner 1 2 3;", 1, 12);
        Edge.fault("houses 1 2 3 4;", 1, 0);
        Edge.sentence("('tenant' | 'butcher') CHOPS WAGE CATS COINS");
        Edge.due("tenant 10 7 3 400;butcher 11 6 2 500;", "tenant(0,0)=10 tenant(0,1)=7 tenant(0,2)=3 tenant(0,3)=400 tenant(0,5)=0"
            + " tenant(1,0)=11 tenant(1,1)=6 tenant(1,2)=2 tenant(1,3)=500 tenant(1,5)=1");
        Edge.fault("tenant 1 2 3 4 5;", 1, 15);
        Edge.fault("butcher 1 2 3;", 1, 13);
        Edge.sentence("'life' NUMBER");
        Edge.fault("life;", 1, 4);
        Edge.fault("life 5 5;", 1, 7);
        Edge.sentence("all in capitals but EXPR being NUMBERS");
        Edge.fault("house (1) 2 3 4;", 1, 6);
        Edge.fault("house 1 age 3 4;", 1, 8);
        Edge.fault("tenant 1+1 3 4 5;", 1, 8);
        Edge.fault("life (5);", 1, 5);
        Edge.fault("life 2*3;", 1, 6);
        Edge.sentence("('likes' | 'sleeps') EXPR) ';'");
        Edge.fault("likes;", 1, 5);
        Edge.fault("sleeps ;", 1, 7);
        Edge.fine("likes 1;sleeps 1;");
        Edge.fine("sleeps 1;likes 1;");
    }

    private static void linesTooShort() {
        Edge.sentence("(the text's length where it ends too soon)");
        for (String text : new String[] {"house 1 2 3 4;", "corner 11 22 3 4;", "tenant 1 2 3 4;", "butcher 11 2 3 444;", "life 55;"}) {
            // Cut within its word a line begins with another word; behind that it ends too soon wherever it is cut.
            int word = text.indexOf(' ');
            for (int n = 1; n < word; n++) {
                Edge.fault(text.substring(0, n), 1, 0);
            }
            for (int n = word; n < text.length(); n++) {
                Edge.fault(text.substring(0, n), 1, n);
            }
            Edge.fine(text);
            Edge.fault("likes 1;" + text.substring(0, text.length() - 1) + " \n ", 1, 8 + text.length() + 2);
        }
        for (String text : new String[] {"likes", "likes ", "likes 1", "likes 1 ", "likes 1+", "likes (", "likes (1", "likes (1)", "likes not",
            "likes 1 or", "likes 1 and ", "likes 1<", "likes 1=2", "likes age", "sleeps age\n", "likes ((((((", "likes not not not not not not"}) {
            Edge.fault(text, 1, text.length());
        }
        DogLeases x = new DogLeases();
        Due.feed(x, "likes 1+1;life 5;");
        Edge.due(x, "terrace(8)=1 fault()=8 count(11)=1");
    }

    private static void expressions() {
        Edge.sentence("EXPR: AND ('or' AND)*. AND: NOT ('and' NOT)*.");
        Edge.gives("1 or 0 and 0", 1);
        Edge.gives("0 and 0 or 1", 1);
        Edge.gives("0 or 0 or 5", 1);
        Edge.gives("5 and 5 and 0", 0);
        Edge.fault("likes or 1;", 3, 6);
        Edge.fault("likes 1 or;", 1, 10);
        Edge.fault("likes 1 and or 1;", 3, 12);
        Edge.sentence("NOT: 'not' NOT | SUM [('<' | '=') SUM].");
        Edge.gives("not 1<2", 0);
        Edge.gives("not 0 and 0", 0);
        Edge.gives("not not 7", 1);
        Edge.gives("not 1 or 1", 1);
        Edge.gives("1<2", 1);
        Edge.gives("2<2", 0);
        Edge.gives("3<2", 0);
        Edge.gives("2=2", 1);
        Edge.gives("2=3", 0);
        Edge.gives("0-1<0", 1);
        Edge.gives("1+1=4-2", 1);
        Edge.fault("likes 1<2<3;", 1, 9);
        Edge.fault("likes 1=2=3;", 1, 9);
        Edge.fault("likes 1<2=3;", 1, 9);
        Edge.fault("likes 1+1<2*1=3;", 1, 13);
        Edge.fault("likes (1<2<3);", 1, 10);
        // What stands in parentheses neither takes the place of a test nor makes place for another one.
        Edge.fault("likes 1<(2)<3;", 1, 11);
        Edge.fault("likes 1<2*(3)=4;", 1, 13);
        Edge.fault("likes (1)<(2)=(3);", 1, 13);
        Edge.fault("likes 1<(2<3)=4;", 1, 13);
        Edge.fault("likes 1=(not (2<3) and 1)+1<4;", 1, 27);
        Edge.fault("likes (1<(2)<3);", 1, 12);
        Edge.fault("likes not 1<((2))<3;", 1, 17);
        Edge.gives("1+(2<3)<4", 1);
        Edge.gives("((1<2)<3)<1", 0);
        Edge.gives("(1<(2))+(1<(2<3))+((1)=(1))", 2);
        Edge.gives("1<(2) and 2<(3) or 3<(4)", 1);
        Edge.gives("(1<2)<3", 1);
        Edge.gives("1<2 and 2<3", 1);
        Edge.gives("(2<1)=(1<2 or 3<4)", 0);
        Edge.sentence("SUM: PRODUCT (('+' | '-') PRODUCT)*. PRODUCT: PART (('*' | '/') PART)*. PART: NUMBER | VALUE | '(' EXPR ')'.");
        Edge.gives("2+3*4", 14);
        Edge.gives("(2+3)*4", 20);
        Edge.gives("20-6/3", 18);
        Edge.gives("(1 or 0)+(not 0)", 2);
        Edge.fault("likes -1;", 1, 6);
        Edge.fault("likes 1+-1;", 1, 8);
        Edge.fault("likes 1**1;", 1, 8);
        Edge.fault("likes ();", 1, 7);
        Edge.fault("likes (1;", 1, 8);
        Edge.fault("likes 1);", 1, 7);
        Edge.fault("likes 1(2);", 1, 7);
        Edge.fault("likes (1)(2);", 1, 9);
        Edge.fault("likes (1)2;", 1, 9);
        Edge.fault("likes (1)age;", 1, 9);
        Edge.fault("likes (1 or);", 1, 11);
    }

    private static void arithmetic() {
        Edge.sentence("From the left; ints that wrap, / cut down to 0, by 0 gives 0");
        Edge.gives("10-3-2", 5);
        Edge.gives("100/10/5", 2);
        Edge.gives("7/2*2", 6);
        Edge.gives("7*3/2", 10);
        Edge.gives("10-3+2", 9);
        // 4096*4096*64 is 2 to the 30th: twice that is one more than the greatest int.
        String half = "4096*4096*64";
        Edge.gives("0<" + half + "-1+" + half, 1);
        Edge.gives(half + "+" + half + "<0", 1);
        Edge.gives("0-" + half + "-" + half + "<0", 1);
        Edge.gives("0<0-" + half + "-" + half + "-1", 1);
        Edge.gives(half + "+" + half + "=0-" + half + "-" + half, 1);
        Edge.gives(half + "*2<0", 1);
        Edge.gives(half + "*4", 0);
        // 999700029999 less 233 times 2 to the 32nd is -1027349969.
        Edge.gives("9999*9999*9999/9999/1000", -102);
        Edge.gives("(9999*9999*3+5)/(9999*9999)", 3);
        Edge.gives("1/2", 0);
        Edge.gives("7/2", 3);
        Edge.gives("(0-1)/2", 0);
        Edge.gives("(0-7)/2", -3);
        Edge.gives("7/(0-2)", -3);
        Edge.gives("(0-7)/(0-2)", 3);
        Edge.gives("5/0", 0);
        Edge.gives("0/0", 0);
        Edge.gives("(0-5)/0", 0);
        Edge.gives("9+5/(3-3)", 9);
        Edge.gives("(" + half + "*2)/(0-1)=" + half + "*2", 1);
        Edge.gives("1+(" + half + "*2)/0", 1);
        DogLeases asleep = Edge.of("house 5 0 0 0;tenant 1 0 0 0;sleeps 1+rent/age;");
        Edge.due(asleep, "house(0,7)=1 then(0,1)=-1");
        DogLeases awake = Edge.of("house 5 0 0 0;tenant 1 0 0 0;sleeps rent/age;");
        Edge.due(awake, "house(0,7)=0 then(0,1)=-1 quarters(1)=1 house(0,7)=1");
    }

    private static void tests() {
        Edge.sentence("tests, not, and, or are 1 or 0 (what isn't 0 holds)");
        Edge.gives("(3<5)*7", 7);
        Edge.gives("(5<3)*7+1", 1);
        Edge.gives("not 0", 1);
        Edge.gives("not 1", 0);
        Edge.gives("not 5", 0);
        Edge.gives("not (0-1)", 0);
        Edge.gives("5 and 7", 1);
        Edge.gives("5 and 0", 0);
        Edge.gives("0 and 5", 0);
        Edge.gives("(0-1) and (0-2)", 1);
        Edge.gives("5 or 7", 1);
        Edge.gives("0 or 5", 1);
        Edge.gives("(0-3) or 0", 1);
        Edge.gives("0 or 0", 0);
        Edge.gives("2 and 1", 1);
        Edge.gives("4 and 2 or 0", 1);
    }

    private static void valuesOfADog() {
        Edge.sentence("VALUES of a DOG: 'age', 'temper', 'quarter', 'rent' (of its HOUSE)");
        String all = "house 1 0 0 0;house 2 60 9 0;tenant 0 0 0 0;life 99;sleeps 0;likes ";
        Edge.due(all + "age;", "liking(0,0)=0 liking(1,0)=60 quarters(1)=1 liking(0,0)=1 liking(1,0)=61");
        Edge.due(all + "temper;", "liking(0,0)=0 liking(1,0)=9 temper(0,5)=0 liking(0,0)=5 liking(1,0)=9");
        Edge.due(all + "rent;", "liking(0,0)=1 liking(1,0)=2");
        Edge.due(all + "quarter;", "liking(0,0)=0 quarters(20)=20 liking(0,0)=20 liking(1,0)=20");
        // The first quarter is QUARTER 0 while it goes by, and its dogs are 1 older then.
        Edge.due(all + "quarter=0;", "then(0,1)=0 then(0,2)=-1");
        Edge.due(all + "age=1;", "then(0,1)=0 then(0,2)=-1 then(1,1)=-1");
        String asleep = "house 1 0 0 0;house 2 9 9 0;tenant 0 0 0 0;likes 1;sleeps ";
        Edge.due(asleep + "age=10;", "then(0,1)=0 then(1,1)=-1 then(1,2)=0 house(1,7)=0 quarters(1)=1 house(1,7)=1");
        Edge.due(asleep + "temper=9;", "then(0,1)=0 then(1,1)=-1 house(0,7)=0 house(1,7)=1");
        Edge.due(asleep + "rent=1;", "then(0,1)=-1 then(1,1)=0 house(0,7)=1 house(1,7)=0");
        Edge.due(asleep + "quarter=0;", "then(0,1)=-1 then(1,1)=-1 then(0,2)=0 house(0,7)=1 quarters(1)=1 house(0,7)=0");
    }

    private static void valuesForATenant() {
        Edge.sentence("of LIKES, for a TENANT, also 'chops', 'cats', 'coins'");
        Edge.due("house 0 0 0 0;tenant 20 0 3 999;tenant 0 0 0 0;likes chops;", "liking(0,0)=20 liking(0,1)=0");
        Edge.due("house 0 0 0 0;tenant 20 0 3 999;tenant 0 0 0 0;likes cats;", "liking(0,0)=3 liking(0,1)=0 cats(1,2)=0 liking(0,1)=2");
        Edge.due("house 0 0 0 0;tenant 20 0 3 999;tenant 0 0 0 0;likes coins;", "liking(0,0)=999 liking(0,1)=0 buy(0,9)=20 liking(0,0)=972");
        Edge.sentence("'held' (how many QUARTERS one after another, up to now, the TENANT has had that HOUSE)");
        DogLeases held = Edge.of("house 0 0 0 0;house 0 0 0 0;tenant 0 0 0 0;tenant 0 0 0 0;likes held+1;");
        Edge.due(held, "liking(0,0)=1 quarters(1)=1 liking(0,0)=2 liking(0,1)=1 quarters(19)=20 liking(0,0)=21 house(0,5)=20");
        Edge.due(held, "lead(0,true)=true quarters(1)=21 liking(0,0)=1 liking(1,0)=22 house(0,5)=0 quarters(1)=22 liking(0,0)=2 house(0,5)=1");
        Edge.sentence("'houses' (how many the TENANT has had since the last QUARTER DAY)");
        DogLeases houses = Edge.of("house 0 0 0 0;".repeat(8) + "tenant 0 0 0 0;tenant 0 0 0 0;likes houses+1;");
        Edge.due(houses, "liking(0,0)=1 quarters(1)=1 liking(0,0)=9 liking(7,0)=9 liking(0,1)=1 lead(3,true)=true quarters(1)=2 liking(0,0)=8");
        Edge.sentence("'beside' (how many of these are next to that HOUSE)");
        DogLeases beside = Edge.of("house 0 0 0 0;".repeat(8) + "tenant 0 0 0 0;tenant 0 0 0 0;likes beside+1;");
        Edge.due(beside, "liking(0,0)=1 lead(2,true)=true lead(5,true)=true quarters(1)=1 liking(0,0)=2 liking(1,0)=2 liking(2,0)=3"
            + " liking(3,0)=2 liking(4,0)=2 liking(5,0)=3 liking(6,0)=2 liking(7,0)=2 liking(2,1)=1");
        DogLeases one = Edge.of("house 0 0 0 0;tenant 0 0 0 0;likes beside*10+houses+1;");
        Edge.due(one, "quarters(1)=1 liking(0,0)=2");
    }

    private static void firstFault() {
        Edge.sentence("FAULTS, the first along the text, at a TOKEN's first byte");
        Edge.fault("house 100 61 10 6;", 2, 6);
        Edge.fault("house 1 61 10 6;", 2, 8);
        Edge.fault("life 1;life 100;x", 5, 7);
        Edge.fault("x life 1;life 1;", 1, 0);
        Edge.fault("likes 1 + bone < 12345;", 3, 10);
        Edge.fault("  \n  housing", 1, 5);
        Edge.fault("tenant 1 2 3  9999;", 2, 14);
        Edge.fault("likes 1\n\n+ 12345", 2, 11);
        Edge.fault("likes (1+2;)", 1, 10);
        Edge.fault("sleeps 1; house 1 2 3 4; sleeps 1;", 5, 25);
    }

    private static void leastFault() {
        Edge.sentence("of one TOKEN the least");
        // Too long and where no number can stand: 1, not 2.
        Edge.fault("12345;", 1, 0);
        Edge.fault("life 5 12345;", 1, 7);
        Edge.fault("likes 1 12345;", 1, 8);
        // Too long and not as told, too long and the first of an EXPR too far within: 2.
        Edge.fault("life 12345;", 2, 5);
        Edge.fault("likes ((((((12345", 2, 12);
        // A second life, a ninth house, where a line has not ended: 1, not 5 or 2.
        Edge.fault("life 5 life 5;", 1, 7);
        Edge.fault("likes 1 likes 1;", 1, 8);
        Edge.fault("house 0 0 0 0;".repeat(8) + "life 5 house", 1, 8 * 14 + 7);
        // No value and the first of an EXPR too far within: 2, not 3.
        Edge.fault("likes ((((((bone", 2, 12);
        Edge.fault("sleeps ((((((chops", 2, 13);
        // A word of another line, or a second one, where a PART must stand: 3, not 5.
        Edge.fault("likes likes;", 3, 6);
        Edge.fault("life 5;likes life;", 3, 13);
    }

    private static void strangeTokens() {
        Edge.sentence("1 a TOKEN that can't stand there, or is none");
        Edge.fault("bone", 1, 0);
        Edge.fault("5", 1, 0);
        Edge.fault("(", 1, 0);
        Edge.fault("life (", 1, 5);
        Edge.fault("life likes", 1, 5);
        Edge.fault("life 5 5", 1, 7);
        Edge.fault("house 1;", 1, 7);
        Edge.fault("likes 1 age", 1, 8);
        Edge.fault("likes 1 not", 1, 8);
        Edge.fault("likes 1 (", 1, 8);
        Edge.fault("likes )", 1, 6);
        Edge.fault("likes ;", 1, 6);
        Edge.fault("likes <", 1, 6);
        Edge.fault("likes (1;", 1, 8);
        Edge.fault("life ,", 1, 5);
        Edge.fault("life 5,", 1, 6);
        Edge.fault("likes 1>2", 1, 7);
        Edge.fault("likes ?", 1, 6);
        Edge.fault("likes \u00ff", 1, 6);
        Edge.fault("likes \u0080", 1, 6);
    }

    private static void tooMuch() {
        Edge.sentence("2 one that can, but is too much: a NUMBER of 5 digits or more");
        Edge.fine("likes 9999;");
        Edge.fault("likes 10000;", 2, 6);
        Edge.fault("likes 00000;", 2, 6);
        Edge.fault("likes 1+2*(00001", 2, 11);
        Edge.fault("likes " + "1".repeat(600) + ";", 2, 6);
        for (String word : new String[] {"house", "corner", "tenant", "butcher"}) {
            for (int place = 0; place < 4; place++) {
                String[] four = {"0", "0", "0", "0"};
                four[place] = "0001";
                Edge.fine(line(word, four));
                four[place] = "00001";
                Edge.fault(line(word, four), 2, word.length() + 1 + 2 * place);
                four[place] = "1".repeat(40);
                Edge.fault(line(word, four), 2, word.length() + 1 + 2 * place);
            }
        }
        Edge.fault("life " + "0".repeat(300) + "5;", 2, 5);
        // 4294967296 and 5, 2 to the 64th and 5: numbers that an int, or a long, would wrap to 5.
        Edge.fault("life 4294967301;", 2, 5);
        Edge.fault("life 18446744073709551621;", 2, 5);
        Edge.sentence("or (not in an EXPR) not as told");
        Edge.fault("house 0 0 0 6;", 2, 12);
        Edge.fault("life 0;", 2, 5);
        Edge.fine("likes 9999*100+0;");
    }

    private static void within() {
        Edge.sentence("of an EXPR within 6 others (a NUMBER, any word, a parenthesis)");
        // The EXPR of the line is one, each parenthesis begins another: the seventh of them is within six.
        Edge.gives("(((((7)))))", 7);
        Edge.fault("likes ((((((7))))));", 2, 12);
        Edge.fault("likes ((((((age", 2, 12);
        Edge.fault("likes ((((((bone", 2, 12);
        Edge.fault("likes ((((((not", 2, 12);
        Edge.fault("likes ((((((or", 2, 12);
        Edge.fault("likes ((((((house", 2, 12);
        Edge.fault("likes (((((((", 2, 12);
        Edge.fault("likes ((((((+", 1, 12);
        Edge.fault("likes ((((((<", 1, 12);
        Edge.fault("likes ((((((;", 1, 12);
        Edge.fault("likes ((((((?", 1, 12);
        Edge.fault("likes ((((((", 1, 12);
        Edge.fault("likes (((((()", 1, 12);
        Edge.fault("sleeps 1+(1*(1<(1 and(not(1-(1", 2, 29);
        Edge.gives("(1)+(((((2)))))+((((3))))+(((((4)))))", 10);
        Edge.fault("likes (((((1)))))+((((((1", 2, 24);
        Edge.fault("likes (((((1)+((2", 2, 16);
        Edge.gives("(((((1)+(2))+(3))))", 6);
    }

    private static void nots() {
        Edge.sentence("the seventh 'not' side by side");
        Edge.gives("not not not not not not 7", 1);
        Edge.gives("not not not not not 7", 0);
        Edge.fault("likes not not not not not not not 7;", 2, 30);
        Edge.fault("likes not not not not not not not not not 7;", 2, 30);
        Edge.fault("likes 1 or not not not not not not not", 2, 35);
        Edge.fault("sleeps (not\nnot not not not not  not", 2, 33);
        // Others stand between them.
        Edge.gives("not not not not not not (not not not not not not 7)", 1);
        Edge.gives("not not not not 0 or not not not not 0", 0);
        Edge.gives("not not not not not not 1 and not not not not not not 1", 1);
        Edge.gives("(not not not not not not 1)+(not not not not not not 1)", 2);
    }

    private static void noValues() {
        Edge.sentence("3 any word where a PART must stand that is no VALUE of this EXPR");
        String[] ofADog = {"age", "temper", "quarter", "rent"};
        String[] forATenant = {"chops", "cats", "coins", "held", "houses", "beside"};
        String[] others = {"house", "corner", "tenant", "butcher", "life", "likes", "sleeps", "or", "and", "wage", "pups", "ages", "ag", "b"};
        for (String word : ofADog) {
            Edge.fine("likes " + word + ";sleeps " + word + ";");
            Edge.fine("likes 1+(" + word + ")*" + word + "<" + word + ";");
        }
        for (String word : forATenant) {
            Edge.fine("likes " + word + ";");
            Edge.fault("sleeps " + word + ";", 3, 7);
            Edge.fault("sleeps age*(1 or " + word + ");", 3, 17);
            Edge.fault("likes " + word + ";sleeps " + word + ";", 3, 14 + word.length());
        }
        for (String word : others) {
            Edge.fault("likes " + word + ";", 3, 6);
            Edge.fault("likes 1+" + word + ";", 3, 8);
            Edge.fault("likes 1<" + word + ";", 3, 8);
            Edge.fault("likes not " + word + ";", 3, 10);
            Edge.fault("likes (" + word + ");", 3, 7);
            Edge.fault("likes 1 and " + word + ";", 3, 12);
        }
        for (String sign : new String[] {"+", "-", "*", "/", "<", "="}) {
            Edge.fault("likes 1" + sign + "not 1;", 3, 8);
        }
    }

    private static void seconds() {
        Edge.sentence("5 a second 'life', 'likes', 'sleeps'");
        Edge.fault("life 5;life 5;", 5, 7);
        Edge.fault("likes 1;likes 1;", 5, 8);
        Edge.fault("sleeps 0; sleeps 0;", 5, 10);
        Edge.fault("life 5;likes 1;sleeps 0;sleeps", 5, 24);
        Edge.fault("life 5;likes 1;sleeps 0;likes", 5, 24);
        Edge.fault("life 5;likes 1;sleeps 0;life", 5, 24);
        Edge.fault("life 5;house 1 1 1 1;tenant 1 1 1 1;life", 5, 36);
        DogLeases again = Edge.of("life 5;likes 1;sleeps 0;");
        Due.same("another text has its own", 0, () -> Due.tell(again, "life 6;likes 2;sleeps 1;"));
        Due.same("a fault", 1, () -> Due.tell(again, "life 6;likes 2;sleeps 1;x"));
        Due.same("and another one behind a fault", 0, () -> Due.tell(again, "life 7;likes 2;sleeps 1;"));
        Edge.due(again, "count(2)=7");
    }

    private static void newObject() {
        Edge.sentence("`DogLeases()`: No HOUSES.");
        DogLeases x = new DogLeases();
        Edge.due(x, "count(0)=0 count(1)=0 count(2)=40 count(3)=0 count(4)=0 count(5)=0 count(6)=0 count(7)=0 count(8)=0 count(9)=0 count(10)=0"
            + " count(11)=0 count(12)=0 count(13)=0 fault()=-1 house(0,0)=NoSuch tenant(0,0)=NoSuch undo()=-1 restore()=false");
        Edge.due(x, "buy(0,1)=NoSuch cats(0,1)=NoSuch lead(0,true)=NoSuch temper(0,1)=NoSuch then(0,1)=NoSuch purse(0,1,0)=NoSuch sealed(0)=NoSuch"
            + " gets(0,0)=NoSuch loses(0)=NoSuch most(40)=-1 row(0,0)=NoSuch empty(40)=0 liking(0,0)=NoSuch leastChops(0,0)=NoSuch toWin(0,0)=NoSuch"
            + " ruin(0)=NoSuch share(-1,1)=0 share(0,1)=NoSuch beside(0)=NoSuch oldest(0)=-1 oldest(1)=-1 envy(0)=NoSuch see(0,0,1,true)=NoSuch"
            + " pockets(0)=0 pockets(1)=-1 pockets(2)=1 look(0)=-1 look(1)=0 game(0,1,0)=NoSuch years(1,40,0)=0 years(1,40,1)=0 years(1,40,2)=0");
        Edge.due(x, "count(12)=0 count(13)=0 quarters(20)=20 count(3)=20 undo()=0 count(3)=0 forget()=- image()=- restore()=true");
    }

    private static void feed() {
        Edge.sentence("Twenty bytes come behind the tape, of each number the highest first: how many it has");
        DogLeases x = new DogLeases();
        // "life", " 12;", then what is no token: 255 254 253 252 ..; only so many bytes are read.
        Edge.due(x, "feed(1818846821,540095035,-66052,0,-1)=20 terrace(8)=0 count(2)=12");
        Edge.due(x, "feed(1818846821,540095035,-66052,0,-1)=20 terrace(9)=1 fault()=8");
        Edge.due(x, "feed(MIN,MAX,-1,0,1)=20 feed(1,2,3,4,5)=40 terrace(40)=1 fault()=0");
        // 20 blanks, and then "life 45;"
        Edge.due(x, "feed(" + times(BLANKS, 5) + ")=20 feed(1818846821,540292411," + times(BLANKS, 3) + ")=40 terrace(40)=0 count(2)=45");
        Edge.sentence("NONE, and none come, if it would have more than 700");
        DogLeases full = new DogLeases();
        for (int many = 20; many <= 700; many += 20) {
            Edge.due(full, "count(10)=" + (many - 20) + " feed(" + times(BLANKS, 5) + ")=" + many);
        }
        Edge.due(full, "feed(0,0,0,0,0)=-1 count(10)=700 feed(0,0,0,0,0)=-1 count(10)=700 count(11)=0 count(12)=0 terrace(700)=0 count(10)=0 feed(0,0,0,0,0)=20");
        String fills = ("feed(" + times(BLANKS, 5) + ") ").repeat(34) + "feed(1818846821,540292411," + times(BLANKS, 3) + ") ";
        Edge.unchanged(SOME, ACTS + fills, "feed(1,2,3,4,5)", "-1", -1);
    }

    /** Three houses, three tenants; acts, what is seen, an image, and acts behind it. */
    private static final String SOME = "house 10 5 2 1;house 20 28 5 0;corner 30 2 0 1;tenant 4 1 1 40;butcher 2 0 0 9;tenant 1 2 3 99;life 31;";
    private static final String ACTS = "quarters(1) buy(0,2) cats(2,1) see(0,0,1,true) see(1,2,12,false) quarters(40) image() lead(2,true) temper(0,7) quarters(2) lead(0,true) ";

    private static String times(String one, int many) {
        return (one + ",").repeat(many - 1) + one;
    }

    private static void terrace() {
        Edge.sentence("The tape's first n bytes (it is empty then) are a TERRACE, all anew: 0");
        DogLeases x = new DogLeases();
        Edge.due(x, "terrace(0)=0 fault()=-1");
        Due.feed(x, "life 12;life 13;");
        Edge.due(x, "terrace(8)=0 count(2)=12 count(10)=0 terrace(0)=0 count(2)=40 terrace(1)=Illegal");
        Due.feed(x, "life 12;life 13;");
        Edge.due(x, "terrace(7)=1 fault()=7 count(10)=0");
        Due.feed(x, "life 12;    life 1;");
        Edge.due(x, "terrace(12)=0 count(2)=12");
        Due.feed(x, "life 12;    ");
        Edge.due(x, "terrace(20)=0 count(2)=12");
        DogLeases anew = Edge.of("house 9 9 9 5;corner 8 8 8 4;tenant 1 2 3 4;butcher 2 2 2 2;life 7;likes 5;sleeps 1;");
        Edge.due(anew, "quarters(3)=3 lead(0,true)=true");
        Due.same("another terrace", 0, () -> Due.tell(anew, "corner 3 30 2 1;house 4 29 0 0;tenant 6 5 0 3;"));
        Edge.due(anew, "count(0)=2 count(1)=1 count(2)=40 count(3)=0 count(4)=0 count(5)=3 count(6)=0 count(7)=3 house(0,0)=3 house(0,1)=30 house(0,2)=2"
            + " house(0,3)=1 house(0,4)=-1 house(0,5)=0 house(0,6)=1 house(0,7)=1 house(1,6)=0 house(1,7)=0 house(2,0)=NoSuch tenant(0,0)=6 tenant(0,1)=5"
            + " tenant(0,2)=0 tenant(0,3)=3 tenant(0,5)=0 tenant(1,0)=NoSuch liking(0,0)=18");
        Edge.sentence("ACTS, what is SEEN, the image are gone.");
        DogLeases gone = Edge.of(SOME);
        Edge.due(gone, "quarters(2)=2 see(0,0,1,true)=1 image()=- count(8)=1 count(9)=1");
        Due.same("an empty text", 0, () -> gone.terrace(0));
        Edge.due(gone, "count(8)=0 count(9)=0 undo()=-1 restore()=false pockets(2)=1 count(0)=0 count(3)=0");
    }

    private static void terraceRefused() {
        Edge.sentence("or the FAULT (all stays, but STATUS)");
        Edge.unchangedByText(SOME, ACTS, "x", 1);
        Edge.unchangedByText(SOME, ACTS, "house 1 1 1 1;tenant 9 9 3 9;life 7;likes 5;sleeps 1;life", 5);
        Edge.unchangedByText(SOME, ACTS, "corner 1 1 1 1;butcher 1 1 1 1;life 3;house 100", 2);
        Edge.unchangedByText(SOME, ACTS, "sleeps 1;likes bone", 3);
        Edge.unchangedByText("", "", "life 5;sleeps chops", 3);
        Edge.sentence("IllegalArgumentException: the tape has not so many, n below 0 (nothing changes).");
        String fed = ACTS + "feed(1818846821,540292411," + times(BLANKS, 3) + ") ";
        for (String n : new String[] {"21", "-1", "700", "701", "MIN", "MAX"}) {
            Edge.unchanged(SOME, fed, "terrace(" + n + ")", "Illegal", -1);
        }
        Edge.unchanged(SOME, ACTS, "terrace(1)", "Illegal", -1);
        Edge.due(SOME, "terrace(1)=Illegal terrace(-1)=Illegal count(11)=0 count(12)=0 count(13)=0 terrace(0)=0");
    }

    private static void faultPlace() {
        Edge.sentence("The place of the latest terrace()'s FAULT; NONE without.");
        DogLeases x = new DogLeases();
        Edge.due(x, "fault()=-1 terrace(0)=0 fault()=-1");
        Due.tell(x, "life 5;  bone");
        Edge.due(x, "fault()=9 fault()=9 terrace(1)=Illegal fault()=9 feed(0,0,0,0,0)=20 fault()=9 quarters(1)=1 fault()=9 image()=- restore()=true fault()=9");
        Edge.due(x, "terrace(3)=1 fault()=0 terrace(0)=0 fault()=-1");
        Due.tell(x, "life");
        Edge.due(x, "fault()=4");
        Due.tell(x, "life 5;");
        Edge.due(x, "fault()=-1");
    }
}
