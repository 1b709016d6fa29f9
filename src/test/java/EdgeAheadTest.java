/** Each sentence of the document on what will be and what could be (==== 3, promises 14 to 29) that names a boundary case. */
public final class EdgeAheadTest {
    /** Three houses, of which the second is sealed by the first quarter; three tenants; acts, what is seen, an image, acts behind it, a tape. */
    private static final String SOME = "house 10 5 2 1;house 20 30 5 0;corner 30 2 0 1;tenant 4 1 1 40;butcher 2 0 0 9;tenant 1 2 3 99;life 31;";
    private static final String ACTS = "quarters(1) buy(0,2) cats(2,1) see(0,0,1,true) see(1,2,12,false) quarters(40) image() lead(2,true)"
        + " temper(0,7) quarters(2) lead(0,true) feed(1818846821,540292411,538976288,538976288,538976288) ";
    private static final String EIGHT = "house 0 0 0 0;".repeat(8);
    /** A dog that sleeps until its 40th, or its 41st, quarter. */
    private static final String FORTIETH = "house 3 0 0 0;tenant 0 0 0 0;life 99;likes 1;sleeps age<40;";
    private static final String LATER = "house 3 0 0 0;tenant 0 0 0 0;life 99;likes 1;sleeps age<41;";

    public static void main(String[] args) {
        then();
        purse();
        sealed();
        gets();
        loses();
        most();
        row();
        empty();
        liking();
        leastChops();
        toWin();
        ruin();
        share();
        shareOfLikeOnes();
        beside();
        oldest();
        envy();
        questions();
        Due.end();
    }

    private static void then() {
        Edge.sentence("THEN: who has a HOUSE behind so many QUARTERS (0 to 40); none.");
        Edge.due(FORTIETH, "then(0,0)=-1 then(0,39)=-1 then(0,40)=0 quarters(20)=20 quarters(19)=39 then(0,0)=-1 then(0,1)=0 quarters(1)=40 then(0,0)=0");
        Edge.due("house 0 9 0 0;tenant 0 0 0 0;life 10;likes 1;", "then(0,1)=-1 then(0,40)=-1");
        Edge.sentence("IllegalArgumentException (behind NoSuchElementException): not 0 to 40.");
        for (String quarters : new String[] {"-1", "41", "MIN", "MAX"}) {
            Edge.unchanged(SOME, ACTS, "then(0," + quarters + ")", "Illegal", -1);
            Edge.unchanged(SOME, ACTS, "then(3," + quarters + ")", "NoSuch", -1);
            Edge.unchanged(SOME, ACTS, "then(-1," + quarters + ")", "NoSuch", -1);
        }
        Edge.sentence("(If only QUARTERS go by, from now on:)");
        // What is led now is so in the next quarter alone; and the quarter may be beyond 999.
        Edge.due("house 0 0 0 0;tenant 0 0 0 0;likes 1;", "lead(0,true)=true then(0,1)=-1 then(0,2)=0 count(6)=1");
        DogLeases late = Edge.of("house 5 0 0 0;tenant 0 0 0 0;life 1;likes 1;");
        for (int i = 0; i < 49; i++) {
            late.quarters(20);
        }
        Edge.due(late, "quarters(19)=999 then(0,40)=-1 empty(40)=1 most(40)=-1 purse(0,40,0)=0 years(1,40,1)=1");
        DogLeases beyond = Edge.of("tenant 0 1 0 0;");
        for (int i = 0; i < 49; i++) {
            beyond.quarters(20);
        }
        Edge.due(beyond, "quarters(19)=999 purse(0,0,1)=20 most(40)=-1 empty(40)=0");
    }

    private static void purse() {
        Edge.sentence("COINS (what 0), CHOPS (1) of a TENANT then. NoSuchElementException: also another what. IllegalArgumentException (behind that): not 0 to 40.");
        String two = "house 99 0 0 0;tenant 3 2 0 999;tenant 0 9 0 5;likes 1;life 99;sleeps 0;";
        Edge.due(two, "purse(0,0,0)=999 purse(0,0,1)=3 purse(0,1,0)=1098 purse(0,1,1)=4 purse(0,40,0)=4959 purse(0,40,1)=20 purse(1,2,1)=18 purse(1,3,1)=20 purse(1,40,0)=5");
        Edge.due("house 99 0 0 0;".repeat(8) + "tenant 0 0 0 0;likes 1;life 99;sleeps 0;", "purse(0,12,0)=9504 purse(0,13,0)=9999 purse(0,40,0)=9999");
        for (String quarters : new String[] {"-1", "41", "MIN", "MAX"}) {
            Edge.unchanged(SOME, ACTS, "purse(0," + quarters + ",0)", "Illegal", -1);
            Edge.unchanged(SOME, ACTS, "purse(2," + quarters + ",1)", "Illegal", -1);
            Edge.unchanged(SOME, ACTS, "purse(0," + quarters + ",2)", "NoSuch", -1);
            Edge.unchanged(SOME, ACTS, "purse(0," + quarters + ",-1)", "NoSuch", -1);
            Edge.unchanged(SOME, ACTS, "purse(3," + quarters + ",0)", "NoSuch", -1);
        }
        for (String what : new String[] {"-1", "2", "MIN", "MAX"}) {
            Edge.unchanged(SOME, ACTS, "purse(0,0," + what + ")", "NoSuch", -1);
        }
    }

    private static void sealed() {
        Edge.sentence("SEALED: behind how many QUARTERS (0 to 99) a HOUSE is; none.");
        Edge.due("house 0 59 0 0;house 0 60 0 0;life 61;", "sealed(0)=2 sealed(1)=1 quarters(1)=1 sealed(0)=1 sealed(1)=0 quarters(1)=2 sealed(0)=0 sealed(1)=0");
        Edge.due("house 0 0 0 0;life 99;", "sealed(0)=99 quarters(1)=1 sealed(0)=98");
        Edge.due("corner 0 0 0 0;corner 0 1 0 0;corner 0 2 0 0;life 50;", "sealed(0)=-1 sealed(1)=99 sealed(2)=98 quarters(1)=1 sealed(0)=99");
        Edge.due("corner 0 0 0 0;corner 0 60 0 0;life 99;", "sealed(0)=-1 sealed(1)=-1");
        // With each pup a life more.
        Edge.due("house 0 0 0 2;life 33;", "sealed(0)=99");
        Edge.due("house 0 0 0 4;house 0 1 0 4;life 20;", "sealed(0)=-1 sealed(1)=99");
        Edge.due("house 0 1 0 1;corner 0 1 0 1;life 25;", "sealed(0)=49 sealed(1)=99");
        Edge.due("house 0 0 0 5;life 1;", "sealed(0)=6 quarters(5)=5 sealed(0)=1 count(4)=0 quarters(1)=6 sealed(0)=0");
        // One that is too old already is buried by the next quarter, and its pup is of age 0.
        Edge.due("house 0 60 0 0;house 0 60 0 1;corner 0 60 0 1;life 10;", "sealed(0)=1 sealed(1)=11 sealed(2)=21 quarters(1)=1 house(1,1)=0 sealed(1)=10");
        Edge.due("house 0 0 0 5;life 99;", "sealed(0)=-1");
    }

    private static void gets() {
        Edge.sentence("GETS: behind how many QUARTERS (0 to 40) a TENANT first has a HOUSE (0: now); none.");
        Edge.due(FORTIETH, "gets(0,0)=40 quarters(1)=1 gets(0,0)=39 quarters(20)=21 quarters(18)=39 gets(0,0)=1 quarters(1)=40 gets(0,0)=0");
        Edge.due(LATER, "gets(0,0)=-1 quarters(1)=1 gets(0,0)=40");
        Edge.due("house 0 0 0 0;tenant 0 0 0 0;likes 0;", "gets(0,0)=-1");
        // Chops 2 and 1: tenant 0 twice, then tenant 1.
        Edge.due("house 0 0 0 0;tenant 2 0 0 0;tenant 1 0 0 0;likes chops;", "gets(0,0)=1 gets(1,0)=3 quarters(1)=1 gets(0,0)=0 gets(1,0)=2");
        // Lost and had again: the first time counts.
        Edge.due("house 0 0 0 0;tenant 0 0 0 0;likes 1;sleeps age=2;", "gets(0,0)=1 quarters(2)=2 gets(0,0)=1");
    }

    private static void loses() {
        Edge.sentence("LOSES: behind how many QUARTERS (1 to 40) a HOUSE that somebody has isn't that one's any more first; none.");
        String awake = "house 3 0 0 0;tenant 0 0 0 0;life 99;likes 1;sleeps age=";
        Edge.due(awake + "41;", "loses(0)=-1 quarters(1)=1 loses(0)=40 quarters(1)=2 loses(0)=39");
        Edge.due(awake + "42;", "quarters(1)=1 loses(0)=-1 quarters(1)=2 loses(0)=40");
        Edge.due(awake + "2;", "quarters(1)=1 loses(0)=1 quarters(1)=2 loses(0)=-1 quarters(1)=3 loses(0)=-1");
        Edge.due("house 0 0 0 0;tenant 2 0 0 0;tenant 1 0 0 0;likes chops;", "quarters(1)=1 loses(0)=2 quarters(1)=2 loses(0)=1 quarters(1)=3 house(0,4)=1 loses(0)=1");
        Edge.due("house 0 8 0 0;tenant 0 0 0 0;life 10;likes 1;", "quarters(1)=1 loses(0)=1 quarters(1)=2 loses(0)=-1");
        Edge.due("house 0 0 0 0;tenant 0 0 0 0;likes 1;", "quarters(1)=1 lead(0,true)=true loses(0)=1");
    }

    private static void most() {
        Edge.sentence("MOST: the TENANT with most HOUSES behind so many QUARTERS (0 to 40; of like ones the least); none, if nobody has any.");
        String three = "house 0 0 0 0;house 0 0 0 0;house 0 0 0 0;";
        Edge.due(three + "tenant 1 0 0 0;tenant 5 0 0 0;likes chops;", "most(0)=-1 most(1)=1 quarters(1)=1 most(0)=1");
        Edge.due("house 0 0 0 0;house 0 0 0 0;tenant 9 0 0 0;tenant 9 0 0 0;likes chops;", "then(0,1)=0 then(1,1)=1 most(1)=0");
        Edge.due("house 0 0 0 0;house 0 0 0 0;tenant 0 0 0 0;tenant 9 0 0 0;tenant 9 0 0 0;likes chops;", "then(0,1)=1 then(1,1)=2 most(1)=1");
        // Houses by 3 and 2 chops: 3 to tenant 1, then 2 and 2 to tenant 0, then 2 to tenant 1.
        Edge.due(three + "tenant 2 0 0 0;tenant 3 0 0 0;likes chops;", "then(0,1)=1 then(1,1)=0 then(2,1)=1 most(1)=1");
        Edge.due(EIGHT + "tenant 0 0 0 0;".repeat(6) + "butcher 0 0 0 0;likes 0;", "most(0)=-1 most(1)=6 most(29)=6");
        Edge.due(three + "tenant 9 0 0 0;likes 0;", "most(1)=-1 most(40)=-1");
        Edge.due(three, "most(0)=-1 most(40)=-1");
        Edge.due(FORTIETH, "most(39)=-1 most(40)=0");
        Edge.sentence("MOST; NONE: none. IllegalArgumentException: not 0 to 40.");
        for (String quarters : new String[] {"-1", "41", "MIN", "MAX"}) {
            Edge.unchanged(SOME, ACTS, "most(" + quarters + ")", "Illegal", -1);
        }
        Edge.due(new DogLeases(), "most(-1)=Illegal most(0)=-1 most(40)=-1 most(41)=Illegal");
    }

    private static String leads(int bits) {
        StringBuilder run = new StringBuilder();
        for (int h = 0; h < 8; h++) {
            run.append((bits >> h & 1) == 1 ? "lead(" + h + ",true)=true " : "");
        }
        return run.toString();
    }

    private static void row() {
        Edge.sentence("A ROW of a TENANT: the most HOUSES side by side that one has now: how many; the first of these (of like ones the least); none.");
        String all = EIGHT + "tenant 0 0 0 0;tenant 0 0 0 0;likes 1;";
        Edge.due(all, "row(0,0)=0 row(0,1)=-1 quarters(1)=1 row(0,0)=8 row(0,1)=0 row(1,0)=0 row(1,1)=-1");
        Edge.due(all, leads(8) + "quarters(1)=1 row(0,0)=4 row(0,1)=4");
        Edge.due(all, leads(16) + "quarters(1)=1 row(0,0)=4 row(0,1)=0");
        Edge.due(all, leads(8 + 128) + "quarters(1)=1 row(0,0)=3 row(0,1)=0");
        Edge.due(all, leads(127) + "quarters(1)=1 row(0,0)=1 row(0,1)=7");
        Edge.due(all, leads(254) + "quarters(1)=1 row(0,0)=1 row(0,1)=0");
        Edge.due(all, leads(255) + "quarters(1)=1 row(0,0)=0 row(0,1)=-1");
        Edge.due(all, leads(2 + 8 + 32 + 128) + "quarters(1)=1 row(0,0)=1 row(0,1)=0");
        // The last house and the first are not side by side.
        Edge.due(all, leads(2 + 64) + "quarters(1)=1 row(0,0)=4 row(0,1)=2");
        Edge.due(all, leads(60) + "quarters(1)=1 row(0,0)=2 row(0,1)=0");
        Edge.sentence("A ROW: how many (what 0), the first (1; NONE: none). NoSuchElementException: also another what.");
        for (String what : new String[] {"-1", "2", "MIN", "MAX"}) {
            Edge.unchanged(SOME, ACTS, "row(0," + what + ")", "NoSuch", -1);
        }
    }

    private static void empty() {
        Edge.sentence("EMPTY behind so many QUARTERS (0 to 40): HOUSES that are nobody's, as bits.");
        Edge.due(EIGHT + "tenant 0 0 0 0;likes 1;", "empty(0)=255 empty(1)=0 lead(7,true)=true lead(0,true)=true empty(1)=129 empty(2)=0 empty(29)=0 empty(30)=255 empty(40)=255");
        Edge.due("house 0 9 0 0;house 0 0 0 0;tenant 0 0 0 0;life 10;likes 1;", "empty(0)=3 empty(1)=1 empty(9)=1 empty(10)=3 empty(40)=3");
        Edge.due(FORTIETH, "empty(39)=1 empty(40)=0");
        Edge.due("tenant 0 0 0 0;", "empty(0)=0 empty(40)=0");
        Edge.sentence("EMPTY, as bits. IllegalArgumentException: not 0 to 40.");
        for (String quarters : new String[] {"-1", "41", "MIN", "MAX"}) {
            Edge.unchanged(SOME, ACTS, "empty(" + quarters + ")", "Illegal", -1);
        }
        Edge.due(new DogLeases(), "empty(-1)=Illegal empty(0)=0 empty(40)=0 empty(41)=Illegal");
    }

    private static void liking() {
        Edge.sentence("LIKING of a HOUSE's DOG for a TENANT: what it would be told just now (a butcher's 2 too; AGE as it is); of one SEALED 0.");
        Edge.due("house 0 9 0 0;tenant 0 0 0 0;butcher 0 0 0 0;life 10;likes age+quarter*100;", "liking(0,0)=9 liking(0,1)=11 quarters(1)=1 count(4)=1 liking(0,0)=0 liking(0,1)=0");
        Edge.due("house 0 9 0 1;tenant 0 0 0 0;butcher 0 0 0 0;life 10;likes age+quarter*100;", "quarters(1)=1 liking(0,0)=100 liking(0,1)=102");
        Edge.due("house 0 40 0 0;tenant 2 0 0 0;life 99;", "house(0,7)=1 liking(0,0)=6 lead(0,true)=true liking(0,0)=6");
        Edge.due("house 0 0 9 0;tenant 0 0 3 0;butcher 0 0 3 0;", "liking(0,0)=-27 liking(0,1)=-25");
    }

    private static void leastChops() {
        Edge.sentence("THE LEAST CHOPS: how many a TENANT must have now (0 to 20, in place of what there are), so as to have a HOUSE behind the next QUARTER: the least; none.");
        String nine = "house 1 0 0 0;tenant 9 9 0 0;likes ";
        Edge.due(nine + "3-chops;", "leastChops(0,0)=0");
        Edge.due(nine + "chops;", "leastChops(0,0)=1");
        Edge.due(nine + "chops=9;", "leastChops(0,0)=9");
        Edge.due(nine + "chops=8 or chops=10;", "leastChops(0,0)=8");
        Edge.due(nine + "chops=20;", "leastChops(0,0)=20 tenant(0,0)=9");
        Edge.due(nine + "20<chops;", "leastChops(0,0)=-1");
        Edge.due(nine + "0;", "leastChops(0,0)=-1");
        Edge.due("house 1 0 0 0;tenant 4 0 0 0;tenant 4 0 0 0;likes chops;", "leastChops(0,0)=4 leastChops(1,0)=5");
        Edge.due("house 1 0 0 0;tenant 20 0 0 0;tenant 4 0 0 0;likes chops;", "leastChops(1,0)=-1 leastChops(0,0)=4");
        Edge.due("house 1 0 0 0;butcher 20 0 0 0;likes 0;", "leastChops(0,0)=0");
        Edge.due("house 1 9 0 0;tenant 9 0 0 0;life 10;likes 1;", "leastChops(0,0)=-1 quarters(1)=1 leastChops(0,0)=-1");
        Edge.due("house 1 0 0 0;tenant 9 0 0 0;likes 1;", "lead(0,true)=true leastChops(0,0)=-1");
        // Behind the next quarter, not now.
        Edge.due("house 1 0 0 0;tenant 9 0 0 0;likes quarter=0;", "quarters(1)=1 house(0,4)=0 leastChops(0,0)=-1");
        // For the eighth house eight: each of those ahead takes one.
        Edge.due(EIGHT + "tenant 0 0 0 0;likes chops;", "leastChops(0,0)=1 leastChops(0,7)=8");
    }

    private static void toWin() {
        Edge.sentence("TO WIN: how many HOUSES at most a TENANT has behind the next QUARTER, by as many CHOPS as one chooses now (0 to 20): the least number of these.");
        Edge.due(EIGHT + "tenant 3 0 0 0;likes chops;", "toWin(0,0)=8 toWin(0,1)=8 tenant(0,0)=3");
        Edge.due(EIGHT + "tenant 3 0 0 0;likes 1;", "toWin(0,0)=8 toWin(0,1)=0");
        Edge.due(EIGHT + "tenant 3 0 0 0;likes 0;", "toWin(0,0)=0 toWin(0,1)=0");
        Edge.due(EIGHT + "tenant 3 0 0 0;likes chops=20;", "toWin(0,0)=1 toWin(0,1)=20");
        Edge.due(EIGHT + "tenant 3 0 0 0;likes chops<2;", "toWin(0,0)=8 toWin(0,1)=0");
        Edge.due(EIGHT + "tenant 3 0 0 0;likes chops=5 or chops=4 or chops=17;", "toWin(0,0)=2 toWin(0,1)=5");
        Edge.due(EIGHT + "tenant 3 0 0 0;likes 12<chops;", "toWin(0,0)=8 toWin(0,1)=20");
        Edge.due(EIGHT + "tenant 3 0 0 0;likes 13<chops;", "toWin(0,0)=7 toWin(0,1)=20");
        Edge.due("tenant 3 0 0 0;", "toWin(0,0)=0 toWin(0,1)=0");
        Edge.due("house 0 9 0 0;tenant 3 0 0 0;life 10;", "toWin(0,0)=0 toWin(0,1)=0");
        Edge.sentence("TO WIN: how many HOUSES (what 0), the least CHOPS (1). NoSuchElementException: also another what.");
        for (String what : new String[] {"-1", "2", "MIN", "MAX"}) {
            Edge.unchanged(SOME, ACTS, "toWin(0," + what + ")", "NoSuch", -1);
        }
    }

    private static void ruin() {
        Edge.sentence("RUIN of a TENANT: another one by whom, if that other one had no CATS from now on, this one would have fewest HOUSES behind the next QUARTER, if these are fewer than without that (of like ones the least); none.");
        Edge.due("house 0 0 9 0;tenant 9 0 3 0;", "ruin(0)=-1");
        Edge.due("house 0 0 9 0;tenant 9 0 0 0;tenant 20 0 0 0;", "ruin(0)=-1 ruin(1)=-1");
        // 6 against 9 less 5, and 9 without a cat; so it is by tenant 2.
        Edge.due("house 0 0 5 0;tenant 2 0 0 0;tenant 3 0 1 0;tenant 3 0 1 0;", "then(0,1)=0 ruin(0)=1 ruin(1)=-1 ruin(2)=-1 tenant(1,2)=1");
        Edge.due("house 0 0 5 0;tenant 2 0 0 0;tenant 1 0 1 0;tenant 3 0 1 0;", "ruin(0)=2");
        // As much is not enough: 6 against 6 is the least one's; but it is for tenant 1.
        Edge.due("house 0 0 5 0;tenant 2 0 0 0;tenant 2 0 1 0;", "ruin(0)=-1");
        Edge.due("house 0 0 5 0;tenant 2 0 1 0;tenant 2 0 0 0;", "then(0,1)=1 ruin(1)=0");
        // One house of two is lost by tenant 1, both by tenant 2.
        String two = "house 0 0 0 0;house 0 0 0 0;";
        Edge.due(two + "tenant 5 0 0 0;tenant 6 0 1 0;tenant 20 0 2 0;likes chops-cats*10;", "ruin(0)=2");
        Edge.due(two + "tenant 5 0 0 0;tenant 20 0 2 0;tenant 6 0 1 0;likes chops-cats*10;", "ruin(0)=1");
        Edge.due(two + "tenant 5 0 0 0;tenant 20 0 2 0;tenant 20 0 2 0;likes chops-cats*10;", "ruin(0)=1");
        // One's own cats, and another one's whom that one takes houses from, are no ruin.
        Edge.due("house 0 0 9 0;tenant 5 0 1 0;tenant 1 0 0 0;likes chops+cats*10;", "ruin(0)=-1");
        Edge.due("house 0 0 9 0;tenant 5 0 0 0;tenant 1 0 3 0;tenant 5 0 0 0;likes chops;", "ruin(0)=-1 ruin(2)=-1");
    }

    private static void share() {
        Edge.sentence("and no TENANT has more than so many (1 to 8) of them");
        String alone = EIGHT + "tenant 0 0 0 0;likes 5;";
        for (int each = 1; each <= 8; each++) {
            DogLeases x = Edge.of(alone);
            Edge.due(x, "share(-1," + each + ")=" + 5 * each + " share(0," + each + ")=0 share(" + (each - 1) + "," + each + ")=0");
            if (each < 8) {
                Edge.due(x, "share(" + each + "," + each + ")=-1 share(7," + each + ")=-1");
            }
        }
        Edge.sentence("of all ways in which HOUSES that aren't SEALED go to TENANTS for whom LIKING is above 0, or to nobody");
        Edge.due("house 0 0 0 0;tenant 0 0 0 0;likes 1;", "share(-1,1)=1 share(0,1)=0");
        Edge.due("house 0 0 0 0;tenant 0 0 0 0;likes 0;", "share(-1,1)=0 share(0,1)=-1");
        Edge.due("house 0 0 0 0;tenant 0 0 0 0;likes 0-1;", "share(-1,1)=0 share(0,1)=-1");
        Edge.due("house 0 0 0 0;butcher 0 0 0 0;likes 0-1;", "share(-1,1)=1 share(0,1)=0");
        Edge.due("house 0 0 0 0;butcher 0 0 0 0;likes 0-2;", "share(-1,1)=0 share(0,1)=-1");
        Edge.due("house 0 9 0 0;house 0 0 0 0;tenant 0 0 0 0;life 10;likes 4;", "share(-1,8)=8 quarters(1)=1 share(-1,8)=4 share(0,8)=-1 share(1,8)=0");
        Edge.due("house 0 0 0 0;", "share(-1,8)=0 share(0,8)=-1");
        Edge.due("tenant 9 0 0 0;", "share(-1,8)=0 share(0,8)=NoSuch");
        Edge.due(EIGHT + "butcher 0 0 0 0;".repeat(7) + "likes 9999;", "share(-1,8)=8008 share(-1,1)=7007 share(-1,2)=8008");
        Edge.sentence("A SHARE: how much (house NONE), who has a HOUSE (NONE: nobody, SEALED). NoSuchElementException: no such HOUSE. IllegalArgumentException (behind that): not 1 to 8.");
        for (String each : new String[] {"0", "9", "-1", "MIN", "MAX"}) {
            Edge.unchanged(SOME, ACTS, "share(-1," + each + ")", "Illegal", -1);
            Edge.unchanged(SOME, ACTS, "share(0," + each + ")", "Illegal", -1);
            Edge.unchanged(SOME, ACTS, "share(3," + each + ")", "NoSuch", -1);
            Edge.unchanged(SOME, ACTS, "share(-2," + each + ")", "NoSuch", -1);
        }
        for (String house : new String[] {"-2", "3", "8", "MIN", "MAX"}) {
            Edge.unchanged(SOME, ACTS, "share(" + house + ",1)", "NoSuch", -1);
        }
        Edge.due(new DogLeases(), "share(-1,0)=Illegal share(-1,1)=0 share(-1,8)=0 share(-1,9)=Illegal share(0,9)=NoSuch");
    }

    private static void shareOfLikeOnes() {
        Edge.sentence("that with most LIKING, all together: how much; who has a HOUSE: of like ones, TENANT by TENANT, that by which HOUSES that one has are least as bits.");
        // Like ones: none to tenant 0, if the others can have all; else house 0.
        Edge.due("house 0 0 0 0;house 0 0 0 0;tenant 0 0 0 0;tenant 0 0 0 0;likes 4;", "share(-1,2)=8 share(0,2)=1 share(1,2)=1 share(-1,1)=8 share(0,1)=0 share(1,1)=1");
        Edge.due("house 0 0 0 0;house 0 0 0 0;house 0 0 0 0;tenant 0 0 0 0;tenant 0 0 0 0;likes 4;", "share(-1,2)=12 share(0,2)=0 share(1,2)=1 share(2,2)=1 share(-1,1)=8 share(0,1)=0 share(1,1)=1 share(2,1)=-1");
        Edge.due(EIGHT + "tenant 0 0 0 0;".repeat(7) + "likes 1;", "share(-1,1)=7 share(0,1)=0 share(6,1)=6 share(7,1)=-1 share(0,8)=6 share(7,8)=6 share(0,7)=5 share(1,7)=6 share(7,7)=6");
        // The best for house 0 alone is not the best of all: 9 and 1, or 8 and 7.
        Edge.due("house 1 0 0 0;house 2 0 0 0;tenant 1 0 0 0;tenant 2 0 0 0;likes (chops=1)*(9*(rent=1)+7*(rent=2))+(chops=2)*(8*(rent=1)+1*(rent=2));", "share(-1,1)=15 share(0,1)=1 share(1,1)=0 share(-1,2)=16 share(0,2)=0 share(1,2)=0");
        // More in all, though the first one's bits are more: 3 and 3 of tenant 0 against 2 and 2.
        Edge.due("house 0 0 0 0;house 0 0 0 0;tenant 3 0 0 0;tenant 2 0 0 0;likes chops;", "share(-1,2)=6 share(0,2)=0 share(1,2)=0");
    }

    private static void beside() {
        Edge.sentence("HOUSES that aren't SEALED, nor a TENANT's, but next to one that is the TENANT's, as bits.");
        String all = EIGHT + "tenant 0 0 0 0;tenant 0 0 0 0;likes 1;";
        Edge.due(all, "beside(0)=0 quarters(1)=1 beside(0)=0 beside(1)=0");
        Edge.due(all, leads(254) + "quarters(1)=1 beside(0)=2");
        Edge.due(all, leads(127) + "quarters(1)=1 beside(0)=64");
        Edge.due(all, leads(255 - 16) + "quarters(1)=1 beside(0)=40");
        Edge.due(all, leads(4) + "quarters(1)=1 beside(0)=4");
        Edge.due(all, leads(60) + "quarters(1)=1 beside(0)=36");
        // No house is behind the last one of three, though there could be eight.
        Edge.due("house 0 0 0 0;house 0 0 0 0;house 0 0 0 0;tenant 0 0 0 0;likes 1;", leads(3) + "quarters(1)=1 tenant(0,4)=4 beside(0)=2");
        // Another one's counts, a sealed one does not.
        Edge.due("house 0 0 0 0;house 0 0 0 0;tenant 1 0 0 0;tenant 1 0 0 0;likes chops;", "quarters(1)=1 tenant(0,4)=1 tenant(1,4)=2 beside(0)=2 beside(1)=1");
        Edge.due("house 0 9 0 0;house 0 0 0 0;house 0 9 0 0;tenant 0 0 0 0;life 10;likes 1;", "quarters(1)=1 tenant(0,4)=2 count(4)=5 beside(0)=0");
    }

    private static void oldest() {
        Edge.sentence("The HOUSE, not SEALED, whose DOG is buried soonest (of like ones the least), if only QUARTERS go by (what 0; NONE: none), in how many QUARTERS (1; NONE). NoSuchElementException: another what.");
        Edge.due(new DogLeases(), "oldest(0)=-1 oldest(1)=-1");
        Edge.due("house 0 0 0 0;life 1;", "oldest(0)=0 oldest(1)=1 quarters(1)=1 oldest(0)=-1 oldest(1)=-1");
        Edge.due("corner 0 0 0 0;life 99;", "oldest(0)=0 oldest(1)=198");
        Edge.due("house 0 5 0 0;house 0 7 0 0;house 0 7 0 5;corner 0 16 0 0;life 10;", "oldest(0)=1 oldest(1)=3 quarters(3)=3 oldest(0)=3 oldest(1)=1 count(4)=2");
        // A dog is buried though it has pups; then it is the pup's turn.
        Edge.due("house 0 9 0 5;house 0 8 0 0;life 10;", "oldest(0)=0 oldest(1)=1 quarters(1)=1 oldest(0)=1 oldest(1)=1 quarters(1)=2 oldest(0)=0 oldest(1)=9");
        // Older than old: all by the next quarter.
        Edge.due("house 0 9 0 0;house 0 60 0 0;life 10;", "oldest(0)=0 oldest(1)=1");
        Edge.due("house 0 8 0 0;house 0 60 0 0;house 0 9 0 0;life 10;", "oldest(0)=1 oldest(1)=1");
        for (String what : new String[] {"-1", "2", "MIN", "MAX"}) {
            Edge.unchanged(SOME, ACTS, "oldest(" + what + ")", "NoSuch", -1);
        }
        Edge.due(new DogLeases(), "oldest(2)=NoSuch oldest(-1)=NoSuch");
    }

    private static void envy() {
        Edge.sentence("ENVY of a TENANT: HOUSES that another one has, whose DOG's LIKING for that TENANT is more than for the one who has it (bits).");
        // Tenant 0 has all eight and 12 chops left: 12 are not more, 13 are.
        DogLeases x = Edge.of(EIGHT + "tenant 20 0 0 0;tenant 0 0 0 99;tenant 0 0 0 0;likes chops;");
        Edge.due(x, "buy(1,9)=9 envy(0)=0 envy(1)=0 quarters(1)=1 tenant(0,4)=255 tenant(0,0)=12 envy(1)=0 buy(1,3)=12 envy(1)=0 buy(1,1)=13 envy(1)=255 envy(0)=0 envy(2)=0");
        // Nobody's houses are none that another one has.
        Edge.due("house 0 0 0 0;house 0 0 0 0;tenant 9 0 0 0;tenant 0 0 0 99;likes chops;", "lead(1,true)=true quarters(1)=1 buy(1,9)=9 envy(1)=1 tenant(0,4)=1");
        // 'held' is the one's who has it.
        Edge.due("house 0 0 0 0;tenant 1 0 0 0;tenant 0 0 0 9;", "quarters(3)=3 buy(1,1)=1 liking(0,0)=3 liking(0,1)=3 envy(1)=0 buy(1,1)=2 envy(1)=1");
        Edge.due("house 0 0 0 0;tenant 0 0 0 0;butcher 0 0 0 0;likes quarter;", "quarters(1)=1 house(0,4)=1 envy(0)=0 envy(1)=0");
    }

    /** No question of these changes anything. */
    private static void questions() {
        Edge.sentence("(If only QUARTERS go by, from now on:)");
        Edge.asked(SOME, ACTS, "then(0,40)", "purse(0,40,0)", "purse(2,40,1)", "sealed(0)", "gets(0,0)", "gets(1,0)", "loses(0)", "most(40)", "row(0,0)", "empty(40)", "liking(0,0)",
            "leastChops(1,0)", "toWin(1,0)", "ruin(0)", "share(-1,1)", "share(0,8)", "beside(0)", "oldest(0)", "envy(0)", "count(5)", "house(0,7)", "tenant(0,4)", "fault()");
    }
}
