/** Boundary cases of a full terrace (its last house, its last tenant) and of an object that is used again for another text. */
public final class EdgeFullTest {
    private static final int HOUSES = 8;
    private static final int TENANTS = 7;
    /** Only house 7 is liked for, and only tenant 6 has chops: two quarters long. */
    private static final String LAST = "house 0 0 0 0;".repeat(7) + "house 50 0 0 0;" + "tenant 0 0 0 0;".repeat(6) + "tenant 2 0 1 6;likes (rent=50)*chops;";
    private static final String SIX = "tenant 0 0 0 0;".repeat(6);
    /** One house for seven tenants. */
    private static final String ONE = "house 9 0 0 0;" + "tenant 0 0 0 0;".repeat(6) + "tenant 2 0 0 50;likes chops;";
    private static final String FIVE = "tenant 0 0 0 0;".repeat(5);
    private static final String EIGHT = "house 0 0 0 0;".repeat(8);

    /** What is due of each house (rent, age, temper, pups) and of each tenant (chops, wage, cats, coins). */
    private static final int[][] HOUSE = new int[HOUSES][4];
    private static final int[][] TENANT = new int[TENANTS][4];

    public static void main(String[] args) {
        allNumbers();
        actsOnEach();
        lastAhead();
        lastNow();
        lastRules();
        lastChoices();
        noSuchOnes();
        lastPockets();
        soWithout();
        lastGames();
        aCatLess();
        ledAndDrawn();
        eightSeen();
        wordsByLetters();
        cutWithin();
        shorterRules();
        rulesBehindFaults();
        sharesAgain();
        looksAgain();
        Due.end();
    }

    private static String fullText() {
        StringBuilder text = new StringBuilder();
        for (int h = 0; h < HOUSES; h++) {
            HOUSE[h] = new int[] {90 + h, 50 + h, 9 - h, h % 6};
            text.append(h % 2 == 0 ? "house" : "corner");
            append(text, HOUSE[h]);
        }
        for (int t = 0; t < TENANTS; t++) {
            TENANT[t] = new int[] {3 + 2 * t, 9 - t, (t + 1) % 4, 100 * t + 27};
            text.append(t % 2 == 0 ? "butcher" : "tenant");
            append(text, TENANT[t]);
        }
        return text.append("life 99;").toString();
    }

    private static void append(StringBuilder text, int[] four) {
        for (int number : four) {
            text.append(' ').append(number);
        }
        text.append(';');
    }

    private static void dueNumbers(DogLeases x) {
        int coins = 0;
        for (int h = 0; h < HOUSES; h++) {
            for (int what = 0; what < 4; what++) {
                Edge.due(x, "house(" + h + "," + what + ")=" + HOUSE[h][what]);
            }
            Edge.due(x, "house(" + h + ",6)=" + h % 2);
        }
        for (int t = 0; t < TENANTS; t++) {
            for (int what = 0; what < 4; what++) {
                Edge.due(x, "tenant(" + t + "," + what + ")=" + TENANT[t][what]);
            }
            Edge.due(x, "tenant(" + t + ",5)=" + (1 - t % 2));
            coins += TENANT[t][3];
        }
        Edge.due(x, "count(7)=" + coins);
    }

    private static void allNumbers() {
        Edge.sentence("HOUSES 0, 1 .. (at most 8) in a row");
        DogLeases x = Edge.of(fullText());
        Edge.due(x, "count(0)=8 count(1)=7 count(2)=99");
        dueNumbers(x);
        // Each is nobody's, and asleep, being above 30; a full terrace has all its bits.
        Edge.due(x, "count(4)=0 count(5)=255 count(6)=0 house(7,4)=-1 house(7,5)=0 house(7,7)=1 tenant(6,4)=0");
        Edge.sentence("7 COINS of all");
        Edge.due(x, "lead(0,true)=true lead(7,true)=true count(6)=129 count(7)=2289");
    }

    /** An act on one changes that one alone, whichever it is. */
    private static void actsOnEach() {
        Edge.sentence("ACTS (at most 40 are kept, the latest ones)");
        for (int h = 0; h < HOUSES; h++) {
            DogLeases x = Edge.of(fullText());
            Edge.due(x, "temper(" + h + "," + h + ")=" + HOUSE[h][2]);
            HOUSE[h][2] = h;
            dueNumbers(x);
            Edge.due(x, "lead(" + h + ",true)=true count(6)=" + (1 << h) + " lead(" + h + ",true)=false");
            dueNumbers(x);
            Edge.due(x, "lead(" + h + ",false)=true count(6)=0");
        }
        for (int t = 0; t < TENANTS; t++) {
            DogLeases x = Edge.of(fullText());
            Edge.due(x, "cats(" + t + ",3)=" + TENANT[t][2]);
            TENANT[t][2] = 3;
            dueNumbers(x);
            TENANT[t][0] = Math.min(20, TENANT[t][0] + 9);
            TENANT[t][3] -= 27;
            Edge.due(x, "buy(" + t + ",9)=" + TENANT[t][0]);
            dueNumbers(x);
        }
    }

    private static void lastAhead() {
        Edge.sentence("THEN: who has a HOUSE behind so many QUARTERS (0 to 40); none.");
        Edge.due(LAST, "then(7,0)=-1 then(7,1)=6 then(7,2)=6 then(7,3)=-1 then(6,1)=-1");
        Edge.sentence("COINS (what 0), CHOPS (1) of a TENANT then.");
        Edge.due(LAST, "purse(6,0,0)=6 purse(6,1,0)=56 purse(6,3,0)=106 purse(6,1,1)=1 purse(6,2,1)=0 purse(5,3,0)=0 purse(5,3,1)=0");
        Edge.sentence("GETS: behind how many QUARTERS (0 to 40) a TENANT first has a HOUSE (0: now); none.");
        Edge.due(LAST, "gets(6,7)=1 gets(5,7)=-1 gets(6,6)=-1 gets(0,7)=-1 quarters(1)=1 gets(6,7)=0");
        Edge.sentence("LOSES: behind how many QUARTERS (1 to 40) a HOUSE that somebody has isn't that one's any more first; none.");
        Edge.due(LAST, "loses(7)=-1 quarters(1)=1 loses(7)=2 loses(6)=-1 quarters(1)=2 loses(7)=1 quarters(1)=3 loses(7)=-1");
        Edge.sentence("MOST: the TENANT with most HOUSES behind so many QUARTERS (0 to 40; of like ones the least); none, if nobody has any.");
        Edge.due(LAST, "most(0)=-1 most(1)=6 most(2)=6 most(3)=-1");
        Edge.due(ONE, "most(0)=-1 most(1)=6 then(0,1)=6 purse(6,1,0)=59 gets(6,0)=1");
        Edge.sentence("EMPTY behind so many QUARTERS (0 to 40): HOUSES that are nobody's, as bits.");
        Edge.due(LAST, "empty(0)=255 empty(1)=127 empty(2)=127 empty(3)=255");
        Edge.sentence("SEALED: behind how many QUARTERS (0 to 99) a HOUSE is; none.");
        Edge.due("house 0 0 0 0;".repeat(7) + "corner 0 9 0 1;life 30;", "sealed(0)=30 sealed(6)=30 sealed(7)=-1");
        Edge.due("house 0 0 0 0;".repeat(7) + "corner 0 22 0 1;life 30;", "sealed(7)=98 oldest(0)=0 oldest(1)=30 quarters(1)=1 sealed(7)=97");
        Edge.sentence("The HOUSE, not SEALED, whose DOG is buried soonest (of like ones the least)");
        Edge.due("house 0 0 0 0;".repeat(7) + "corner 0 31 0 1;life 30;", "oldest(0)=7 oldest(1)=29");
    }

    private static void lastNow() {
        Edge.sentence("A ROW of a TENANT: the most HOUSES side by side that one has now: how many; the first of these (of like ones the least); none.");
        Edge.due(LAST, "quarters(1)=1 row(6,0)=1 row(6,1)=7 row(5,0)=0 row(5,1)=-1");
        Edge.sentence("HOUSES that aren't SEALED, nor a TENANT's, but next to one that is the TENANT's, as bits.");
        Edge.due(LAST, "quarters(1)=1 house(7,4)=6 house(7,5)=1 tenant(6,4)=128 beside(6)=64 beside(5)=0 count(5)=127");
        Edge.sentence("ENVY of a TENANT: HOUSES that another one has, whose DOG's LIKING for that TENANT is more than for the one who has it (bits).");
        // Tenant 5 has a chop left: one is as much, two are more.
        String envious = "house 0 0 0 0;".repeat(7) + "house 50 0 0 0;" + FIVE + "tenant 2 0 0 0;tenant 0 0 0 99;likes (rent=50)*chops;";
        Edge.due(envious, "quarters(1)=1 house(7,4)=5 buy(6,1)=1 envy(6)=0 buy(6,1)=2 envy(6)=128 envy(5)=0 envy(0)=0");
        Edge.sentence("LIKING of a HOUSE's DOG for a TENANT: what it would be told just now (a butcher's 2 too; AGE as it is); of one SEALED 0.");
        Edge.due(LAST, "liking(7,6)=2 liking(7,5)=0 liking(6,6)=0");
        // Without a rule: by the temper of this house, the chops and cats of this tenant.
        String tempers = "house 0 0 1 0;".repeat(7) + "house 0 0 9 0;" + "tenant 1 0 2 0;".repeat(6) + "butcher 20 0 3 0;";
        Edge.due(tempers, "liking(7,6)=35 liking(6,6)=59 liking(7,5)=-15 liking(6,5)=1 liking(0,0)=1");
        // House 7 is sealed, the others are not.
        Edge.due("house 0 0 0 0;".repeat(7) + "house 0 9 0 0;" + SIX + "tenant 0 0 0 0;life 10;likes 1;",
            "quarters(1)=1 count(4)=128 liking(7,6)=0 liking(6,6)=1 sealed(7)=0 lead(7,true)=false temper(7,1)=-1 house(7,7)=0 tenant(0,4)=127 beside(0)=0");
    }

    private static void lastRules() {
        Edge.sentence("'houses' (how many the TENANT has had since the last QUARTER DAY)");
        DogLeases x = Edge.of(EIGHT + SIX + "tenant 0 0 0 6;likes (coins=6)+houses*10+beside*100;");
        Edge.due(x, "liking(7,6)=1 quarters(1)=1 tenant(6,4)=255 liking(0,6)=181 liking(3,6)=281 liking(7,6)=181 liking(7,5)=0 liking(0,0)=0");
        Edge.due(x, "lead(7,true)=true lead(3,true)=true quarters(1)=2 liking(7,6)=161 liking(6,6)=161 liking(3,6)=261 liking(2,6)=161");
        Edge.sentence("'held' (how many QUARTERS one after another, up to now, the TENANT has had that HOUSE)");
        DogLeases held = Edge.of(EIGHT + SIX + "tenant 0 0 0 6;likes (coins=6)+held*10;");
        Edge.due(held, "quarters(3)=3 liking(7,6)=31 liking(7,0)=0 house(7,5)=3 lead(6,true)=true quarters(1)=4 liking(7,6)=41 liking(6,6)=1 house(6,5)=0");
        Edge.sentence("another one sits by the TENANT whom it LIKES most (of like ones the least)");
        // Another tenant for each house: its rent tells which.
        StringBuilder text = new StringBuilder();
        for (int h = 0; h < HOUSES; h++) {
            text.append("house ").append(h).append(" 0 0 0;");
        }
        for (int t = 0; t < TENANTS; t++) {
            text.append("tenant 0 ").append(t).append(" 0 ").append(t).append(';');
        }
        DogLeases each = Edge.of(text + "likes coins=rent;");
        Edge.due(each, "quarters(1)=1 count(5)=128 house(7,4)=-1");
        for (int t = 0; t < TENANTS; t++) {
            Edge.due(each, "house(" + t + ",4)=" + t + " tenant(" + t + ",4)=" + (1 << t) + " tenant(" + t + ",3)=" + 2 * t + " tenant(" + t + ",0)=" + t);
        }
    }

    private static void lastChoices() {
        Edge.sentence("THE LEAST CHOPS: how many a TENANT must have now (0 to 20, in place of what there are), so as to have a HOUSE behind the next QUARTER: the least; none.");
        // As many as tenant 6 has are enough for those ahead of that one.
        Edge.due(LAST, "leastChops(6,7)=1 leastChops(5,7)=2 leastChops(0,7)=2 leastChops(6,6)=-1 leastChops(6,0)=-1");
        Edge.due(EIGHT + FIVE + "tenant 2 0 0 0;tenant 0 0 0 0;likes chops;", "leastChops(6,0)=3 leastChops(6,1)=2");
        Edge.sentence("TO WIN: how many HOUSES at most a TENANT has behind the next QUARTER, by as many CHOPS as one chooses now (0 to 20): the least number of these.");
        Edge.due(LAST, "toWin(6,0)=1 toWin(6,1)=1 toWin(5,0)=1 toWin(5,1)=2 toWin(0,1)=2");
        Edge.sentence("RUIN of a TENANT: another one by whom, if that other one had no CATS from now on, this one would have fewest HOUSES behind the next QUARTER, if these are fewer than without that (of like ones the least); none.");
        // 6 against 9 less 5, and against 9.
        Edge.due("house 9 0 5 0;" + FIVE + "tenant 3 0 1 0;tenant 2 0 0 0;", "then(0,1)=6 ruin(6)=5 ruin(5)=-1 ruin(0)=-1");
        Edge.due("house 9 0 5 0;" + FIVE + "tenant 2 0 0 0;tenant 3 0 1 0;", "then(0,1)=5 ruin(5)=6 ruin(6)=-1");
        // No one's cats matter here, one's own neither.
        Edge.due("house 9 0 0 0;tenant 0 0 0 5;" + "tenant 0 0 1 1;".repeat(6) + "likes coins;", "then(0,1)=0 ruin(0)=-1");
        Edge.due("house 9 0 0 0;tenant 1 0 1 0;tenant 5 0 0 0;likes chops+cats*10;", "then(0,1)=0 ruin(0)=-1 cats(0,0)=1 then(0,1)=1");
        Edge.sentence("of all ways in which HOUSES that aren't SEALED go to TENANTS for whom LIKING is above 0, or to nobody");
        Edge.due(LAST, "share(-1,1)=2 share(7,1)=6 share(6,1)=-1 share(0,8)=-1 share(-1,8)=2");
        // Those ahead, for whom it is nothing, or below, have none.
        Edge.due("house 0 0 0 0;tenant 0 0 0 0;tenant 5 0 0 0;likes chops;", "share(-1,1)=5 share(0,1)=1");
        Edge.due("house 0 0 0 0;house 0 0 0 0;tenant 1 0 0 0;tenant 7 0 0 0;tenant 3 0 0 0;likes chops-2;", "share(-1,2)=10 share(0,2)=1 share(1,2)=1 share(-1,1)=6 share(0,1)=1 share(1,1)=2");
    }

    /** More houses than tenants, and fewer: what is one of these is none of those. */
    private static void noSuchOnes() {
        Edge.sentence("NoSuchElementException: no such TENANT (as everywhere), what.");
        for (String call : new String[] {"tenant(7,0)", "buy(7,1)", "cats(7,1)", "purse(7,1,0)", "gets(7,7)", "row(7,0)", "liking(7,7)", "leastChops(7,7)", "toWin(7,0)", "ruin(7)", "beside(7)", "envy(7)",
            "see(7,7,1,true)", "game(7,0,0)", "game(0,7,0)", "game(7,7,0)"}) {
            Edge.unchanged(LAST, "quarters(1) image() buy(6,1) ", call, "NoSuch", -1);
        }
        Edge.sentence("NoSuchElementException: no such HOUSE (as everywhere), what.");
        for (String call : new String[] {"house(1,0)", "house(6,7)", "lead(1,true)", "lead(6,true)", "temper(1,1)", "then(1,1)", "then(6,1)", "sealed(1)", "gets(0,1)", "gets(6,6)", "loses(1)", "liking(1,0)",
            "liking(6,6)", "leastChops(0,1)", "leastChops(6,6)", "share(1,1)", "share(6,1)", "see(0,1,1,true)", "see(6,6,1,true)"}) {
            Edge.unchanged(ONE, "quarters(1) image() buy(6,1) ", call, "NoSuch", -1);
        }
        // The last of the one, and of the other, are there.
        Edge.due(ONE, "house(0,0)=9 tenant(6,0)=2 row(6,0)=0 beside(6)=0 envy(6)=0 ruin(6)=-1 toWin(6,0)=1 cats(6,1)=0 buy(6,1)=3 see(6,0,1,true)=1 game(6,5,0)=0 liking(0,6)=3 leastChops(6,0)=1 share(0,1)=6");
        Edge.due(LAST, "house(7,0)=50 lead(7,true)=true temper(7,1)=0 sealed(7)=40 loses(7)=-1 see(6,7,1,true)=1 share(7,8)=6");
    }

    /** Whether it is so without: as chops are, and as houses are held, be it the last one. */
    private static void soWithout() {
        Edge.sentence("whether it is so without (1)");
        Edge.due("house 0 0 0 0;tenant 5 0 0 0;likes chops;", "see(0,0,1,true)=1 pockets(2)=1 see(0,0,5,true)=2 pockets(2)=1 see(0,0,6,true)=3 pockets(2)=0");
        Edge.due("house 0 0 0 0;tenant 5 0 0 0;likes chops;", "see(0,0,1,false)=1 pockets(2)=0");
        Edge.due(EIGHT + "tenant 0 0 0 0;likes (quarter=0)+held;", "quarters(1)=1 see(0,7,1,true)=1 see(0,0,1,true)=2 see(0,7,12,true)=3 pockets(2)=1 pockets(0)=20");
        Edge.due(LAST, "see(6,7,1,true)=1 pockets(2)=1 see(6,7,2,true)=2 pockets(2)=1 see(6,7,3,false)=3 pockets(2)=1 see(6,7,4,true)=4 pockets(2)=0");
    }

    private static void lastPockets() {
        Edge.sentence("POCKETS: TENANTS and CHOPS (0 to 20, another number than there are) by one of which now all SEEN would be so: how many; the first (100 by the TENANT, and CHOPS); whether it is so without (1).");
        // Lost by the second quarter: by 0 or 1 of its own (2), by 1 or 3 to 20 of each of the six others, ahead of whom it has none of like ones.
        Edge.due(LAST, "see(6,7,2,false)=1 pockets(0)=116 pockets(1)=1 pockets(2)=0 look(0)=7 look(1)=8");
        // And had by the first: by 1 of anyone.
        Edge.due(LAST, "see(6,7,2,false)=1 see(6,7,1,true)=2 pockets(0)=7 pockets(1)=1 look(0)=0 look(1)=1");
        // Had by the twelfth: by 12 to 20 of its own; by 10 or 12 of each other one, who has it until 1 is left, and then they take turns.
        Edge.due(LAST, "see(6,7,12,true)=1 pockets(0)=21 pockets(1)=10 pockets(2)=0 look(0)=7 look(1)=7");
        Edge.due(LAST, "see(5,7,12,true)=1 see(6,7,1,true)=2 pockets(0)=0 pockets(1)=-1");
        Edge.sentence("(0 to 20, another number than there are)");
        // Each of seven has another number: by that one nothing is otherwise.
        String seven = "house 9 0 0 0;tenant 0 0 0 0;tenant 1 0 0 0;tenant 2 0 0 0;tenant 3 0 0 0;tenant 4 0 0 0;tenant 5 0 0 0;tenant 6 0 0 0;likes chops;";
        // Tenant 6 has it by 7 to 20 of its own, and by 0 to 5 of each one ahead, of which that one's own number is none.
        Edge.due(seven, "pockets(0)=140 pockets(1)=1 see(6,0,1,true)=1 pockets(0)=44 pockets(1)=1 pockets(2)=1 look(0)=0 look(1)=1");
        Edge.due(seven, "see(6,0,1,false)=1 pockets(0)=96 pockets(1)=6 pockets(2)=0 look(0)=0 look(1)=6");
    }

    private static void lastGames() {
        Edge.sentence("A couple RESTS, if neither gains more by the other choice: how many; the first (10 by the first one's, and the other one's).");
        String own = "house 7 0 1 0;house 5 0 2 0;" + FIVE + "tenant 0 0 0 1;tenant 0 0 0 2;likes (coins=temper)*(2<chops);";
        Edge.due(own, "game(5,6,0)=1 game(5,6,1)=1 game(6,5,0)=1 game(6,5,1)=10 game(0,6,1)=11 game(6,0,1)=11 game(5,0,1)=1 game(0,5,1)=10");
        Edge.sentence("each has 3 CHOPS more now (20 at most)");
        // Tenant 6 has 4, and then 7; of 17 and of 19 come 20.
        Edge.due("house 10 0 0 0;" + SIX + "tenant 4 0 0 0;likes chops=7;", "game(6,0,1)=1 game(0,6,1)=10");
        Edge.due("house 10 0 0 0;" + SIX + "tenant 3 0 0 0;likes chops=7;", "game(6,0,1)=11 game(0,6,1)=11");
        Edge.due("house 10 0 0 0;" + SIX + "tenant 19 0 0 0;likes chops=20;", "game(6,0,1)=1 game(0,6,1)=10");
    }

    /** Rent 10 is for 3 chops, rent 20 for one cat, which tenant A has by the second choice alone. */
    private static void aCatLess() {
        Edge.sentence("or a CAT less (none below 0) (0, 1)");
        String rule = "likes (temper=1)*(2<chops)+(temper=2)*(cats=1);";
        String houses = "house 10 0 1 0;house 20 0 2 0;";
        Edge.due(houses + "tenant 0 0 2 0;tenant 0 0 0 0;" + rule, "game(0,1,0)=1 game(0,1,1)=10 game(1,0,0)=1 game(1,0,1)=1");
        Edge.due(houses + FIVE + "tenant 0 0 2 0;tenant 0 0 0 0;" + rule, "game(5,6,0)=1 game(5,6,1)=10 game(6,5,1)=1");
        Edge.due(houses + FIVE + "tenant 0 0 0 0;tenant 0 0 2 0;" + rule, "game(5,6,0)=1 game(5,6,1)=1 game(6,5,1)=10");
        // Of three cats two are left, and of one none: rent 20 is had by neither choice, by chops rent 10.
        Edge.due(houses + "tenant 0 0 3 0;tenant 0 0 0 0;" + rule, "game(0,1,0)=1 game(0,1,1)=1");
        // By one cat rent 20 is had with the chops, and lost with the cat.
        Edge.due(houses + "tenant 0 0 1 0;tenant 0 0 0 0;" + rule, "game(0,1,0)=1 game(0,1,1)=1");
        // By chops a cat is not less.
        Edge.due(houses + "tenant 0 0 2 0;tenant 0 0 0 0;likes (temper=1)*(2<chops)*(cats=1);", "game(0,1,0)=1 game(0,1,1)=11");
    }

    private static void ledAndDrawn() {
        Edge.sentence("ahead of each a DRAW of HOUSES is LED (if not SEALED)");
        String rents = "house 1 0 0 0;house 2 0 0 0;house 4 0 0 0;house 8 0 0 0;house 16 0 0 0;house 32 0 0 0;house 64 0 0 0;house 99 0 0 0;tenant 0 0 0 0;likes 1;";
        // By seed 0 the first is 12345, of which bits 16 to 30 are 0: house 0. What is led already is so too.
        Edge.due(rents, "years(0,1,0)=7 years(0,1,2)=225 lead(5,true)=true years(0,1,0)=6 years(0,1,2)=193 lead(0,true)=true years(0,1,2)=193 count(6)=33");
        // House 1, next to it, is sealed: house 0 is led all the same, and lost by that.
        Edge.due("house 1 0 0 0;house 2 9 0 0;house 4 0 0 0;tenant 0 0 0 0;life 10;likes 1;", "quarters(1)=1 count(4)=2 tenant(0,4)=5 years(0,1,0)=1 years(0,1,1)=1 years(0,1,2)=9");
        // House 0 itself is sealed: nobody loses anything.
        Edge.due("house 1 9 0 0;house 2 0 0 0;house 4 0 0 0;tenant 0 0 0 0;life 10;likes 1;", "quarters(1)=1 count(4)=1 tenant(0,4)=6 years(0,1,0)=0 years(0,1,2)=12");
    }

    private static void eightSeen() {
        Edge.sentence("AN IMAGE keeps all that QUARTERS and ACTS change, ACTS that are kept, what is SEEN, STATUS.");
        DogLeases x = Edge.of("house 0 0 0 0;tenant 0 0 0 0;likes chops;");
        for (int i = 1; i <= 7; i++) {
            Edge.due(x, "see(0,0," + i + ",true)=" + i);
        }
        Edge.due(x, "see(0,0,8,false)=8 pockets(0)=1 pockets(1)=7 image()=- forget()=- pockets(0)=20");
        for (int i = 1; i <= 8; i++) {
            Edge.due(x, "see(0,0," + (i + 4) + ",true)=" + i);
        }
        Edge.due(x, "pockets(0)=9 pockets(1)=12 restore()=true count(9)=8 pockets(0)=1 pockets(1)=7 see(0,0,1,true)=-1 count(13)=1 restore()=true count(13)=0");
    }

    /** A word is another one as soon as one letter is, whichever. */
    private static void wordsByLetters() {
        Edge.sentence("In quotes is what stands there");
        for (String line : new String[] {"house 1 2 3 4;", "corner 1 2 3 4;", "tenant 1 2 3 4;", "butcher 1 2 3 4;", "life 5;", "likes 1;", "sleeps 1;"}) {
            for (int at = 0; line.charAt(at) != ' '; at++) {
                Edge.fault(line.substring(0, at) + "x" + line.substring(at + 1), 1, 0);
                Edge.fault(line.substring(0, at) + line.substring(at + 1), 1, 0);
            }
            Edge.fine(line);
        }
        for (String word : new String[] {"age", "temper", "quarter", "rent", "chops", "cats", "coins", "held", "houses", "beside", "not"}) {
            String rest = word.equals("not") ? " 1;" : ";";
            for (int at = 0; at < word.length(); at++) {
                Edge.fault("likes " + word.substring(0, at) + "x" + word.substring(at + 1) + rest, 3, 6);
                Edge.fault("likes " + word.substring(0, at) + word.substring(at + 1) + rest, 3, 6);
            }
            Edge.fine("likes " + word + rest);
        }
        for (String word : new String[] {"or", "and"}) {
            for (int at = 0; at < word.length(); at++) {
                Edge.fault("likes 1 " + word.substring(0, at) + "x" + word.substring(at + 1) + " 1;", 1, 8);
            }
            Edge.fine("likes 1 " + word + " 1;");
        }
    }

    /** What stands behind the first n bytes is no part of the text, be it in the tape or from an earlier text. */
    private static void cutWithin() {
        Edge.sentence("The tape's first n bytes (it is empty then) are a TERRACE");
        DogLeases x = new DogLeases();
        Due.feed(x, "life 55;");
        Edge.due(x, "terrace(3)=1 fault()=0");
        Due.feed(x, "life 55;");
        Edge.due(x, "terrace(6)=1 fault()=6");
        Due.feed(x, "likes 12345;");
        Edge.due(x, "terrace(10)=1 fault()=10");
        Due.feed(x, "likes age;");
        Edge.due(x, "terrace(8)=3 fault()=6");
        Due.feed(x, "likes chops;houses");
        Edge.due(x, "terrace(17)=1 fault()=17");
        Due.feed(x, "              likes chops;life 5;life 6;");
        Edge.due(x, "count(10)=40 terrace(26)=0 count(10)=0");
        // Twenty bytes that end within a word, and of the text before it more stands behind them.
        Due.feed(x, " ".repeat(20) + "likes coins;");
        Edge.due(x, "terrace(0)=0");
        Due.feed(x, "              likes ");
        Edge.due(x, "count(10)=20 terrace(20)=1 fault()=20");
        Due.feed(x, " ".repeat(20) + "77;");
        Edge.due(x, "terrace(0)=0");
        Due.feed(x, "             life 12");
        Edge.due(x, "count(10)=20 terrace(20)=1 fault()=20 terrace(1)=Illegal");
    }

    private static void again(DogLeases x, String text, int want) {
        Due.same("again " + text, want, () -> Due.tell(x, text));
    }

    /** Of a rule that was longer nothing is left. */
    private static void shorterRules() {
        Edge.sentence("are a TERRACE, all anew");
        DogLeases x = Edge.of("house 9 0 0 0;tenant 3 0 0 0;likes not 1;sleeps not 1;");
        Edge.due(x, "liking(0,0)=0 house(0,7)=0");
        again(x, "house 9 0 0 0;tenant 3 0 0 0;likes 7;sleeps 1;", 0);
        Edge.due(x, "liking(0,0)=7 house(0,7)=1");
        again(x, "house 9 0 0 0;tenant 3 0 0 0;likes chops*(held+2)-(not (1 and 0));sleeps not (age<1 or age=2);", 0);
        Edge.due(x, "liking(0,0)=5 house(0,7)=0");
        again(x, "house 9 0 0 0;tenant 3 0 0 0;likes chops;sleeps age;", 0);
        Edge.due(x, "liking(0,0)=3 house(0,7)=0");
        again(x, "house 9 0 0 0;tenant 3 0 0 0;", 0);
        Edge.due(x, "liking(0,0)=9 house(0,7)=0");
        // Of a terrace that was longer neither.
        again(x, fullText(), 0);
        dueNumbers(x);
        again(x, "house 9 0 0 0;tenant 3 0 0 0;", 0);
        Edge.due(x, "count(0)=1 count(1)=1 count(5)=1 count(7)=0 house(1,0)=NoSuch tenant(1,0)=NoSuch house(0,6)=0 tenant(0,5)=0 quarters(1)=1 count(5)=0 count(7)=9");
    }

    /** Where a rule is cut off, be it within parentheses or behind a 'not', the next one begins anew. */
    private static void rulesBehindFaults() {
        Edge.sentence("or the FAULT (all stays, but STATUS)");
        String good = "house 9 0 0 0;tenant 3 0 0 0;likes ";
        DogLeases x = new DogLeases();
        again(x, "likes not", 1);
        again(x, good + "5;", 0);
        Edge.due(x, "liking(0,0)=5");
        again(x, "likes not not not not", 1);
        again(x, good + "not not not not not not 5;", 0);
        Edge.due(x, "liking(0,0)=1");
        again(x, "likes ((1+", 1);
        again(x, good + "(((((7)))));", 0);
        Edge.due(x, "liking(0,0)=7");
        again(x, "likes 1+(2*", 1);
        again(x, good + "3+4;", 0);
        Edge.due(x, "liking(0,0)=7");
        again(x, "likes 1<", 1);
        again(x, good + "1<2;", 0);
        Edge.due(x, "liking(0,0)=1");
        again(x, "likes 1<2 bone", 1);
        again(x, good + "2=2;", 0);
        Edge.due(x, "liking(0,0)=1");
        again(x, "sleeps chops", 3);
        again(x, good + "chops;", 0);
        Edge.due(x, "liking(0,0)=3 count(11)=7");
    }

    private static void sharesAgain() {
        Edge.sentence("that with most LIKING, all together: how much; who has a HOUSE");
        // The first one's best part may be the first house alone, or the first and the last: by chops 1 that one likes by rents, by chops 2 the other one by 9 less these.
        String rents = "house 7 0 0 0;house 2 0 0 0;house 8 0 0 0;tenant 1 0 0 0;tenant 2 0 0 0;likes (chops=1)*rent+(chops=2)*(9-rent);";
        Edge.due(rents, "share(-1,8)=22 share(0,8)=0 share(1,8)=1 share(2,8)=0 share(-1,2)=22 share(-1,1)=15 share(0,1)=-1 share(1,1)=1 share(2,1)=0");
        Edge.due("house 7 0 0 0;house 2 0 0 0;tenant 1 0 0 0;tenant 2 0 0 0;likes (chops=1)*rent+(chops=2)*(9-rent);", "share(-1,1)=14 share(0,1)=0 share(1,1)=1 share(-1,2)=14 share(0,2)=0 share(1,2)=1");
        DogLeases x = Edge.of(EIGHT + "tenant 0 0 0 0;".repeat(7) + "likes 9;");
        Edge.due(x, "share(-1,1)=63 share(-1,8)=72");
        again(x, EIGHT + "tenant 0 0 0 0;tenant 0 0 0 0;likes 1;", 0);
        Edge.due(x, "share(-1,1)=2 share(0,1)=0 share(1,1)=1 share(2,1)=-1 share(-1,8)=8 share(0,8)=1 share(-1,3)=6");
        again(x, "house 0 0 0 0;tenant 0 0 0 0;likes 4;", 0);
        Edge.due(x, "share(-1,1)=4 share(0,1)=0");
        again(x, EIGHT, 0);
        Edge.due(x, "share(-1,8)=0 share(0,8)=-1 share(7,8)=-1");
        again(x, "", 0);
        Edge.due(x, "share(-1,8)=0 share(0,8)=NoSuch");
    }

    /** What was unlike by what is not so any more counts no longer. */
    private static void looksAgain() {
        Edge.sentence("would by these be most unlike");
        Edge.due("house 0 0 0 0;house 0 0 0 0;tenant 5 0 0 0;likes chops;", "look(0)=0 look(1)=2 see(0,0,1,true)=1 look(0)=1 look(1)=2 see(0,1,1,true)=2 look(0)=0 look(1)=1 forget()=- look(0)=0 look(1)=2");
        DogLeases x = Edge.of(EIGHT + SIX + "tenant 0 0 0 0;likes chops;");
        Edge.due(x, "look(0)=1 look(1)=8");
        again(x, "house 0 0 0 0;tenant 0 0 0 0;likes 1;", 0);
        Edge.due(x, "look(0)=0 look(1)=1");
    }
}
