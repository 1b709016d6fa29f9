/** Each sentence of the document on what was seen, the game, years and images (==== 4, promises 30 to 37) that names a boundary case. */
public final class EdgeSeenTest {
    /** Three houses, of which the second is sealed by the first quarter; three tenants; acts, what is seen, an image, acts behind it, a tape. */
    private static final String SOME = "house 10 5 2 1;house 20 30 5 0;corner 30 2 0 1;tenant 4 1 1 40;butcher 2 0 0 9;tenant 1 2 3 99;life 31;";
    private static final String FED = "feed(1818846821,540292411,538976288,538976288,538976288) ";
    private static final String ACTS = "quarters(1) buy(0,2) cats(2,1) see(0,0,1,true) see(1,2,12,false) quarters(40) image() lead(2,true)"
        + " temper(0,7) quarters(2) lead(0,true) " + FED;
    /** A tenant with so many chops has the house for so many quarters. */
    private static final String LASTS = "house 0 0 0 0;tenant 0 0 0 0;likes chops;";

    public static void main(String[] args) {
        see();
        pockets();
        look();
        forget();
        game();
        gameLimits();
        years();
        draws();
        nothingDrawn();
        image();
        restore();
        manyCalls();
        questions();
        Due.end();
    }

    private static void see() {
        Edge.sentence("SEEN (at most 8): that a TENANT has a HOUSE, or hasn't, behind so many QUARTERS (1 to 12).");
        DogLeases x = Edge.of(LASTS);
        for (int i = 1; i <= 8; i++) {
            Edge.due(x, "see(0,0," + i + ",true)=" + i + " count(9)=" + i);
        }
        Edge.due(x, "see(0,0,1,true)=-1 count(9)=8 count(13)=1 pockets(0)=13 pockets(1)=8 forget()=- see(0,0,12,true)=1 pockets(0)=9 pockets(1)=12");
        Edge.due(LASTS, "see(0,0,1,true)=1 pockets(0)=20 pockets(1)=1 pockets(2)=0");
        Edge.due(LASTS, "see(0,0,1,false)=1 pockets(0)=0 pockets(1)=-1 pockets(2)=1");
        Edge.due(LASTS, "see(0,0,12,true)=1 pockets(0)=9 pockets(1)=12 pockets(2)=0");
        Edge.due(LASTS, "see(0,0,12,false)=1 pockets(0)=11 pockets(1)=1 pockets(2)=1");
        Edge.due(LASTS, "see(0,0,11,true)=1 see(0,0,12,false)=2 pockets(0)=1 pockets(1)=11 pockets(2)=0");
        Edge.sentence("SEEN: how much is. NONE (STATUS 2): there are 8, not 1 to 12. NoSuchElementException (ahead): no such TENANT, HOUSE.");
        for (String quarters : new String[] {"0", "13", "-1", "MIN", "MAX"}) {
            Edge.unchanged(SOME, ACTS, "see(0,0," + quarters + ",true)", "-1", 2);
            Edge.unchanged(SOME, ACTS, "see(3,0," + quarters + ",true)", "NoSuch", -1);
            Edge.unchanged(SOME, ACTS, "see(0,3," + quarters + ",false)", "NoSuch", -1);
        }
        String full = ACTS + "see(2,2,3,false) ".repeat(6);
        Edge.unchanged(SOME, full, "see(0,0,1,true)", "-1", 2);
        Edge.unchanged(SOME, full, "see(0,0,1,false)", "-1", 2);
        Edge.unchanged(SOME, full, "see(0,0,13,false)", "-1", 2);
        Edge.unchanged(SOME, full, "see(3,0,1,false)", "NoSuch", -1);
        Edge.unchanged(SOME, full, "see(0,-1,1,false)", "NoSuch", -1);
        Edge.unchanged(SOME, full, "see(-1,3,0,false)", "NoSuch", -1);
        // What is seen is no act.
        Edge.due(SOME, "see(0,1,1,true)=1 count(8)=0 undo()=-1 count(9)=1 quarters(1)=1 undo()=0 count(9)=1");
    }

    private static void pockets() {
        Edge.sentence("POCKETS: TENANTS and CHOPS (0 to 20, another number than there are) by one of which now all SEEN would be so: how many; the first (100 by the TENANT, and CHOPS); whether it is so without (1).");
        Edge.due("tenant 0 0 0 0;", "pockets(0)=20 pockets(1)=1 pockets(2)=1");
        Edge.due("tenant 1 0 0 0;", "pockets(0)=20 pockets(1)=0 pockets(2)=1");
        Edge.due("tenant 20 0 0 0;".repeat(7), "pockets(0)=140 pockets(1)=0 pockets(2)=1");
        Edge.due("house 0 0 0 0;", "pockets(0)=0 pockets(1)=-1 pockets(2)=1");
        String seven = "house 0 0 0 0;" + "tenant 0 0 0 0;".repeat(6);
        Edge.due(seven + "tenant 0 0 0 0;likes chops=20;", "see(6,0,1,true)=1 pockets(0)=1 pockets(1)=620 pockets(2)=0");
        Edge.due(seven + "tenant 20 0 0 0;likes chops=20;", "see(6,0,1,true)=1 pockets(0)=114 pockets(1)=1 pockets(2)=1");
        // The one who has it must have none: 0 is a number too.
        Edge.due("house 0 0 0 0;tenant 9 0 0 0;tenant 20 0 0 0;likes chops;", "see(0,0,1,false)=1 see(1,0,1,false)=2 pockets(0)=0 pockets(1)=-1 pockets(2)=0");
        Edge.due("house 0 0 0 0;tenant 0 0 0 0;tenant 20 0 0 0;likes chops;", "see(0,0,1,false)=1 see(1,0,1,false)=2 pockets(0)=1 pockets(1)=100 pockets(2)=0");
        Edge.due(LASTS, "see(0,0,1,true)=1 see(0,0,1,false)=2 pockets(0)=0 pockets(1)=-1 pockets(2)=0 tenant(0,0)=0");
        // All of eight count, the last one too.
        DogLeases eight = Edge.of(LASTS);
        for (int i = 1; i <= 7; i++) {
            eight.see(0, 0, i, true);
        }
        Edge.due(eight, "pockets(0)=14 see(0,0,8,false)=8 pockets(0)=1 pockets(1)=7");
        Edge.sentence("POCKETS: how many (what 0), the first (1; NONE: none), whether without (2). NoSuchElementException: another what.");
        for (String what : new String[] {"-1", "3", "MIN", "MAX"}) {
            Edge.unchanged(SOME, ACTS, "pockets(" + what + ")", "NoSuch", -1);
        }
        Edge.due(new DogLeases(), "pockets(0)=0 pockets(1)=-1 pockets(2)=1 pockets(3)=NoSuch pockets(-1)=NoSuch");
    }

    private static void look() {
        Edge.sentence("LOOK NEXT: the HOUSE behind the next QUARTER of which whose it is would by these be most unlike (nobody is one; of like ones the least HOUSE): how many unlike ones; none without any.");
        // House 0 is each of seven tenants', house 1 nobody's too, by 1 chop.
        Edge.due("house 0 0 0 0;house 0 0 0 0;" + "tenant 0 0 0 0;".repeat(7) + "likes chops;", "look(0)=1 look(1)=8");
        // By 0 both are nobody's: like ones.
        Edge.due("house 0 0 0 0;house 0 0 0 0;tenant 5 0 0 0;likes chops;", "look(0)=0 look(1)=2");
        Edge.due("house 0 0 0 0;house 0 0 0 0;tenant 0 0 0 0;likes chops;", "look(0)=1 look(1)=2");
        Edge.due("house 0 0 0 0;".repeat(8) + "tenant 0 0 0 0;likes 7<chops;", "look(0)=0 look(1)=2");
        // Only by 19 and 20 the last one is had.
        Edge.due("house 0 0 0 0;".repeat(8) + "tenant 0 0 0 0;likes 12<chops;", "see(0,6,1,true)=1 pockets(0)=2 look(0)=7 look(1)=2");
        // All agree: one each, and the least house.
        Edge.due("house 0 0 0 0;house 0 0 0 0;tenant 0 0 0 0;likes 1;", "look(0)=0 look(1)=1");
        Edge.due("house 0 9 0 0;house 0 0 0 0;tenant 5 0 0 0;life 10;likes chops;", "look(0)=1 look(1)=2 quarters(1)=1 look(0)=1 look(1)=2");
        // Without pockets none, though it is so without.
        Edge.due(LASTS, "see(0,0,1,false)=1 pockets(2)=1 look(0)=-1 look(1)=0");
        Edge.due(LASTS, "see(0,0,1,true)=1 see(0,0,1,false)=2 look(0)=-1 look(1)=0 forget()=- look(0)=0 look(1)=1");
        Edge.due("tenant 0 0 0 0;", "pockets(0)=20 look(0)=-1 look(1)=0");
        Edge.due("house 0 0 0 0;", "look(0)=-1 look(1)=0");
        Edge.sentence("LOOK NEXT: the HOUSE (what 0; NONE), how many (1; 0: none). NoSuchElementException: another what.");
        for (String what : new String[] {"-1", "2", "MIN", "MAX"}) {
            Edge.unchanged(SOME, ACTS, "look(" + what + ")", "NoSuch", -1);
        }
        Edge.due(new DogLeases(), "look(0)=-1 look(1)=0 look(2)=NoSuch look(-1)=NoSuch");
    }

    private static void forget() {
        Edge.sentence("All that is SEEN is forgotten.");
        Edge.unchanged(SOME, "quarters(1) image() buy(0,1) ", "forget()", "-", -1);
        Edge.due(LASTS, "forget()=- count(9)=0 see(0,0,1,true)=1 see(0,0,2,true)=2 forget()=- count(9)=0 pockets(0)=20 pockets(2)=1 see(0,0,1,false)=1 pockets(0)=0 count(13)=0");
        // An act is not forgotten, nor STATUS.
        Edge.due(SOME, "quarters(1)=1 see(0,0,0,true)=-1 see(0,0,1,true)=1 forget()=- count(8)=1 count(13)=1 count(9)=0 undo()=0");
    }

    private static void game() {
        Edge.sentence("A couple RESTS, if neither gains more by the other choice: how many; the first (10 by the first one's, and the other one's).");
        // Each has a house of its own by 3 chops, for 6 coins, of which the rent is 6: as much by either choice, so all four rest.
        String own = "house R 0 1 0;house R 0 2 0;tenant 0 0 0 1;tenant 0 0 0 2;likes (coins=temper)*(2<chops);";
        Edge.due(own.replace("R", "6"), "game(0,1,0)=4 game(0,1,1)=0");
        Edge.due(own.replace("R", "7"), "game(0,1,0)=1 game(0,1,1)=0 game(1,0,1)=0");
        Edge.due(own.replace("R", "5"), "game(0,1,0)=1 game(0,1,1)=11 game(1,0,1)=11");
        Edge.due(own.replace("house R 0 1 0", "house 7 0 1 0").replace("R", "5"), "game(0,1,0)=1 game(0,1,1)=1 game(1,0,0)=1 game(1,0,1)=10");
        // Each wants the other one's choice: tenant 0 has the house by like ones, tenant 1 by more.
        String one = "house R 0 0 0;tenant 1 0 0 0;tenant 1 0 0 0;likes chops;";
        Edge.due(one.replace("R", "10"), "game(0,1,0)=0 game(0,1,1)=-1 game(1,0,0)=0 game(1,0,1)=-1");
        Edge.due(one.replace("R", "6"), "game(0,1,0)=2 game(0,1,1)=10 game(1,0,0)=2 game(1,0,1)=1");
        Edge.due(one.replace("R", "5"), "game(0,1,0)=1 game(0,1,1)=11");
        Edge.due("tenant 0 0 0 0;tenant 0 0 0 0;", "game(0,1,0)=1 game(0,1,1)=11");
        Edge.sentence("A GAME: how many couples rest (what 0), the first (1; NONE: none). NoSuchElementException: also another what. IllegalArgumentException (behind that): both are one.");
        for (String what : new String[] {"-1", "2", "MIN", "MAX"}) {
            Edge.unchanged(SOME, ACTS, "game(0,1," + what + ")", "NoSuch", -1);
            Edge.unchanged(SOME, ACTS, "game(0,0," + what + ")", "NoSuch", -1);
        }
        Edge.unchanged(SOME, ACTS, "game(0,0,0)", "Illegal", -1);
        Edge.unchanged(SOME, ACTS, "game(2,2,1)", "Illegal", -1);
        Edge.unchanged(SOME, ACTS, "game(3,3,0)", "NoSuch", -1);
        Edge.unchanged(SOME, ACTS, "game(-1,-1,1)", "NoSuch", -1);
        Edge.unchanged(SOME, ACTS, "game(2,3,0)", "NoSuch", -1);
    }

    private static void gameLimits() {
        Edge.sentence("A GAME of two TENANTS: each has 3 CHOPS more now (20 at most), or a CAT less (none below 0) (0, 1)");
        // 18 and 3 are 20: the house, 10 less 6; the other one has nothing by either, and 6 less by chops.
        Edge.due("house 10 0 0 0;tenant 18 0 0 0;tenant 0 0 0 0;likes chops=20;", "game(0,1,0)=1 game(0,1,1)=1");
        Edge.due("house 10 0 0 0;tenant 17 0 0 0;tenant 0 0 0 0;likes chops=20;", "game(0,1,0)=1 game(0,1,1)=1");
        Edge.due("house 10 0 0 0;tenant 16 0 0 0;tenant 0 0 0 0;likes chops=20;", "game(0,1,0)=1 game(0,1,1)=11");
        Edge.due("house 10 0 0 0;tenant 0 0 0 0;tenant 0 0 0 0;likes chops=3;", "game(0,1,0)=1 game(0,1,1)=1");
        Edge.due("house 10 0 0 0;tenant 0 0 0 0;tenant 0 0 0 0;likes chops=4;", "game(0,1,0)=1 game(0,1,1)=11");
        // No cat is left either way: the house is tenant 0's by both choices, and for nothing by the second.
        Edge.due("house 10 0 0 0;tenant 0 0 0 0;tenant 0 0 3 0;likes (cats=0)+(cats<0)*0;", "game(0,1,0)=1 game(0,1,1)=11");
        // Chops are worth 4 to tenant 0, if a cat less is no cat below none: then the house is liked by 1 only with chops.
        Edge.due("house 10 0 0 0;tenant 0 0 0 0;tenant 0 0 3 0;likes (cats<0)+(chops=3)*(cats=0);", "game(0,1,0)=1 game(0,1,1)=1");
        Edge.due("house 10 0 0 0;tenant 0 0 1 0;tenant 0 0 3 0;likes cats=0;", "game(0,1,0)=1 game(0,1,1)=11");
        Edge.due("house 10 0 0 0;tenant 0 0 2 0;tenant 0 0 3 0;likes (cats=2)*(chops=3)+(cats=0);", "game(0,1,0)=1 game(0,1,1)=1");
        Edge.sentence("each gains RENT of all one's HOUSES behind the next QUARTER, less 6 by CHOPS");
        // Two houses of 3 are worth as much as six chops' price; of 2 they are not.
        String two = "house R 0 0 0;house R 0 0 0;tenant 0 0 0 0;tenant 0 0 0 0;likes (1<chops)*(coins=0);";
        Edge.due(two.replace("R", "3").replace("tenant 0 0 0 0;likes", "tenant 0 0 0 1;likes"), "game(0,1,0)=2 game(0,1,1)=1");
        Edge.due(two.replace("R", "2").replace("tenant 0 0 0 0;likes", "tenant 0 0 0 1;likes"), "game(0,1,0)=1 game(0,1,1)=11");
        // What is had now is worth nothing: the house is lost by the next quarter, whatever is chosen.
        Edge.due("house 50 0 0 0;tenant 0 0 0 0;tenant 0 0 0 0;likes quarter=0;", "quarters(1)=1 game(0,1,0)=1 game(0,1,1)=11");
    }

    private static void years() {
        Edge.sentence("YEARS by a seed: n QUARTERS (0 to 40) from now on");
        Edge.due(SOME, "years(1,0,0)=0 years(1,0,1)=0 years(1,0,2)=148 quarters(1)=1 years(1,0,0)=0 years(1,0,1)=1");
        Edge.due("house 0 0 0 0;tenant 0 0 0 0;life 40;", "years(7,39,1)=0 years(7,40,1)=1");
        Edge.due("house 0 0 0 0;tenant 0 0 0 0;life 41;", "years(7,40,1)=0");
        Edge.sentence("YEARS: how often (what 0), SEALED (1), COINS (2). NoSuchElementException: another what. IllegalArgumentException (behind that): n.");
        for (String n : new String[] {"-1", "41", "MIN", "MAX"}) {
            Edge.unchanged(SOME, ACTS, "years(5," + n + ",0)", "Illegal", -1);
            Edge.unchanged(SOME, ACTS, "years(5," + n + ",2)", "Illegal", -1);
            Edge.unchanged(SOME, ACTS, "years(5," + n + ",3)", "NoSuch", -1);
            Edge.unchanged(SOME, ACTS, "years(5," + n + ",-1)", "NoSuch", -1);
        }
        for (String what : new String[] {"-1", "3", "MIN", "MAX"}) {
            Edge.unchanged(SOME, ACTS, "years(5,1," + what + ")", "NoSuch", -1);
        }
        Edge.due(new DogLeases(), "years(5,-1,0)=Illegal years(5,0,0)=0 years(5,40,2)=0 years(5,41,0)=Illegal years(5,41,3)=NoSuch");
        Edge.sentence("how often a HOUSE was another one's than ahead of the QUARTER (nobody is one), all together; how many are SEALED at the end; COINS of all");
        // The one house is always led: its tenant loses it, once.
        Edge.due("house 8 0 0 0;tenant 9 0 0 4;likes 1;", "years(77,40,0)=0 years(77,40,2)=4 quarters(1)=1 years(77,1,0)=1 years(77,40,0)=1 years(77,40,2)=12");
        Edge.due("house 8 9 0 0;house 8 60 0 0;tenant 9 0 0 4;life 11;likes 1;", "years(77,1,1)=1 years(77,2,1)=2 quarters(1)=1 years(77,0,1)=1 years(77,1,1)=2 years(77,40,1)=2");
    }

    /** Rents tell by which houses they come, tempers to which tenants these go: reckoned by another program. */
    private static void draws() {
        Edge.sentence("A seed becomes itself times 1103515245 and 12345 (an int that wraps); a DRAW of n is its bits 16 to 30 MOD n then.");
        String text = "house 1 0 0 0;house 2 0 1 0;house 4 0 2 0;house 8 0 3 0;house 16 0 4 0;house 32 0 5 0;house 64 0 6 0;house 99 0 6 0;"
            + "tenant 0 0 0 0;tenant 0 0 0 1;tenant 0 0 0 2;tenant 0 0 0 3;tenant 0 0 0 4;tenant 0 0 0 5;tenant 0 0 0 6;life 30;sleeps 0;likes chops*(coins<temper+1);";
        int[][] want = {{0, 1, 2, 0, 184}, {0, 2, 4, 0, 248}, {0, 3, 9, 0, 342}, {0, 40, 40, 8, 982},
            {1, 1, 3, 0, 168}, {1, 2, 7, 0, 331}, {1, 3, 9, 0, 331}, {1, 40, 35, 8, 769},
            {-1, 1, 2, 0, 184}, {-1, 2, 5, 0, 315}, {-1, 3, 10, 0, 534}, {-1, 40, 53, 8, 1168},
            {Integer.MIN_VALUE, 3, 9, 0, 342}, {Integer.MIN_VALUE, 40, 40, 8, 982},
            {Integer.MAX_VALUE, 3, 10, 0, 534}, {Integer.MAX_VALUE, 40, 53, 8, 1168},
            {12345, 1, 2, 0, 184}, {12345, 2, 5, 0, 186}, {12345, 40, 47, 8, 1202}, {65536, 2, 6, 0, 232}, {65536, 40, 52, 8, 1073},
            {-1103515245, 2, 9, 0, 402}, {-1103515245, 3, 16, 0, 402}, {-1103515245, 40, 40, 8, 952}};
        DogLeases x = Edge.of(text);
        for (int[] row : want) {
            for (int what = 0; what < 3; what++) {
                Edge.due(x, "years(" + row[0] + "," + row[1] + "," + what + ")=" + row[2 + what]);
            }
        }
        Edge.due(x, "count(3)=0 count(6)=0 count(7)=21 count(8)=0");
        Edge.sentence("ahead of each a DRAW of HOUSES is LED (if not SEALED), then a DRAW of TENANTS has CHOPS, a DRAW of 21 as many");
        // By seed 0 the draws are 0 of 8, 6 of 7, 13 of 21: house 0 is led, tenant 6 has 13 chops, and houses 6 and 7.
        Edge.due(x, "years(0,1,0)=2 years(0,1,2)=184");
        // By seed 1 they are 6, 4, 12: tenant 4 has houses 4, 5 and 7.
        Edge.due(x, "years(1,1,0)=3 years(1,1,2)=168");
    }

    private static void nothingDrawn() {
        Edge.sentence("(Without HOUSES, or TENANTS, nothing is drawn at all.)");
        Edge.due("house 5 9 0 0;house 5 0 0 0;life 10;", "years(3,1,0)=0 years(3,1,1)=1 years(3,9,1)=1 years(3,10,1)=2 years(3,40,2)=0");
        Edge.due("tenant 5 9 0 100;tenant 1 1 1 11;", "years(3,40,0)=0 years(3,40,1)=0 years(3,40,2)=111");
        Edge.due("", "years(3,40,0)=0 years(3,40,1)=0 years(3,40,2)=0");
    }

    private static void image() {
        Edge.sentence("AN IMAGE keeps all that QUARTERS and ACTS change, ACTS that are kept, what is SEEN, STATUS.");
        String before = "quarters(1) buy(0,2) cats(2,1) temper(0,5) see(0,0,1,true) see(1,2,12,false) quarters(40) see(0,0,0,true) lead(2,true)";
        for (String between : new String[] {"", "quarters(5)", "buy(0,1)", "cats(0,3)", "lead(0,true)", "lead(2,false)", "temper(2,9)", "undo()", "undo() undo() undo() undo() undo() undo()", "see(2,0,2,true)", "forget()",
            "forget() see(2,2,2,true)", "quarters(0)", "see(0,0,13,true)", "quarters(20) quarters(20) undo() buy(2,1)"}) {
            Edge.back(SOME, before, between);
        }
        // Nothing there yet, and all full: 40 acts, 8 seen.
        Edge.back(SOME, "", ACTS.replace("image() ", "").replace(FED, ""));
        Edge.back("", "", "quarters(7) quarters(21)");
        StringBuilder full = new StringBuilder("see(0,0,1,true) ".repeat(8));
        for (int i = 0; i < 43; i++) {
            full.append("temper(0,").append(i % 7).append(") ");
        }
        Edge.back(SOME, full.toString(), "forget() see(0,0,2,false) undo() undo() cats(0,2) cats(0,0) cats(0,1) cats(0,3) temper(0,9)");
        Edge.back(SOME, full.toString(), "cats(0,2) ".repeat(41) + "quarters(20)");
        // The tape and the place of a FAULT are no part of it.
        DogLeases x = Edge.of(SOME);
        Edge.due(x, "image()=- feed(0,0,0,0,0)=20 terrace(3)=1 feed(0,0,0,0,0)=20 fault()=0 count(11)=1 restore()=true count(10)=20 fault()=0 count(11)=0");
        Edge.due(x, "image()=- terrace(3)=1 restore()=true count(10)=0");
    }

    private static void restore() {
        Edge.sentence("AN IMAGE is kept, in place of another one.");
        Edge.due(SOME, "quarters(1)=1 image()=- quarters(1)=2 image()=- quarters(1)=3 restore()=true count(3)=2 restore()=true count(3)=2 undo()=1 count(3)=1 restore()=true count(3)=2");
        Edge.due(SOME, "quarters(1)=1 see(0,0,1,true)=1 image()=- undo()=0 forget()=- image()=- quarters(5)=5 restore()=true count(3)=0 count(8)=0 count(9)=0");
        Edge.sentence("It is as the IMAGE again: true. False: there is none.");
        Edge.unchanged(SOME, ACTS.replace("image() ", ""), "restore()", "false", -1);
        Edge.unchanged("", "", "restore()", "false", -1);
        Edge.due(new DogLeases(), "restore()=false image()=- restore()=true restore()=true");
        Edge.unchanged(SOME, ACTS + "image() ", "image()", "-", -1);
        DogLeases x = Edge.of(SOME);
        Edge.due(x, "image()=- restore()=true");
        Due.same("a text with a fault", 1, () -> Due.tell(x, "house"));
        Edge.due(x, "restore()=true terrace(0)=0 restore()=false");
    }

    private static void manyCalls() {
        Edge.sentence("An object is used for at most 512 calls after it has been made; what later calls answer is free.");
        DogLeases x = new DogLeases();
        for (int i = 0; i < 128; i++) {
            int life = 10 + i % 80;
            int digits = (life / 10 + '0') << 16 | (life % 10 + '0') << 8 | ';';
            Edge.due(x, "feed(1818846821," + (0x20000000 | digits) + ",538976288,538976288,538976288)=20 terrace(20)=0 count(2)=" + life + " quarters(1)=1");
        }
        DogLeases refused = new DogLeases();
        for (int i = 1; i <= 256; i++) {
            Edge.due(refused, "quarters(0)=-1 count(12)=" + i);
        }
        DogLeases acts = Edge.of("house 9 0 0 5;tenant 1 1 0 0;");
        for (int i = 1; i <= 200; i++) {
            Edge.due(acts, "temper(0," + i % 10 + ")=" + (i - 1) % 10 + " count(8)=" + Math.min(i, 40));
        }
        for (int left = 39; left >= 0; left--) {
            Edge.due(acts, "undo()=" + left + " house(0,2)=" + (160 + left) % 10);
        }
    }

    private static void questions() {
        Edge.sentence("by one of which now all SEEN would be so");
        Edge.asked(SOME, ACTS, "pockets(0)", "pockets(1)", "pockets(2)", "look(0)", "look(1)", "game(0,1,0)", "game(2,0,1)", "years(5,40,0)", "years(-5,40,1)", "years(0,1,2)");
    }
}
