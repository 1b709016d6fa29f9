/** Each sentence of the document on quarters and acts (==== 2, promises 5 to 13) that names a boundary case. */
public final class EdgeStateTest {
    /** Three houses, of which the second is sealed by the first quarter; three tenants; acts, what is seen, an image, acts behind it, a tape. */
    private static final String SOME = "house 10 5 2 1;house 20 30 5 0;corner 30 2 0 1;tenant 4 1 1 40;butcher 2 0 0 9;tenant 1 2 3 99;life 31;";
    private static final String ACTS = "quarters(1) buy(0,2) cats(2,1) see(0,0,1,true) see(1,2,12,false) quarters(40) image() lead(2,true)"
        + " temper(0,7) quarters(2) lead(0,true) feed(1818846821,540292411,538976288,538976288,538976288) ";
    private static final String TWENTIES = "quarters(20) ".repeat(49);

    public static void main(String[] args) {
        nobodysAtFirst();
        growingOld();
        buried();
        pups();
        sealed();
        sitsByNobody();
        sleeping();
        likesMost();
        keptTo();
        moreThanNothing();
        aChopLess();
        asItBegan();
        coinsAndChops();
        ledNoMore();
        acts();
        counts();
        houses();
        tenants();
        quarters();
        buy();
        cats();
        lead();
        temper();
        undo();
        Due.end();
    }

    private static void nobodysAtFirst() {
        Edge.sentence("A HOUSE is nobody's at first.");
        Edge.due("house 0 0 0 0;".repeat(8) + "tenant 9 0 0 0;", "house(0,4)=-1 house(7,4)=-1 house(0,5)=0 count(5)=255 tenant(0,4)=0 then(0,0)=-1 empty(0)=255");
        Edge.sentence("A QUARTER (QUARTER 0 is the first)");
        Edge.due(SOME, "count(3)=0 quarters(1)=1 count(3)=1");
        Edge.sentence("The QUARTER is one more.");
        Edge.due(SOME, "quarters(1)=1 quarters(1)=2 quarters(20)=22 count(3)=22 undo()=2 count(3)=2");
    }

    private static void growingOld() {
        Edge.sentence("first each DOG is 1 older");
        Edge.due("house 0 0 0 0;corner 0 60 0 0;house 0 59 0 0;life 99;", "quarters(1)=1 house(0,1)=1 house(1,1)=61 house(2,1)=60");
        // Dogs sit down when all are older already, and buried: a rule sees that.
        Edge.due("house 0 5 0 0;tenant 0 0 0 0;likes age=6;", "then(0,1)=0 liking(0,0)=0");
        Edge.due("house 0 9 0 1;tenant 0 0 0 0;life 10;likes age=0;", "then(0,1)=0 then(0,2)=-1");
    }

    private static void buried() {
        Edge.sentence("one of AGE LIFE or more (in a 'corner': twice LIFE) is buried");
        // Behind the quarter they are 9, 10, 11 (life 10); in a corner 19, 20, 21.
        Edge.due("house 0 8 0 0;house 0 9 0 0;house 0 10 0 0;house 0 60 0 0;life 10;", "quarters(1)=1 count(4)=14 house(0,1)=9 quarters(1)=2 count(4)=15");
        Edge.due("corner 0 18 0 0;corner 0 19 0 0;corner 0 20 0 0;corner 0 60 0 0;life 10;", "quarters(1)=1 count(4)=14 house(0,1)=19 quarters(1)=2 count(4)=15");
        Edge.due("house 0 0 0 0;corner 0 0 0 0;life 1;", "quarters(1)=1 count(4)=1 quarters(1)=2 count(4)=3");
        Edge.due("house 0 0 0 0;life 99;", "quarters(20)=20 quarters(20)=40 quarters(20)=60 quarters(20)=80 quarters(18)=98 count(4)=0 quarters(1)=99 count(4)=1");
    }

    private static void pups() {
        Edge.sentence("has it PUPS, these are 1 less, and one of them is the DOG then, of AGE 0, TEMPER as it was");
        DogLeases x = Edge.of("house 7 9 6 1;house 7 9 5 5;tenant 1 1 0 0;life 10;likes 1;");
        Edge.due(x, "quarters(1)=1 house(0,1)=0 house(0,2)=6 house(0,3)=0 house(1,1)=0 house(1,2)=5 house(1,3)=4 count(4)=0 house(0,4)=0");
        Edge.due(x, "temper(0,2)=6 quarters(9)=10 house(0,1)=9 house(0,5)=10 count(4)=0 quarters(1)=11 count(4)=1 house(0,3)=0 house(0,2)=2 house(1,3)=3 house(1,5)=11");
        Edge.due("house 0 0 0 5;life 1;", "quarters(1)=1 house(0,3)=4 house(0,1)=0 quarters(4)=5 house(0,3)=0 count(4)=0 quarters(1)=6 count(4)=1 house(0,3)=0");
    }

    private static void sealed() {
        Edge.sentence("else the HOUSE is SEALED, and nobody's from then on");
        DogLeases x = Edge.of("house 7 8 0 0;house 5 0 0 0;tenant 3 0 0 0;life 10;likes 1;");
        Edge.due(x, "quarters(1)=1 house(0,4)=0 tenant(0,3)=12 quarters(1)=2 house(0,4)=-1 house(0,5)=0 count(4)=1 count(5)=1 tenant(0,3)=17 tenant(0,4)=2 tenant(0,0)=0");
        Edge.due(x, "quarters(5)=7 house(0,4)=-1 house(0,5)=0 count(4)=1 tenant(0,3)=42 empty(0)=1 liking(0,0)=0");
        Edge.sentence("Then, HOUSE by HOUSE of those that aren't SEALED");
        // House 0 is sealed and takes no chop; of three one is left behind the two others.
        Edge.due("house 0 9 0 0;house 0 0 0 0;house 0 0 0 0;tenant 3 0 0 0;life 10;likes 1;", "quarters(1)=1 tenant(0,0)=1 tenant(0,4)=6");
    }

    private static void sitsByNobody() {
        Edge.sentence("a DOG that is LED, or SLEEPS (SLEEPS gives more than 0; without it: AGE is 30 or more), sits by nobody: the HOUSE is nobody's");
        DogLeases x = Edge.of("house 7 0 0 0;house 5 0 0 0;tenant 9 0 0 0;");
        Edge.due(x, "quarters(1)=1 tenant(0,4)=3 tenant(0,3)=12 lead(0,true)=true quarters(1)=2 house(0,4)=-1 house(0,5)=0 tenant(0,4)=2 tenant(0,3)=17 tenant(0,0)=6");
        Edge.due(x, "quarters(1)=3 house(0,4)=0 house(0,5)=1 house(1,5)=3");
        String all = "house 7 0 0 0;tenant 9 0 0 0;sleeps ";
        Edge.due(all + "0;", "then(0,1)=0 house(0,7)=0");
        Edge.due(all + "1;", "then(0,1)=-1 house(0,7)=1");
        Edge.due(all + "0-1;", "then(0,1)=0 house(0,7)=0");
        Edge.due(all + "9999;", "then(0,1)=-1 house(0,7)=1");
        Edge.due(all + "4096*4096*128;", "then(0,1)=0 house(0,7)=0");
    }

    private static void sleeping() {
        Edge.sentence("without it: AGE is 30 or more");
        Edge.due("house 7 28 0 0;house 7 29 0 0;house 7 30 0 0;tenant 9 0 0 0;", "house(0,7)=0 house(1,7)=0 house(2,7)=1 then(0,1)=0 then(1,1)=-1 then(2,1)=-1");
        Edge.due("house 7 60 0 0;tenant 9 0 0 0;life 99;sleeps 0;", "house(0,7)=0 then(0,1)=0");
        // Buried at 31, the pup is awake.
        Edge.due("house 7 30 0 1;tenant 9 0 0 0;life 31;", "house(0,7)=1 quarters(1)=1 house(0,7)=0 house(0,4)=0");
    }

    private static void likesMost() {
        Edge.sentence("another one sits by the TENANT whom it LIKES most (of like ones the least)");
        Edge.due("house 0 0 0 0;tenant 4 0 0 0;tenant 5 0 0 0;tenant 5 0 0 0;tenant 3 0 0 0;likes chops;", "then(0,1)=1");
        Edge.due("house 0 0 0 0;tenant 5 0 0 0;tenant 5 0 0 0;likes chops;", "then(0,1)=0");
        Edge.due("house 0 0 0 0;tenant 4 0 0 0;tenant 5 0 0 0;likes 9-chops;", "then(0,1)=0");
        Edge.due("house 0 0 0 0;" + "tenant 0 0 0 0;".repeat(6) + "tenant 1 0 0 0;likes chops;", "then(0,1)=6");
        Edge.due("house 0 0 0 0;", "then(0,1)=-1 quarters(1)=1 house(0,4)=-1");
        Edge.sentence("(without it CHOPS thrice and 'held', less CATS by TEMPER)");
        Edge.due("house 0 0 9 0;tenant 20 0 0 0;tenant 20 0 3 0;tenant 0 0 3 0;", "liking(0,0)=60 liking(0,1)=33 liking(0,2)=-27 quarters(1)=1 liking(0,0)=58 house(0,4)=0");
        Edge.due("house 0 0 0 0;tenant 0 0 3 0;", "liking(0,0)=0 then(0,1)=-1");
        // Once had, a house is liked by 'held' alone.
        Edge.due("house 0 0 1 0;tenant 1 0 0 0;", "quarters(3)=3 liking(0,0)=3 cats(0,3)=0 liking(0,0)=0 then(0,1)=-1 cats(0,2)=3 liking(0,0)=1 then(0,1)=0");
    }

    private static void keptTo() {
        Edge.sentence("kept to -999 to 999, for a butcher 2 more than that");
        Edge.gives("998", 998);
        Edge.gives("999", 999);
        Edge.gives("1000", 999);
        Edge.gives("0-998", -998);
        Edge.gives("0-999", -999);
        Edge.gives("0-1000", -999);
        Edge.gives("4096*4096*128-1", 999);
        Edge.gives("4096*4096*128", -999);
        String butcher = "house 0 0 0 0;butcher 0 0 0 0;likes ";
        Edge.due(butcher + "998;", "liking(0,0)=1000");
        Edge.due(butcher + "999;", "liking(0,0)=1001");
        Edge.due(butcher + "9999;", "liking(0,0)=1001");
        Edge.due(butcher + "0-9999;", "liking(0,0)=-997");
        Edge.due(butcher + "0;", "liking(0,0)=2");
        // 999 and 5000 are like ones; a butcher is 2 above them, and not below 997 and 2.
        Edge.due("house 0 0 0 0;tenant 1 0 0 0;tenant 5 0 0 0;likes 999+chops*1000-1000;", "liking(0,0)=999 liking(0,1)=999 then(0,1)=0");
        Edge.due("house 0 0 0 0;tenant 5 0 0 0;butcher 1 0 0 0;likes chops*1000;", "then(0,1)=1");
        Edge.due("house 0 0 0 0;tenant 5 0 0 0;butcher 1 0 0 0;likes 997+(chops=5)*2;", "liking(0,0)=999 liking(0,1)=999 then(0,1)=0");
        Edge.due("house 0 0 0 0;tenant 5 0 0 0;butcher 1 0 0 0;likes 998+(chops=5)*1;", "liking(0,1)=1000 then(0,1)=1");
    }

    private static void moreThanNothing() {
        Edge.sentence("if that is more than 0, else by nobody");
        Edge.due("house 0 0 0 0;tenant 0 0 0 0;likes 1;", "then(0,1)=0");
        Edge.due("house 0 0 0 0;tenant 0 0 0 0;likes 0;", "then(0,1)=-1");
        Edge.due("house 0 0 0 0;tenant 0 0 0 0;likes 0-1;", "then(0,1)=-1");
        Edge.due("house 0 0 0 0;butcher 0 0 0 0;likes 0-1;", "liking(0,0)=1 then(0,1)=0");
        Edge.due("house 0 0 0 0;butcher 0 0 0 0;likes 0-2;", "liking(0,0)=0 then(0,1)=-1");
        Edge.due("house 0 0 0 0;butcher 0 0 0 0;likes 0-9999;", "liking(0,0)=-997 then(0,1)=-1");
        Edge.due("house 0 0 0 0;tenant 1 0 0 0;likes quarter<1;", "quarters(1)=1 house(0,4)=0 house(0,5)=1 tenant(0,0)=0 quarters(1)=2 house(0,4)=-1 house(0,5)=0");
    }

    private static void aChopLess() {
        Edge.sentence("that one has the HOUSE, and has a CHOP less at once, if there is one (which counts for the next HOUSES");
        Edge.due("house 0 0 0 0;tenant 1 0 0 0;tenant 1 0 0 0;likes 1;", "quarters(1)=1 tenant(0,0)=0 tenant(1,0)=1 quarters(1)=2 tenant(0,0)=0 house(0,4)=0");
        Edge.due("house 0 0 0 0;".repeat(8) + "tenant 5 0 0 0;likes 1;", "quarters(1)=1 tenant(0,0)=0 tenant(0,4)=255");
        Edge.due("house 0 0 0 0;house 0 0 0 0;house 0 0 0 0;tenant 2 0 0 0;tenant 1 0 0 0;likes chops;", "then(0,1)=0 then(1,1)=0 then(2,1)=1");
        // The wage comes behind all houses: nobody has a chop for house 1.
        Edge.due("house 0 0 0 0;house 0 0 0 0;tenant 1 9 0 0;likes chops;", "then(0,1)=0 then(1,1)=-1 purse(0,1,1)=9");
        Edge.due("house 0 0 0 0;tenant 20 0 0 0;likes 1;", "quarters(20)=20 tenant(0,0)=0");
    }

    private static void asItBegan() {
        Edge.sentence("'held', 'houses', 'beside' are as they were when the QUARTER began");
        Edge.due("house 0 0 0 0;house 0 0 0 0;tenant 0 0 0 0;tenant 0 0 0 0;likes 1-houses;", "then(0,1)=0 then(1,1)=0 then(0,2)=1 then(1,2)=1 then(0,3)=0");
        Edge.due("house 0 0 0 0;house 0 0 0 0;tenant 0 0 0 0;tenant 0 0 0 0;likes 1-beside;", "then(1,1)=0 then(0,2)=1 then(1,2)=1");
        Edge.due("house 0 0 0 0;tenant 0 0 0 0;tenant 0 0 0 0;likes held<2;", "then(0,1)=0 then(0,2)=0 then(0,3)=1 then(0,5)=0 then(0,4)=0");
        // House 0 is sealed in quarter 1, and was had when that quarter began.
        Edge.due("house 0 8 0 0;house 0 0 0 0;tenant 0 0 0 0;life 10;likes quarter=0 or houses=2 and beside=1;", "then(1,1)=0 then(1,2)=0 then(1,3)=-1");
    }

    private static void coinsAndChops() {
        Edge.sentence("Then each TENANT has RENT of all one's HOUSES more COINS (9999 at most)");
        // 8 times 99 is 792: 999 and 11 times that is 9711, and 8919 a quarter before.
        String eight = "house 99 0 0 0;".repeat(7) + "house 99 0 0 0;tenant 0 0 0 999;tenant 0 0 0 7;likes 1;life 99;sleeps 0;";
        Edge.due(eight, "quarters(11)=11 tenant(0,3)=9711 quarters(1)=12 tenant(0,3)=9999 quarters(1)=13 tenant(0,3)=9999 tenant(1,3)=7 count(7)=10006 buy(0,9)=9 tenant(0,3)=9972");
        // 999 and 90 times 100 is 9999 itself.
        String hundred = "house 99 0 0 0;house 1 0 0 0;tenant 0 0 0 999;likes 1;life 99;sleeps 0;";
        String run = "quarters(20)=20 quarters(20)=40 quarters(20)=60 quarters(20)=80 quarters(9)=89 tenant(0,3)=9899 quarters(1)=90 tenant(0,3)=9999 quarters(1)=91 tenant(0,3)=9999";
        Edge.due(hundred, run);
        Edge.due("house 0 0 0 0;tenant 0 0 0 5;likes 1;", "quarters(1)=1 tenant(0,3)=5");
        Edge.sentence("and WAGE more CHOPS (20 at most)");
        Edge.due("tenant 11 9 0 0;tenant 12 9 0 0;tenant 20 9 0 0;tenant 20 0 0 0;", "quarters(1)=1 tenant(0,0)=20 tenant(1,0)=20 tenant(2,0)=20 tenant(3,0)=20 quarters(1)=2 tenant(0,0)=20");
        Edge.due("tenant 10 9 0 0;tenant 0 1 0 0;", "quarters(1)=1 tenant(0,0)=19 tenant(1,0)=1 quarters(1)=2 tenant(0,0)=20 tenant(1,0)=2");
        Edge.due("house 0 0 0 0;tenant 20 1 0 0;likes 1;", "quarters(1)=1 tenant(0,0)=20");
    }

    private static void ledNoMore() {
        Edge.sentence("No DOG is LED then.");
        DogLeases x = Edge.of("house 0 0 0 0;".repeat(8) + "tenant 0 0 0 0;likes 1;");
        Edge.due(x, "lead(0,true)=true lead(7,true)=true count(6)=129 quarters(1)=1 count(6)=0 count(5)=129 quarters(1)=2 count(5)=0 lead(0,true)=true");
        // Led when it is buried: sealed, and led no more; a pup is led in that quarter as its elder was.
        Edge.due("house 0 9 0 0;house 0 9 0 1;tenant 0 0 0 0;likes 1;life 10;", "lead(0,true)=true lead(1,true)=true quarters(1)=1 count(4)=1 count(6)=0 house(1,1)=0 house(1,4)=-1");
    }

    private static void acts() {
        Edge.sentence("ACTS (at most 40 are kept, the latest ones)");
        DogLeases x = Edge.of("house 0 0 0 0;tenant 0 0 0 0;");
        for (int i = 1; i <= 41; i++) {
            Edge.due(x, "temper(0," + i % 10 + ")=" + (i - 1) % 10 + " count(8)=" + Math.min(i, 40));
        }
        for (int left = 39; left >= 0; left--) {
            Edge.due(x, "undo()=" + left + " house(0,2)=" + (left + 1) % 10);
        }
        Edge.due(x, "undo()=-1 house(0,2)=1 count(8)=0");
        Edge.sentence("They are UNDONE, the last one first.");
        DogLeases y = Edge.of("house 9 0 3 0;tenant 2 1 1 30;");
        Edge.due(y, "buy(0,3)=5 cats(0,3)=1 temper(0,8)=3 lead(0,true)=true quarters(1)=1 lead(0,true)=true lead(0,false)=true count(8)=7");
        Edge.due(y, "undo()=6 count(6)=1 undo()=5 count(6)=0 count(3)=1 undo()=4 count(3)=0 count(6)=1 tenant(0,0)=5 house(0,1)=0");
        Edge.due(y, "undo()=3 count(6)=0 undo()=2 house(0,2)=3 undo()=1 tenant(0,2)=1 undo()=0 tenant(0,0)=2 tenant(0,3)=30 undo()=-1");
    }

    private static void counts() {
        Edge.sentence("11 to 13 STATUS 0 to 2. NoSuchElementException: another what.");
        for (String what : new String[] {"-1", "14", "MIN", "MAX"}) {
            Edge.unchanged(SOME, ACTS, "count(" + what + ")", "NoSuch", -1);
        }
        DogLeases x = Edge.of(SOME);
        Edge.due(x, "count(0)=3 count(1)=3 count(2)=31 count(3)=0 count(4)=0 count(5)=7 count(6)=0 count(7)=148 count(8)=0 count(9)=0 count(10)=0 count(11)=0 count(12)=0 count(13)=0");
        Edge.due(x, "quarters(1)=1 lead(2,true)=true see(0,0,1,true)=1 see(0,0,1,true)=2 feed(0,0,0,0,0)=20 quarters(0)=-1 see(0,0,0,true)=-1 see(0,0,0,true)=-1");
        // Each tenant's chops thrice, and a butcher's 2: 12 for tenant 0 in house 0 (less 2), in house 2 then 9 against 8.
        Edge.due(x, "count(3)=1 count(4)=2 count(5)=2 count(6)=4 count(7)=188 count(8)=2 count(9)=2 count(10)=20 count(11)=0 count(12)=1 count(13)=2");
        Edge.due(x, "terrace(20)=1 count(11)=1 count(10)=0");
        Edge.sentence("STATUS: how many calls were refused: 0 TEXTS with a FAULT, 1 ACTS, 2 what is SEEN.");
        Edge.due(x, "buy(0,0)=-1 cats(0,4)=-1 lead(0,false)=false temper(0,10)=-1 quarters(21)=-1 count(12)=6 see(0,0,13,false)=-1 count(13)=3 count(11)=1");
        Edge.due(x, "buy(9,0)=NoSuch cats(9,4)=NoSuch lead(9,false)=NoSuch temper(9,10)=NoSuch see(9,0,13,true)=NoSuch terrace(-1)=Illegal restore()=false count(11)=1 count(12)=6 count(13)=3");
        Edge.due(new DogLeases(), "undo()=-1 count(12)=0");
    }

    private static void houses() {
        Edge.sentence("4 whose it is (NONE), 5 'held' of that one (0), 6 whether it is a corner (1), 7 whether its DOG SLEEPS now (1; SEALED: 0)");
        DogLeases x = Edge.of("house 0 0 0 0;corner 0 60 0 0;house 0 30 0 0;tenant 0 0 0 0;life 31;likes 1;");
        Edge.due(x, "house(0,4)=-1 house(0,5)=0 house(0,6)=0 house(0,7)=0 house(1,6)=1 house(1,7)=1 house(2,7)=1");
        Edge.due(x, "quarters(1)=1 house(0,4)=0 house(0,5)=1 house(1,4)=-1 house(1,5)=0 house(1,7)=1 house(2,4)=-1 house(2,5)=0 house(2,7)=0 count(4)=4 quarters(1)=2 house(1,7)=0 count(4)=6");
        Edge.due("house 0 9 0 0;tenant 0 0 0 0;life 10;sleeps 1;", "house(0,7)=1 quarters(1)=1 count(4)=1 house(0,7)=0");
        Edge.sentence("NoSuchElementException: no such HOUSE (as everywhere), what.");
        for (String args : new String[] {"3,0", "-1,0", "8,0", "MIN,0", "MAX,0", "0,8", "0,-1", "0,MIN", "0,MAX", "3,8"}) {
            Edge.unchanged(SOME, ACTS, "house(" + args + ")", "NoSuch", -1);
        }
        for (String call : new String[] {"lead(H,true)", "temper(H,1)", "then(H,1)", "sealed(H)", "gets(0,H)", "loses(H)", "liking(H,0)", "leastChops(0,H)", "see(0,H,1,true)"}) {
            for (String house : new String[] {"3", "-1", "MIN", "MAX"}) {
                Edge.unchanged(SOME, ACTS, call.replace("H", house), "NoSuch", -1);
            }
        }
    }

    private static void tenants() {
        Edge.sentence("4 HOUSES (bits), 5 whether a butcher (1)");
        Edge.due("house 0 0 0 0;".repeat(8) + "tenant 0 0 0 0;butcher 0 0 0 0;likes 1;", "tenant(0,4)=0 tenant(1,5)=1 tenant(0,5)=0 lead(0,true)=true lead(7,true)=true quarters(1)=1 tenant(1,4)=126 tenant(0,4)=0");
        Edge.sentence("NoSuchElementException: no such TENANT (as everywhere), what.");
        for (String args : new String[] {"3,0", "-1,0", "7,0", "MIN,0", "MAX,0", "0,6", "0,-1", "0,MIN", "0,MAX", "3,6"}) {
            Edge.unchanged(SOME, ACTS, "tenant(" + args + ")", "NoSuch", -1);
        }
        for (String call : new String[] {"buy(T,1)", "cats(T,1)", "purse(T,1,0)", "gets(T,0)", "row(T,0)", "liking(0,T)", "leastChops(T,0)", "toWin(T,0)", "ruin(T)", "beside(T)", "envy(T)",
            "see(T,0,1,true)", "game(T,0,0)", "game(0,T,0)"}) {
            for (String tenant : new String[] {"3", "-1", "MIN", "MAX"}) {
                Edge.unchanged(SOME, ACTS, call.replace("T", tenant), "NoSuch", -1);
            }
        }
    }

    private static void quarters() {
        Edge.sentence("QUARTERS go by: the QUARTER. NONE (STATUS 1): not 1 to 20, it would be above 999.");
        Edge.due(SOME, "quarters(1)=1 quarters(20)=21 count(12)=0 count(8)=2");
        for (String many : new String[] {"0", "21", "-1", "MIN", "MAX", "999"}) {
            Edge.unchanged(SOME, ACTS, "quarters(" + many + ")", "-1", 1);
        }
        // 980 quarters: 19 more are allowed, 20 are not; at 999 none is.
        Edge.unchanged(SOME, TWENTIES, "quarters(20)", "-1", 1);
        Edge.unchanged(SOME, TWENTIES + "quarters(19) ", "quarters(1)", "-1", 1);
        DogLeases x = Edge.of(SOME);
        for (int i = 1; i <= 49; i++) {
            Edge.due(x, "quarters(20)=" + 20 * i);
        }
        Edge.due(x, "quarters(20)=-1 quarters(19)=999 quarters(1)=-1 count(12)=2 count(3)=999 undo()=39 count(3)=980 quarters(18)=998 quarters(2)=-1 quarters(1)=999");
    }

    private static void buy() {
        Edge.sentence("a TENANT buys CHOPS (1 to 9, for 3 COINS each, which there must be; 20 at most)");
        Edge.due("tenant 0 0 0 3;tenant 0 0 0 27;tenant 0 0 0 26;tenant 0 0 0 2;", "buy(0,1)=1 tenant(0,3)=0 buy(1,9)=9 tenant(1,3)=0 buy(2,9)=-1 buy(2,8)=8 tenant(2,3)=2 buy(3,1)=-1 buy(0,1)=-1");
        Edge.due("tenant 11 0 0 99;tenant 12 0 0 99;tenant 20 0 0 99;", "buy(0,9)=20 tenant(0,3)=72 buy(1,9)=20 tenant(1,3)=72 buy(2,1)=20 tenant(2,3)=96 count(8)=3 undo()=2 tenant(2,3)=99 undo()=1 tenant(1,0)=12");
        Edge.sentence("CHOPS are bought: how many then. NONE (STATUS 1): not 1 to 9, too few COINS.");
        for (String chops : new String[] {"0", "10", "-1", "MIN", "MAX"}) {
            Edge.unchanged(SOME, ACTS, "buy(2," + chops + ")", "-1", 1);
        }
        // 3 times 1431655766 is 2 as an int: too many all the same.
        Edge.unchanged(SOME, ACTS, "buy(2,1431655766)", "-1", 1);
        Edge.unchanged(SOME, "buy(1,1) " + ACTS.replace("quarters(1) ", "").replace("quarters(2) ", ""), "buy(1,3)", "-1", 1);
        Edge.unchanged(SOME, ACTS, "buy(3,0)", "NoSuch", -1);
        Edge.unchanged(SOME, ACTS, "buy(-1,99)", "NoSuch", -1);
    }

    private static void cats() {
        Edge.sentence("CATS of one are another number (0 to 3)");
        Edge.due(SOME, "cats(0,0)=1 tenant(0,2)=0 cats(0,3)=0 tenant(0,2)=3 cats(0,4)=-1 cats(0,-1)=-1 tenant(0,2)=3 cats(1,1)=0 tenant(0,2)=3 count(8)=3 count(12)=2");
        Edge.sentence("CATS are another number: as they were. NONE (STATUS 1): not 0 to 3.");
        for (String cats : new String[] {"-1", "4", "MIN", "MAX"}) {
            Edge.unchanged(SOME, ACTS, "cats(0," + cats + ")", "-1", 1);
        }
        Edge.unchanged(SOME, ACTS, "cats(3,4)", "NoSuch", -1);
        Edge.unchanged(SOME, ACTS, "cats(-1,-1)", "NoSuch", -1);
    }

    private static void lead() {
        Edge.sentence("LED, or not any more: true. False (STATUS 1): it is so already, SEALED.");
        Edge.due(SOME, "lead(0,true)=true lead(0,true)=false lead(0,false)=true lead(0,false)=false lead(2,true)=true count(6)=4 count(8)=3 count(12)=2");
        Edge.due(SOME, "lead(1,true)=true quarters(1)=1 count(4)=2 lead(1,true)=false lead(1,false)=false count(6)=0 count(12)=2");
        Edge.unchanged(SOME, ACTS, "lead(0,true)", "false", 1);
        Edge.unchanged(SOME, ACTS, "lead(2,false)", "false", 1);
        Edge.unchanged(SOME, ACTS, "lead(1,true)", "false", 1);
        Edge.unchanged(SOME, ACTS, "lead(1,false)", "false", 1);
        Edge.unchanged(SOME, ACTS, "lead(3,true)", "NoSuch", -1);
    }

    private static void temper() {
        Edge.sentence("TEMPER of one is another number (0 to 9)");
        Edge.due(SOME, "temper(0,0)=2 house(0,2)=0 temper(0,9)=0 house(0,2)=9 temper(0,10)=-1 temper(0,-1)=-1 house(0,2)=9 house(1,2)=5 count(8)=2 count(12)=2");
        Edge.sentence("TEMPER is another number: as it was. NONE (STATUS 1): not 0 to 9, SEALED.");
        for (String temper : new String[] {"-1", "10", "MIN", "MAX"}) {
            Edge.unchanged(SOME, ACTS, "temper(0," + temper + ")", "-1", 1);
        }
        for (String temper : new String[] {"0", "5", "9", "10"}) {
            Edge.unchanged(SOME, ACTS, "temper(1," + temper + ")", "-1", 1);
        }
        Edge.unchanged(SOME, ACTS, "temper(3,10)", "NoSuch", -1);
    }

    private static void undo() {
        Edge.sentence("The last ACT is UNDONE: how many are left. NONE: there is none.");
        Edge.unchanged(SOME, "see(0,0,1,true) image() ", "undo()", "-1", -1);
        Edge.unchanged(SOME, "quarters(3) image() undo() ", "undo()", "-1", -1);
        // Refused calls, and questions, are no acts.
        Edge.due(SOME, "quarters(21)=-1 buy(0,0)=-1 then(0,1)=0 see(0,0,1,true)=1 forget()=- image()=- restore()=true years(1,0,2)=148 count(8)=0 undo()=-1");
        // What is seen, STATUS and the tape are no part of what is undone.
        Edge.due(SOME, "quarters(2)=2 see(0,0,1,true)=1 quarters(0)=-1 feed(0,0,0,0,0)=20 undo()=0 count(9)=1 count(12)=1 count(10)=20 count(3)=0");
        // An act behind an undone one comes in its place.
        Edge.due(SOME, "temper(0,4)=2 temper(0,5)=4 undo()=1 temper(0,6)=4 count(8)=2 undo()=1 house(0,2)=4 undo()=0 house(0,2)=2 undo()=-1");
    }
}
