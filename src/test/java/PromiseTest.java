import java.io.IOException;
import java.nio.file.Files;
import java.nio.file.Path;
import java.util.ArrayList;
import java.util.List;
import java.util.regex.Matcher;
import java.util.regex.Pattern;

/** The document's promises in their order, each with ordinary inputs, edges and wrong inputs: the whole class at a glance, on one terrace. */
public final class PromiseTest {
    /*
     * Reckoned by hand, by the default rules (chops thrice and 'held', less cats by temper; a butcher 2 more):
     *            house 0            house 1            house 2            house 3   coins       chops
     * quarter 0  11 8 7, has 0      5 8 1, has 1       0 5 -9, has 1      sealed    42 36 55    4 0 5
     * quarter 1  12 2 13, has 2     sealed             3 3 -6, has 0                62 36 67    4 0 6
     * quarter 2  11 2 17, has 2                        4 2 -3, has 0                82 36 79    4 0 7
     */
    private static final String TEXT = "corner 12 3 1 1; house 7 8 4 0; house 20 0 9 2; house 5 27 2 0; "
        + "tenant 4 1 1 30; butcher 2 0 0 9; tenant 3 2 2 55; life 10;";
    /** The tenant has the house for as many quarters as there are chops. */
    private static final String LASTS = "house 0 0 0 0; tenant 5 0 0 0; likes chops;";

    private static final List<String> TESTED = new ArrayList<>();

    public static void main(String[] args) throws IOException {
        aNewObject();
        feed();
        terrace();
        fault();
        count();
        house();
        tenant();
        quarters();
        buy();
        cats();
        lead();
        temper();
        undo();
        then();
        purse();
        sealed();
        gets();
        loses();
        most();
        row();
        empty();
        liking();
        leastChops();
        toWin();
        ruin();
        share();
        beside();
        oldest();
        envy();
        see();
        pockets();
        look();
        forget();
        game();
        years();
        image();
        restore();
        Due.same("all promises of the document, in its order", promisesOfTheDocument(), () -> TESTED);
        Due.end();
    }

    private static void promise(int number, String name) {
        TESTED.add(number + ": " + name);
        Edge.sentence("## Promise " + number + ": " + name);
    }

    private static List<String> promisesOfTheDocument() throws IOException {
        List<String> all = new ArrayList<>();
        Matcher m = Pattern.compile("(?m)^## Promise (\\d+: .*)$").matcher(Files.readString(Path.of("../shared/DOC.md")));
        while (m.find()) {
            all.add(m.group(1));
        }
        return all;
    }

    private static void aNewObject() {
        promise(1, "A new object");
        Edge.due(new DogLeases(), "count(0)=0 count(1)=0 count(2)=40 count(3)=0 count(4)=0 count(5)=0 count(6)=0 count(7)=0 count(8)=0 count(9)=0 count(10)=0 count(11)=0 count(12)=0 count(13)=0");
        Edge.due(new DogLeases(), "fault()=-1 undo()=-1 restore()=false house(0,0)=NoSuch tenant(0,0)=NoSuch");
        Due.same("NONE", -1, () -> DogLeases.NONE);
    }

    private static void feed() {
        promise(2, "feed");
        // "life 7;" of which each number's highest byte comes first; then bytes above 127, which are no signs.
        DogLeases x = new DogLeases();
        Edge.due(x, "feed(1818846821,540490528,538976288,538976288,538976288)=20 count(10)=20 terrace(7)=0 count(2)=7");
        Edge.due(x, "feed(-1,-1,-1,-1,-1)=20 feed(0,0,0,0,0)=40 terrace(40)=1 fault()=0");
        for (int size = 20; size <= 700; size += 20) {
            Edge.due(x, "feed(538976288,538976288,538976288,538976288,538976288)=" + size);
        }
        Edge.due(x, "feed(1,2,3,4,5)=-1 count(10)=700 feed(1,2,3,4,5)=-1 terrace(700)=0 count(10)=0");
    }

    private static void terrace() {
        promise(3, "terrace");
        DogLeases x = Edge.of(TEXT);
        Edge.due(x, "count(0)=4 count(1)=3 count(2)=10 count(10)=0 quarters(2)=2 see(0,0,1,true)=1 image()=- terrace(1)=Illegal terrace(-1)=Illegal terrace(MAX)=Illegal count(11)=0 fault()=-1");
        Due.same("a fault", 1, () -> Due.tell(x, "house 1 1 1 1"));
        Edge.due(x, "count(11)=1 count(10)=0 count(0)=4 count(3)=2 count(8)=1 count(9)=1 house(0,4)=2 restore()=true");
        Due.same("all anew", 0, () -> Due.tell(x, "house 1 1 1 1;"));
        Edge.due(x, "count(0)=1 count(1)=0 count(2)=40 count(3)=0 count(8)=0 count(9)=0 count(10)=0 fault()=-1 restore()=false undo()=-1");
        // Of a longer tape the first bytes alone are told, and nothing of it is left.
        Edge.due(x, "feed(1818846821,540490528,538976288,538976288,538976288)=20 terrace(8)=0 count(2)=7 count(10)=0 feed(1818846821,540490528,538976288,538976288,538976288)=20 terrace(6)=1 fault()=6");
    }

    private static void fault() {
        promise(4, "fault");
        Edge.fine(TEXT);
        Edge.fault("  life 5; lif 6;", 1, 10);
        Edge.fault("house 1 2 3;", 1, 11);
        Edge.fault("house 1 2 3 ", 1, 12);
        Edge.fault("house 1 2 3 6;", 2, 12);
        Edge.fault("likes 12345;", 2, 6);
        Edge.fault("likes ((((((1", 2, 12);
        Edge.fault("likes not not not not not not not", 2, 30);
        Edge.fault("sleeps age+chops;", 3, 11);
        Edge.fault("life 5;life 5;", 5, 7);
        DogLeases x = new DogLeases();
        Due.same("a fault", 1, () -> Due.tell(x, "life x;"));
        // A refused call is no text: the place stays until the next one.
        Edge.due(x, "fault()=5 fault()=5 terrace(-1)=Illegal fault()=5 quarters(1)=1 fault()=5 terrace(0)=0 fault()=-1");
    }

    private static void count() {
        promise(5, "count");
        DogLeases x = Edge.of(TEXT);
        Edge.due(x, "count(3)=0 count(4)=0 count(5)=15 count(7)=94 quarters(1)=1 lead(2,true)=true see(0,0,1,true)=1 see(0,0,2,true)=2 see(0,0,3,false)=3 feed(0,0,0,0,0)=20");
        Edge.due(x, "count(0)=4 count(1)=3 count(2)=10 count(3)=1 count(4)=8 count(5)=8 count(6)=4 count(7)=133 count(8)=2 count(9)=3 count(10)=20");
        Edge.due(x, "quarters(0)=-1 quarters(0)=-1 see(0,0,0,true)=-1 see(0,0,0,true)=-1 see(0,0,0,true)=-1 terrace(20)=1 count(11)=1 count(12)=2 count(13)=3 count(10)=0");
        Edge.due(x, "count(-1)=NoSuch count(14)=NoSuch count(MIN)=NoSuch count(MAX)=NoSuch");
    }

    private static void house() {
        promise(6, "house");
        DogLeases x = Edge.of(TEXT);
        Edge.due(x, "house(0,0)=12 house(0,1)=3 house(0,2)=1 house(0,3)=1 house(0,4)=-1 house(0,5)=0 house(0,6)=1 house(0,7)=0 house(1,0)=7 house(1,6)=0 house(2,2)=9 house(2,3)=2 house(3,1)=27");
        Edge.due(x, "quarters(3)=3 house(0,1)=6 house(0,4)=2 house(0,5)=2 house(1,4)=-1 house(1,5)=0 house(1,7)=0 house(2,1)=3 house(2,4)=0 house(2,5)=2");
        Edge.due(x, "house(-1,0)=NoSuch house(4,0)=NoSuch house(0,-1)=NoSuch house(0,8)=NoSuch");
        Edge.due("house 0 29 0 0;house 0 30 0 0;", "house(0,7)=0 house(1,7)=1 quarters(1)=1 house(0,7)=1");
        Edge.due("house 9 0 4 0;house 3 0 5 0;sleeps temper-4;", "house(0,7)=0 house(1,7)=1");
        Edge.due("house 9 0 0 0;house 9 9 0 0;life 10;sleeps 1;", "house(1,7)=1 quarters(1)=1 house(0,7)=1 house(1,7)=0");
    }

    private static void tenant() {
        promise(7, "tenant");
        DogLeases x = Edge.of(TEXT);
        Edge.due(x, "tenant(0,0)=4 tenant(0,1)=1 tenant(0,2)=1 tenant(0,3)=30 tenant(0,4)=0 tenant(0,5)=0 tenant(1,0)=2 tenant(1,1)=0 tenant(1,2)=0 tenant(1,3)=9 tenant(1,5)=1 tenant(2,1)=2 tenant(2,2)=2");
        Edge.due(x, "quarters(1)=1 tenant(0,4)=1 tenant(1,4)=6 tenant(2,4)=0 tenant(0,0)=4 tenant(1,0)=0 tenant(2,0)=5 tenant(0,3)=42 tenant(1,3)=36 tenant(2,3)=55");
        Edge.due(x, "tenant(-1,0)=NoSuch tenant(3,0)=NoSuch tenant(0,-1)=NoSuch tenant(0,6)=NoSuch");
    }

    private static void quarters() {
        promise(8, "quarters");
        DogLeases x = Edge.of(TEXT);
        Edge.due(x, "quarters(1)=1 quarters(2)=3 count(7)=197 count(8)=2 quarters(0)=-1 quarters(21)=-1 quarters(-1)=-1 quarters(MAX)=-1 count(12)=4 count(3)=3 count(8)=2");
        for (int quarter = 23; quarter <= 983; quarter += 20) {
            Edge.due(x, "quarters(20)=" + quarter);
        }
        Edge.due(x, "quarters(17)=-1 quarters(16)=999 quarters(1)=-1 count(3)=999 count(12)=6");
    }

    private static void buy() {
        promise(9, "buy");
        DogLeases x = Edge.of(TEXT);
        Edge.due(x, "buy(0,3)=7 tenant(0,3)=21 tenant(0,0)=7 buy(1,4)=-1 buy(1,3)=5 tenant(1,3)=0 buy(1,1)=-1 buy(2,9)=12 tenant(2,3)=28 buy(2,9)=20 tenant(2,3)=1");
        Edge.due(x, "buy(0,0)=-1 buy(0,10)=-1 buy(0,MIN)=-1 count(12)=5 count(8)=4 buy(3,1)=NoSuch buy(-1,0)=NoSuch count(12)=5");
    }

    private static void cats() {
        promise(10, "cats");
        DogLeases x = Edge.of(TEXT);
        Edge.due(x, "cats(2,0)=2 tenant(2,2)=0 liking(2,2)=9 cats(2,3)=0 tenant(2,2)=3 liking(2,2)=-18 cats(2,3)=3 count(8)=3");
        Edge.due(x, "cats(2,4)=-1 cats(2,-1)=-1 tenant(2,2)=3 count(12)=2 cats(3,0)=NoSuch cats(-1,9)=NoSuch count(12)=2");
    }

    private static void lead() {
        promise(11, "lead");
        DogLeases x = Edge.of(TEXT);
        Edge.due(x, "lead(0,false)=false lead(0,true)=true lead(0,true)=false count(6)=1 then(0,1)=-1 then(0,2)=2 lead(0,false)=true then(0,1)=0 count(8)=2 count(12)=2");
        Edge.due(x, "lead(2,true)=true quarters(1)=1 house(2,4)=-1 count(6)=0 count(4)=8 lead(3,true)=false lead(3,false)=false count(12)=4 lead(4,true)=NoSuch lead(-1,false)=NoSuch");
    }

    private static void temper() {
        promise(12, "temper");
        DogLeases x = Edge.of(TEXT);
        // Without temper house 2 likes by chops alone: 9, 5, 9.
        Edge.due(x, "temper(2,0)=9 then(2,1)=0 house(2,2)=0 temper(2,9)=0 then(2,1)=1 temper(2,9)=9 count(8)=3 temper(2,10)=-1 temper(2,-1)=-1 house(2,2)=9 count(12)=2");
        Edge.due(x, "quarters(1)=1 temper(3,5)=-1 house(3,2)=2 count(12)=3 temper(4,0)=NoSuch temper(-1,99)=NoSuch count(12)=3");
    }

    private static void undo() {
        promise(13, "undo");
        DogLeases x = Edge.of(TEXT);
        Edge.due(x, "buy(0,3)=7 cats(0,3)=1 temper(0,8)=1 lead(1,true)=true quarters(2)=2 count(8)=5 undo()=4 count(3)=0 count(4)=0 count(6)=2 undo()=3 count(6)=0 undo()=2 house(0,2)=1");
        Edge.due(x, "undo()=1 tenant(0,2)=1 undo()=0 tenant(0,0)=4 tenant(0,3)=30 undo()=-1 count(12)=0");
    }

    private static void then() {
        promise(14, "then");
        DogLeases x = Edge.of(TEXT);
        Edge.due(x, "then(0,0)=-1 then(0,1)=0 then(0,2)=2 then(0,3)=2 then(1,1)=1 then(1,2)=-1 then(2,1)=1 then(2,2)=0 then(2,3)=0 then(3,1)=-1 then(1,40)=-1 count(3)=0");
        Edge.due(x, "then(0,-1)=Illegal then(0,41)=Illegal then(4,1)=NoSuch then(-1,1)=NoSuch then(4,41)=NoSuch");
    }

    private static void purse() {
        promise(15, "purse");
        DogLeases x = Edge.of(TEXT);
        Edge.due(x, "purse(0,0,0)=30 purse(0,1,0)=42 purse(0,2,0)=62 purse(0,3,0)=82 purse(1,3,0)=36 purse(2,2,0)=67 purse(2,3,0)=79 purse(2,0,1)=3 purse(2,1,1)=5 purse(2,2,1)=6 purse(1,1,1)=0");
        Edge.due(x, "purse(0,-1,0)=Illegal purse(0,41,1)=Illegal purse(3,1,0)=NoSuch purse(-1,1,0)=NoSuch purse(0,1,2)=NoSuch purse(0,1,-1)=NoSuch purse(0,41,2)=NoSuch purse(3,41,0)=NoSuch");
    }

    private static void sealed() {
        promise(16, "sealed");
        DogLeases x = Edge.of(TEXT);
        // In a corner a dog and a pup live twice ten: 17 and 20; in house 2 a dog and two pups ten each.
        Edge.due(x, "sealed(0)=37 sealed(1)=2 sealed(2)=30 sealed(3)=1 quarters(1)=1 sealed(3)=0 sealed(1)=1 sealed(0)=36 sealed(4)=NoSuch sealed(-1)=NoSuch");
        Edge.due("corner 0 1 0 0; corner 0 0 0 0; life 50;", "sealed(0)=99 sealed(1)=-1 quarters(1)=1 sealed(1)=99");
    }

    private static void gets() {
        promise(17, "gets");
        DogLeases x = Edge.of(TEXT);
        Edge.due(x, "gets(0,0)=1 gets(2,0)=2 gets(1,1)=1 gets(1,2)=1 gets(0,2)=2 gets(0,1)=-1 gets(2,3)=-1 quarters(1)=1 gets(0,0)=0 gets(2,0)=1 gets(1,2)=0");
        Edge.due(x, "gets(3,0)=NoSuch gets(0,4)=NoSuch gets(-1,-1)=NoSuch");
        Edge.due("house 0 0 0 0; tenant 0 0 0 0; life 99; sleeps 0; likes quarter=39;", "gets(0,0)=40");
        Edge.due("house 0 0 0 0; tenant 0 0 0 0; life 99; sleeps 0; likes quarter=40;", "gets(0,0)=-1 quarters(1)=1 gets(0,0)=40");
    }

    private static void loses() {
        promise(18, "loses");
        DogLeases x = Edge.of(TEXT);
        Edge.due(x, "loses(0)=-1 quarters(1)=1 loses(0)=1 loses(1)=1 loses(2)=1 loses(3)=-1 loses(4)=NoSuch loses(-1)=NoSuch");
        Edge.due(LASTS, "loses(0)=-1 quarters(1)=1 loses(0)=5 quarters(4)=5 loses(0)=1 quarters(1)=6 loses(0)=-1");
        Edge.due("house 0 0 0 0; tenant 0 0 0 0; life 99; sleeps 0; likes quarter<40;", "quarters(1)=1 loses(0)=40");
        Edge.due("house 0 0 0 0; tenant 0 0 0 0; life 99; sleeps 0; likes quarter<41;", "quarters(1)=1 loses(0)=-1");
    }

    private static void most() {
        promise(19, "most");
        // Tenant 1 has two houses; then tenants 0 and 2 have one each.
        Edge.due(TEXT, "most(0)=-1 most(1)=1 most(2)=0 most(3)=0 quarters(1)=1 most(0)=1 most(-1)=Illegal most(41)=Illegal");
        Edge.due(new DogLeases(), "most(0)=-1 most(40)=-1 most(41)=Illegal");
    }

    private static void row() {
        promise(20, "row");
        Edge.due(TEXT, "row(1,0)=0 row(1,1)=-1 quarters(1)=1 row(1,0)=2 row(1,1)=1 row(0,0)=1 row(0,1)=0 row(2,0)=0 row(2,1)=-1 row(0,2)=NoSuch row(0,-1)=NoSuch row(3,0)=NoSuch row(-1,1)=NoSuch");
        String six = "house 0 0 0 0; house 0 0 0 0; house 0 0 1 0; house 0 0 0 0; house 0 0 0 0; house 0 0 1 0; tenant 0 0 0 0; likes temper=0;";
        Edge.due(six, "quarters(1)=1 tenant(0,4)=27 row(0,0)=2 row(0,1)=0 temper(5,0)=1 quarters(1)=2 row(0,0)=3 row(0,1)=3");
    }

    private static void empty() {
        promise(21, "empty");
        Edge.due(TEXT, "empty(0)=15 empty(1)=8 empty(2)=10 empty(3)=10 empty(-1)=Illegal empty(41)=Illegal");
        Edge.due(new DogLeases(), "empty(40)=0");
    }

    private static void liking() {
        promise(22, "liking");
        DogLeases x = Edge.of(TEXT);
        Edge.due(x, "liking(0,0)=11 liking(0,1)=8 liking(0,2)=7 liking(1,0)=8 liking(2,2)=-9 liking(3,0)=10 quarters(1)=1 liking(0,0)=12 liking(0,2)=13 liking(2,1)=3 liking(3,0)=0 liking(3,1)=0");
        Edge.due(x, "liking(4,0)=NoSuch liking(0,3)=NoSuch liking(-1,0)=NoSuch liking(0,-1)=NoSuch");
        Edge.due("house 8 0 0 0; tenant 0 0 0 0; butcher 0 0 0 0; likes rent*1000;", "liking(0,0)=999 liking(0,1)=1001");
        Edge.due("house 8 0 0 0; tenant 0 0 0 0; butcher 0 0 0 0; likes 0-rent*1000;", "liking(0,0)=-999 liking(0,1)=-997");
    }

    private static void leastChops() {
        promise(23, "leastChops");
        // House 0: 3 by 3 less 1 is 8, as much as tenant 1's; 3 by 4 and 2 is above 11; so is 3 by 5 less 2.
        Edge.due(TEXT, "leastChops(0,0)=3 leastChops(1,0)=4 leastChops(2,0)=5 leastChops(0,3)=-1 tenant(0,0)=4 leastChops(3,0)=NoSuch leastChops(0,4)=NoSuch leastChops(-1,0)=NoSuch leastChops(0,-1)=NoSuch");
        Edge.due("house 0 0 0 0; tenant 0 0 0 0; likes 20-chops;", "leastChops(0,0)=0");
        Edge.due("house 0 0 0 0; tenant 0 0 0 0; likes 19<chops;", "leastChops(0,0)=20");
        Edge.due("house 0 0 0 0; tenant 0 0 0 0; likes 20<chops;", "leastChops(0,0)=-1");
    }

    private static void toWin() {
        promise(24, "toWin");
        // Tenant 0 by 3 has house 0, by 5 house 1, by 8 house 2; tenant 2 by 5, 7 and 11.
        Edge.due(TEXT, "toWin(0,0)=3 toWin(0,1)=8 toWin(2,0)=3 toWin(2,1)=11 toWin(0,2)=NoSuch toWin(0,-1)=NoSuch toWin(3,0)=NoSuch toWin(-1,1)=NoSuch tenant(0,0)=4");
        Edge.due("tenant 9 0 0 0;", "toWin(0,0)=0 toWin(0,1)=0");
        Edge.due("house 0 0 0 0; tenant 0 0 0 0; likes 19<chops;", "toWin(0,0)=1 toWin(0,1)=20");
    }

    private static void ruin() {
        promise(25, "ruin");
        // Of houses 1 and 2 tenant 1 keeps house 2 alone, if tenant 0 has no cat (9 above 8 for house 1), and so if tenant 2 has none.
        DogLeases x = Edge.of(TEXT);
        Edge.due(x, "ruin(0)=-1 ruin(1)=0 ruin(2)=-1 tenant(0,2)=1 tenant(2,2)=2 ruin(3)=NoSuch ruin(-1)=NoSuch");
        // When tenant 0 has none, house 1 is that one's anyway, and house 2 would be tenant 2's (9 above 8); then it is.
        Edge.due(x, "cats(0,0)=1 ruin(1)=2 cats(2,0)=2 then(2,1)=2 ruin(1)=-1");
    }

    private static void share() {
        promise(26, "share");
        DogLeases x = Edge.of(TEXT);
        // Likings are 11 8 7, 8 8 1, 3 8 -9, 10 8 5: by one each 10 and 8 and 7, and house 1 is less than house 2 as bits.
        Edge.due(x, "share(-1,1)=25 share(0,1)=2 share(1,1)=1 share(2,1)=-1 share(3,1)=0 share(-1,2)=37 share(0,2)=0 share(1,2)=1 share(2,2)=1 share(3,2)=0 share(-1,8)=37 share(1,8)=1");
        Edge.due(x, "share(-1,0)=Illegal share(0,9)=Illegal share(4,1)=NoSuch share(-2,1)=NoSuch share(4,0)=NoSuch quarters(1)=1 share(3,8)=-1");
        Edge.due(new DogLeases(), "share(-1,1)=0 share(0,1)=NoSuch share(-1,9)=Illegal");
    }

    private static void beside() {
        promise(27, "beside");
        // House 3 is next to tenant 1's house 2, but sealed.
        Edge.due(TEXT, "beside(0)=0 quarters(1)=1 beside(0)=2 beside(1)=1 beside(2)=0 quarters(1)=2 beside(0)=0 beside(2)=0 beside(3)=NoSuch beside(-1)=NoSuch");
    }

    private static void oldest() {
        promise(28, "oldest");
        Edge.due(TEXT, "oldest(0)=3 oldest(1)=1 quarters(1)=1 oldest(0)=1 oldest(1)=1 quarters(1)=2 oldest(0)=2 oldest(1)=8 oldest(2)=NoSuch oldest(-1)=NoSuch");
        Edge.due("house 0 5 0 0; house 0 7 0 5; house 0 7 0 0; life 9;", "oldest(0)=1 oldest(1)=2");
        Edge.due("house 0 7 0 0; house 0 7 0 0; corner 0 15 0 0; life 9;", "oldest(0)=0 oldest(1)=2");
        Edge.due(new DogLeases(), "oldest(0)=-1 oldest(1)=-1");
    }

    private static void envy() {
        promise(29, "envy");
        // Behind quarter 0 likings are 12 2 13 (tenant 0's), 8 3 7 and 3 3 -3 (tenant 1's).
        Edge.due(TEXT, "envy(0)=0 quarters(1)=1 envy(0)=2 envy(1)=0 envy(2)=3 envy(3)=NoSuch envy(-1)=NoSuch");
    }

    private static void see() {
        promise(30, "see");
        DogLeases x = Edge.of(TEXT);
        Edge.due(x, "see(2,0,1,true)=1 see(1,1,12,false)=2 see(0,0,0,true)=-1 see(0,0,13,true)=-1 count(13)=2 see(3,0,1,true)=NoSuch see(0,4,1,true)=NoSuch see(-1,0,0,true)=NoSuch count(13)=2 count(9)=2");
        Edge.due(x, "see(0,0,1,true)=3 see(0,0,1,true)=4 see(0,0,1,true)=5 see(0,0,1,true)=6 see(0,0,1,true)=7 see(0,0,1,true)=8 see(0,0,1,true)=-1 see(0,4,1,true)=NoSuch count(9)=8 count(13)=3 count(8)=0");
    }

    private static void pockets() {
        promise(31, "pockets");
        DogLeases x = Edge.of(TEXT);
        // Tenant 2 has house 0 by 5 chops or more, house 1 too by 7 or more, and by no other one's chops.
        Edge.due(x, "pockets(0)=60 pockets(1)=0 pockets(2)=1 see(2,0,1,true)=1 pockets(0)=16 pockets(1)=205 pockets(2)=0 see(2,1,1,true)=2 pockets(0)=14 pockets(1)=207");
        Edge.due(x, "see(2,1,1,false)=3 pockets(0)=0 pockets(1)=-1 pockets(2)=0 forget()=- see(0,0,1,true)=1 pockets(2)=1 pockets(3)=NoSuch pockets(-1)=NoSuch");
    }

    private static void look() {
        promise(32, "look");
        DogLeases x = Edge.of(TEXT);
        // By 5 and 6 chops of tenant 2 house 1 is tenant 0's, by more tenant 2's; house 2 is tenant 1's, or tenant 2's by 11 or more.
        Edge.due(x, "see(2,0,1,true)=1 look(0)=1 look(1)=2 see(2,1,1,true)=2 look(0)=2 look(1)=2 see(2,2,1,true)=3 pockets(0)=10 look(0)=0 look(1)=1");
        Edge.due(x, "see(2,2,1,false)=4 look(0)=-1 look(1)=0 look(2)=NoSuch look(-1)=NoSuch");
        // By no chops the house is nobody's, which is one too; there are five, which is no pocket.
        Edge.due(LASTS, "look(0)=0 look(1)=2 see(0,0,1,true)=1 look(1)=1 forget()=- see(0,0,5,true)=1 see(0,0,6,false)=2 pockets(2)=1 look(0)=-1");
        Edge.due(new DogLeases(), "look(0)=-1 look(1)=0");
    }

    private static void forget() {
        promise(33, "forget");
        Edge.due(TEXT, "see(2,0,1,true)=1 see(2,0,13,true)=-1 quarters(1)=1 forget()=- count(9)=0 pockets(0)=60 count(13)=1 count(8)=1 see(0,0,1,true)=1 forget()=- forget()=- count(9)=0");
    }

    private static void game() {
        promise(34, "game");
        DogLeases x = Edge.of(TEXT);
        // Gains by 00, 01, 10, 11: 6 13 20 19 of tenant 0; 21 20 13 20 of tenant 1: only 11 rests.
        Edge.due(x, "game(0,1,0)=1 game(0,1,1)=11 game(1,0,0)=1 game(1,0,1)=11 game(0,0,0)=Illegal game(0,1,2)=NoSuch game(0,1,-1)=NoSuch game(0,0,2)=NoSuch");
        Edge.due(x, "game(3,0,0)=NoSuch game(0,3,0)=NoSuch game(-1,-1,0)=NoSuch game(3,3,1)=NoSuch tenant(0,0)=4 tenant(0,2)=1");
        // 33 33 20 27 of tenant 1; -6 0 6 0 of tenant 2.
        Edge.due(x, "game(1,2,0)=1 game(1,2,1)=1 game(2,1,0)=1 game(2,1,1)=10");
        Edge.due("house 10 0 0 0; tenant 1 0 0 0; tenant 1 0 0 0; likes chops;", "game(0,1,0)=0 game(0,1,1)=-1");
        // Chops are worth their 6 for 7 of rent, not for 5; for 6 both choices are like ones.
        Edge.due("house 7 0 1 0; house 5 0 2 0; tenant 0 0 0 1; tenant 0 0 0 2; likes (coins=temper)*(2<chops);", "game(0,1,0)=1 game(0,1,1)=1 game(1,0,1)=10");
        Edge.due("house 6 0 1 0; house 6 0 2 0; tenant 0 0 0 1; tenant 0 0 0 2; likes (coins=temper)*(2<chops);", "game(0,1,0)=4 game(0,1,1)=0");
    }

    private static void years() {
        promise(35, "years");
        DogLeases x = Edge.of(TEXT);
        // By seed 5 house 3 is led, tenant 0 has 11 chops and houses 0 to 2; then house 1 is led (and sealed), tenant 2 has 8, and nothing else moves.
        Edge.due(x, "years(5,0,0)=0 years(5,0,1)=0 years(5,0,2)=94 years(5,1,0)=3 years(5,1,1)=1 years(5,1,2)=133 years(5,2,0)=4 years(5,2,1)=2 years(5,2,2)=165");
        // By seed -7 house 0 is led and tenant 1 has 14 chops, and houses 1 and 2.
        Edge.due(x, "years(-7,1,0)=2 years(-7,1,1)=1 years(-7,1,2)=121 count(3)=0 count(6)=0 tenant(1,0)=2");
        Edge.due(x, "years(5,-1,0)=Illegal years(5,41,0)=Illegal years(5,1,3)=NoSuch years(5,1,-1)=NoSuch years(5,41,3)=NoSuch years(5,40,1)=4");
        Edge.due("house 0 39 0 0;", "years(5,1,1)=1 years(5,40,0)=0");
    }

    private static void image() {
        promise(36, "image");
        Edge.due(TEXT, "image()=- quarters(1)=1 buy(0,1)=5 image()=- quarters(1)=2 restore()=true count(3)=1 tenant(0,0)=5 count(8)=2 undo()=1 tenant(0,0)=4 restore()=true count(8)=2");
    }

    private static void restore() {
        promise(37, "restore");
        DogLeases x = Edge.of(TEXT);
        Edge.due(x, "restore()=false lead(1,true)=true see(0,0,1,true)=1 quarters(0)=-1 image()=- quarters(3)=3 forget()=- quarters(0)=-1 see(0,0,0,true)=-1 feed(0,0,0,0,0)=20");
        Edge.due(x, "restore()=true count(3)=0 count(4)=0 count(6)=2 count(7)=94 count(8)=1 count(9)=1 count(10)=20 count(12)=1 count(13)=0 house(0,4)=-1 restore()=true");
        Edge.due(x, "terrace(20)=1 count(11)=1 restore()=true count(11)=0 terrace(0)=0 restore()=false");
    }
}
