import java.lang.management.ManagementFactory;

/** All calls of a run live in one room: no call makes anything but its exception, and a new object is small. */
public final class RoomTest {
    private static final com.sun.management.ThreadMXBean THREADS = (com.sun.management.ThreadMXBean) ManagementFactory.getThreadMXBean();
    private static final String TEXT = "house 9 8 5 1;".repeat(8) + "tenant 3 2 1 30;".repeat(7) + "likes chops*3+(held-cats)*2;sleeps 30<age;";

    public static void main(String[] args) {
        DogLeases x = new DogLeases();
        for (int i = 0; i < 30; i++) {
            useAll(x);
        }
        long before = made();
        useAll(x);
        long calls = made() - before;
        before = made();
        DogLeases y = new DogLeases();
        long object = made() - before;
        // Texts and bytes of the test itself are made while a text is fed.
        Due.same("room of all calls is small: " + calls, true, () -> calls < 8000);
        Due.same("room of an object is small: " + object, true, () -> object < 60000);
        Due.same("and it is used", 0, () -> y.count(0));
        quickEnough();
        Due.end();
    }

    private static long made() {
        return THREADS.getThreadAllocatedBytes(Thread.currentThread().getId());
    }

    private static void useAll(DogLeases x) {
        Due.tell(x, TEXT);
        for (int i = 0; i < 20; i++) {
            x.quarters(1);
            x.buy(0, 1);
            x.cats(1, i % 4);
            x.lead(i % 8, true);
            x.temper(i % 8, i % 10);
            x.see(i % 7, i % 8, 1 + i % 12, i % 2 == 0);
            x.then(i % 8, 40);
            x.purse(i % 7, 40, 0);
            x.sealed(i % 8);
            x.gets(i % 7, i % 8);
            x.loses(i % 8);
            x.most(40);
            x.row(i % 7, 0);
            x.empty(40);
            x.liking(i % 8, i % 7);
            x.leastChops(i % 7, i % 8);
            x.toWin(i % 7, 0);
            x.ruin(i % 7);
            x.share(i % 8, 3);
            x.beside(i % 7);
            x.oldest(0);
            x.envy(i % 7);
            x.pockets(0);
            x.look(0);
            x.game(i % 7, (i + 1) % 7, 0);
            x.years(i, 40, 0);
            x.image();
            x.undo();
            x.restore();
            x.forget();
            x.count(5);
            x.house(i % 8, 7);
            x.tenant(i % 7, 4);
            x.fault();
        }
    }

    /** The dearest calls that a run can have: all of its 512 over the longest rules. */
    private static void quickEnough() {
        String terms = "+chops*3-cats*temper+held".repeat(18);
        DogLeases x = Due.of("house 9 0 5 5;".repeat(8) + "tenant 3 2 1 0;".repeat(7) + "likes chops" + terms.substring(0, 450) + ";");
        for (int i = 0; i < 8; i++) {
            x.see(i % 7, i, 12, false);
        }
        for (int i = 0; i < 60; i++) {
            x.look(1);
        }
    }
}
