import java.util.ArrayDeque;
import java.util.ArrayList;
import java.util.Arrays;
import java.util.Deque;
import java.util.HashSet;
import java.util.List;
import java.util.NoSuchElementException;
import java.util.Set;
import java.util.function.ToIntFunction;

/**
 * The document once more, in another way: by grammar, objects, copies and trying all, never by short cuts.
 * It is slow, makes many objects, and is there to be compared with.
 */
public final class Model {
    static final int NONE = -1;

    static final class House {
        int rent, age, temper, pups, owner = NONE, held;
        boolean corner, led, sealed;
        /** How many dogs of this house were buried so far. */
        int buried;

        House copy() {
            House h = new House();
            h.rent = rent;
            h.age = age;
            h.temper = temper;
            h.pups = pups;
            h.owner = owner;
            h.held = held;
            h.corner = corner;
            h.led = led;
            h.sealed = sealed;
            h.buried = buried;
            return h;
        }
    }

    static final class Tenant {
        int chops, wage, cats, coins;
        boolean butcher;

        Tenant copy() {
            Tenant t = new Tenant();
            t.chops = chops;
            t.wage = wage;
            t.cats = cats;
            t.coins = coins;
            t.butcher = butcher;
            return t;
        }
    }

    /** What a rule may ask for. */
    record Told(World before, World now, int house, int tenant) {
        int value(String word) {
            House h = now.houses.get(house);
            switch (word) {
                case "age": return h.age;
                case "temper": return h.temper;
                case "quarter": return now.quarter;
                case "rent": return h.rent;
                case "chops": return now.tenants.get(tenant).chops;
                case "cats": return now.tenants.get(tenant).cats;
                case "coins": return now.tenants.get(tenant).coins;
                case "held": return before.houses.get(house).owner == tenant ? before.houses.get(house).held : 0;
                case "houses": return before.of(tenant).size();
                case "beside": return (int) before.of(tenant).stream().filter(o -> Math.abs(o - house) == 1).count();
                default: throw new AssertionError(word);
            }
        }
    }

    static final class World {
        List<House> houses = new ArrayList<>();
        List<Tenant> tenants = new ArrayList<>();
        int life = 40, quarter;
        ToIntFunction<Told> likes, sleeps;

        World copy() {
            World w = new World();
            houses.forEach(h -> w.houses.add(h.copy()));
            tenants.forEach(t -> w.tenants.add(t.copy()));
            w.life = life;
            w.quarter = quarter;
            w.likes = likes;
            w.sleeps = sleeps;
            return w;
        }

        List<Integer> of(int tenant) {
            List<Integer> all = new ArrayList<>();
            for (int h = 0; h < houses.size(); h++) {
                if (houses.get(h).owner == tenant) {
                    all.add(h);
                }
            }
            return all;
        }

        int bits(int tenant) {
            return of(tenant).stream().mapToInt(h -> 1 << h).sum();
        }

        int liking(World before, int h, int t) {
            Told told = new Told(before, this, h, t);
            long much = likes != null ? likes.applyAsInt(told)
                : 3L * told.value("chops") + told.value("held") - told.value("cats") * told.value("temper");
            much = much > 999 ? 999 : much < -999 ? -999 : much;
            return (int) much + (tenants.get(t).butcher ? 2 : 0);
        }

        int likingNow(int h, int t) {
            return houses.get(h).sealed ? 0 : liking(this, h, t);
        }

        boolean asleep(int h) {
            return sleeps == null ? houses.get(h).age >= 30 : sleeps.applyAsInt(new Told(this, this, h, NONE)) > 0;
        }

        void pass() {
            World before = copy();
            for (House h : houses) {
                if (h.sealed) {
                    continue;
                }
                h.age++;
                if (h.age >= (h.corner ? 2 * life : life)) {
                    h.buried++;
                    if (h.pups > 0) {
                        h.pups--;
                        h.age = 0;
                    } else {
                        h.sealed = true;
                        h.owner = NONE;
                        h.held = 0;
                    }
                }
            }
            for (int i = 0; i < houses.size(); i++) {
                House h = houses.get(i);
                if (h.sealed) {
                    continue;
                }
                int who = NONE;
                if (!h.led && !asleep(i)) {
                    for (int t = 0; t < tenants.size(); t++) {
                        int much = liking(before, i, t);
                        if (much > 0 && (who == NONE || much > liking(before, i, who))) {
                            who = t;
                        }
                    }
                }
                h.held = who == NONE ? 0 : before.houses.get(i).owner == who ? before.houses.get(i).held + 1 : 1;
                h.owner = who;
                if (who != NONE && tenants.get(who).chops > 0) {
                    tenants.get(who).chops--;
                }
            }
            for (int t = 0; t < tenants.size(); t++) {
                Tenant one = tenants.get(t);
                for (int h : of(t)) {
                    one.coins += houses.get(h).rent;
                }
                one.coins = Math.min(one.coins, 9999);
                one.chops = Math.min(one.chops + one.wage, 20);
            }
            houses.forEach(h -> h.led = false);
            quarter++;
        }

        World behind(int quarters) {
            World w = copy();
            for (int i = 0; i < quarters; i++) {
                w.pass();
            }
            return w;
        }

        World withChops(int t, int chops) {
            World w = copy();
            w.tenants.get(t).chops = chops;
            return w;
        }
    }

    static final class Fault extends RuntimeException {
        private static final long serialVersionUID = 1L;
        final int kind, place;

        Fault(int kind, int place) {
            this.kind = kind;
            this.place = place;
        }
    }

    record Token(String text, int place) {
        boolean word() {
            return !text.isEmpty() && text.chars().allMatch(c -> c >= 'a' && c <= 'z');
        }

        boolean number() {
            return !text.isEmpty() && text.chars().allMatch(c -> c >= '0' && c <= '9');
        }
    }

    /** The grammar of the document, a method a rule. */
    static final class Grammar {
        static final Set<String> DOGS = Set.of("age", "temper", "quarter", "rent");
        static final Set<String> TENANTS = Set.of("chops", "cats", "coins", "held", "houses", "beside");
        final List<Token> tokens = new ArrayList<>();
        int at;
        final World world = new World();
        boolean hasLife;

        Grammar(String text) {
            java.util.regex.Matcher m = java.util.regex.Pattern.compile("[a-z]+|[0-9]+|[ \n]+|.", java.util.regex.Pattern.DOTALL).matcher(text);
            while (m.find()) {
                if (!m.group().matches("[ \n]+")) {
                    tokens.add(new Token(m.group(), m.start()));
                }
            }
            tokens.add(new Token("", text.length()));
        }

        Token peek() {
            return tokens.get(at);
        }

        boolean is(String... some) {
            return Arrays.asList(some).contains(peek().text);
        }

        Fault fault(int kind) {
            return new Fault(kind, peek().place);
        }

        void need(String sign) {
            if (!is(sign)) {
                throw fault(1);
            }
            at++;
        }

        World terrace() {
            while (!peek().text.isEmpty()) {
                line();
                need(";");
            }
            return world;
        }

        void line() {
            boolean special = is("corner", "butcher");
            if (is("house", "corner")) {
                if (world.houses.size() == 8) {
                    throw fault(2);
                }
                at++;
                House h = new House();
                world.houses.add(h);
                h.corner = special;
                h.rent = number(0, 99);
                h.age = number(0, 60);
                h.temper = number(0, 9);
                h.pups = number(0, 5);
            } else if (is("tenant", "butcher")) {
                if (world.tenants.size() == 7) {
                    throw fault(2);
                }
                at++;
                Tenant t = new Tenant();
                world.tenants.add(t);
                t.butcher = special;
                t.chops = number(0, 20);
                t.wage = number(0, 9);
                t.cats = number(0, 3);
                t.coins = number(0, 999);
            } else if (is("life")) {
                if (hasLife) {
                    throw fault(5);
                }
                hasLife = true;
                at++;
                world.life = number(1, 99);
            } else if (is("likes")) {
                if (world.likes != null) {
                    throw fault(5);
                }
                at++;
                world.likes = expr(0, true);
            } else if (is("sleeps")) {
                if (world.sleeps != null) {
                    throw fault(5);
                }
                at++;
                world.sleeps = expr(0, false);
            } else {
                throw fault(1);
            }
        }

        int number(int least, int most) {
            if (!peek().number()) {
                throw fault(1);
            }
            if (peek().text.length() > 4) {
                throw fault(2);
            }
            int n = Integer.parseInt(peek().text);
            if (n < least || n > most) {
                throw fault(2);
            }
            at++;
            return n;
        }

        ToIntFunction<Told> expr(int within, boolean tenant) {
            if (within == 6 && (peek().number() || peek().word() || is("("))) {
                throw fault(2);
            }
            ToIntFunction<Told> all = and(within, tenant);
            while (is("or")) {
                at++;
                ToIntFunction<Told> left = all, right = and(within, tenant);
                all = x -> left.applyAsInt(x) != 0 | right.applyAsInt(x) != 0 ? 1 : 0;
            }
            return all;
        }

        ToIntFunction<Told> and(int within, boolean tenant) {
            ToIntFunction<Told> all = not(within, tenant, 0);
            while (is("and")) {
                at++;
                ToIntFunction<Told> left = all, right = not(within, tenant, 0);
                all = x -> left.applyAsInt(x) != 0 & right.applyAsInt(x) != 0 ? 1 : 0;
            }
            return all;
        }

        ToIntFunction<Told> not(int within, boolean tenant, int nots) {
            if (is("not")) {
                if (nots == 6) {
                    throw fault(2);
                }
                at++;
                ToIntFunction<Told> inner = not(within, tenant, nots + 1);
                return x -> inner.applyAsInt(x) == 0 ? 1 : 0;
            }
            ToIntFunction<Told> left = sum(within, tenant);
            if (is("<")) {
                at++;
                ToIntFunction<Told> right = sum(within, tenant);
                return x -> left.applyAsInt(x) < right.applyAsInt(x) ? 1 : 0;
            }
            if (is("=")) {
                at++;
                ToIntFunction<Told> right = sum(within, tenant);
                return x -> left.applyAsInt(x) == right.applyAsInt(x) ? 1 : 0;
            }
            return left;
        }

        ToIntFunction<Told> sum(int within, boolean tenant) {
            ToIntFunction<Told> all = product(within, tenant);
            while (is("+", "-")) {
                boolean plus = is("+");
                at++;
                ToIntFunction<Told> left = all, right = product(within, tenant);
                all = x -> plus ? left.applyAsInt(x) + right.applyAsInt(x) : left.applyAsInt(x) - right.applyAsInt(x);
            }
            return all;
        }

        ToIntFunction<Told> product(int within, boolean tenant) {
            ToIntFunction<Told> all = part(within, tenant);
            while (is("*", "/")) {
                boolean times = is("*");
                at++;
                ToIntFunction<Told> left = all, right = part(within, tenant);
                all = x -> {
                    int l = left.applyAsInt(x), r = right.applyAsInt(x);
                    return times ? l * r : r == 0 ? 0 : (int) ((long) l / r);
                };
            }
            return all;
        }

        ToIntFunction<Told> part(int within, boolean tenant) {
            Token token = peek();
            if (token.number()) {
                if (token.text.length() > 4) {
                    throw fault(2);
                }
                at++;
                int n = Integer.parseInt(token.text);
                return x -> n;
            }
            if (token.word()) {
                if (!DOGS.contains(token.text) && !(tenant && TENANTS.contains(token.text))) {
                    throw fault(3);
                }
                at++;
                return x -> x.value(token.text);
            }
            need("(");
            ToIntFunction<Told> inner = expr(within + 1, tenant);
            need(")");
            return inner;
        }
    }

    record Sight(int tenant, int house, int quarters, boolean has) {
    }

    record Image(World world, Deque<World> acts, List<Sight> seen, int[] status) {
    }

    private final StringBuilder tape = new StringBuilder();
    private World world = new World();
    private Deque<World> acts = new ArrayDeque<>();
    private List<Sight> seen = new ArrayList<>();
    private int[] status = new int[3];
    private int place = NONE;
    private Image image;

    public int feed(int a, int b, int c, int d, int e) {
        if (tape.length() + 20 > 700) {
            return NONE;
        }
        for (int n : new int[] {a, b, c, d, e}) {
            tape.append((char) (n >> 24 & 255)).append((char) (n >> 16 & 255)).append((char) (n >> 8 & 255)).append((char) (n & 255));
        }
        return tape.length();
    }

    public int terrace(int n) {
        if (n < 0 || n > tape.length()) {
            throw new IllegalArgumentException();
        }
        String text = tape.substring(0, n);
        tape.setLength(0);
        try {
            world = new Grammar(text).terrace();
        } catch (Fault f) {
            place = f.place;
            status[0]++;
            return f.kind;
        }
        place = NONE;
        acts = new ArrayDeque<>();
        seen = new ArrayList<>();
        image = null;
        return 0;
    }

    public int fault() {
        return place;
    }

    public int count(int what) {
        int sealed = 0, led = 0, coins = 0;
        for (int i = 0; i < world.houses.size(); i++) {
            sealed |= world.houses.get(i).sealed ? 1 << i : 0;
            led |= world.houses.get(i).led ? 1 << i : 0;
        }
        for (Tenant t : world.tenants) {
            coins += t.coins;
        }
        int[] all = {world.houses.size(), world.tenants.size(), world.life, world.quarter, sealed, world.bits(NONE), led, coins,
            acts.size(), seen.size(), tape.length(), status[0], status[1], status[2]};
        return all[need(what, all.length)];
    }

    private static int need(int index, int size) {
        if (index < 0 || index >= size) {
            throw new NoSuchElementException();
        }
        return index;
    }

    private static void range(int n, int least, int most) {
        if (n < least || n > most) {
            throw new IllegalArgumentException();
        }
    }

    private House h(int house) {
        return world.houses.get(need(house, world.houses.size()));
    }

    private Tenant t(int tenant) {
        return world.tenants.get(need(tenant, world.tenants.size()));
    }

    public int house(int house, int what) {
        House h = h(house);
        int[] all = {h.rent, h.age, h.temper, h.pups, h.owner, h.held, h.corner ? 1 : 0, !h.sealed && world.asleep(house) ? 1 : 0};
        return all[need(what, all.length)];
    }

    public int tenant(int tenant, int what) {
        Tenant t = t(tenant);
        int[] all = {t.chops, t.wage, t.cats, t.coins, world.bits(tenant), t.butcher ? 1 : 0};
        return all[need(what, all.length)];
    }

    private int refuse(int which) {
        status[which]++;
        return NONE;
    }

    private void act() {
        acts.addLast(world.copy());
        if (acts.size() > 40) {
            acts.removeFirst();
        }
    }

    public int quarters(int many) {
        if (many < 1 || many > 20 || world.quarter + many > 999) {
            return refuse(1);
        }
        act();
        world = world.behind(many);
        return world.quarter;
    }

    public int buy(int tenant, int chops) {
        Tenant t = t(tenant);
        if (chops < 1 || chops > 9 || t.coins < chops * 3) {
            return refuse(1);
        }
        act();
        t.coins -= 3 * chops;
        t.chops = Math.min(20, t.chops + chops);
        return t.chops;
    }

    public int cats(int tenant, int cats) {
        Tenant t = t(tenant);
        if (cats < 0 || cats > 3) {
            return refuse(1);
        }
        act();
        int before = t.cats;
        t.cats = cats;
        return before;
    }

    public boolean lead(int house, boolean is) {
        House h = h(house);
        if (h.sealed || h.led == is) {
            refuse(1);
            return false;
        }
        act();
        h.led = is;
        return true;
    }

    public int temper(int house, int temper) {
        House h = h(house);
        if (h.sealed || temper < 0 || temper > 9) {
            return refuse(1);
        }
        act();
        int before = h.temper;
        h.temper = temper;
        return before;
    }

    public int undo() {
        if (acts.isEmpty()) {
            return NONE;
        }
        world = acts.removeLast();
        return acts.size();
    }

    public int then(int house, int quarters) {
        h(house);
        range(quarters, 0, 40);
        return world.behind(quarters).houses.get(house).owner;
    }

    public int purse(int tenant, int quarters, int what) {
        t(tenant);
        need(what, 2);
        range(quarters, 0, 40);
        Tenant t = world.behind(quarters).tenants.get(tenant);
        return what == 0 ? t.coins : t.chops;
    }

    public int sealed(int house) {
        h(house);
        World w = world.copy();
        for (int q = 0; q <= 99; q++) {
            if (w.houses.get(house).sealed) {
                return q;
            }
            w.pass();
        }
        return NONE;
    }

    public int gets(int tenant, int house) {
        t(tenant);
        h(house);
        for (int q = 0; q <= 40; q++) {
            if (world.behind(q).houses.get(house).owner == tenant) {
                return q;
            }
        }
        return NONE;
    }

    public int loses(int house) {
        int owner = h(house).owner;
        for (int q = 1; q <= 40 && owner != NONE; q++) {
            if (world.behind(q).houses.get(house).owner != owner) {
                return q;
            }
        }
        return NONE;
    }

    public int most(int quarters) {
        range(quarters, 0, 40);
        World w = world.behind(quarters);
        for (int many = 8; many > 0; many--) {
            for (int t = 0; t < w.tenants.size(); t++) {
                if (w.of(t).size() == many) {
                    return t;
                }
            }
        }
        return NONE;
    }

    public int row(int tenant, int what) {
        t(tenant);
        need(what, 2);
        int own = world.bits(tenant);
        for (int many = 8; many > 0; many--) {
            for (int first = 0; first + many <= 8; first++) {
                int bits = (1 << many) - 1 << first;
                if ((own & bits) == bits) {
                    return what == 0 ? many : first;
                }
            }
        }
        return what == 0 ? 0 : NONE;
    }

    public int empty(int quarters) {
        range(quarters, 0, 40);
        return world.behind(quarters).bits(NONE);
    }

    public int liking(int house, int tenant) {
        h(house);
        t(tenant);
        return world.likingNow(house, tenant);
    }

    public int leastChops(int tenant, int house) {
        t(tenant);
        h(house);
        for (int c = 0; c <= 20; c++) {
            if (world.withChops(tenant, c).behind(1).houses.get(house).owner == tenant) {
                return c;
            }
        }
        return NONE;
    }

    public int toWin(int tenant, int what) {
        t(tenant);
        need(what, 2);
        int best = 0, chops = 0;
        for (int c = 20; c >= 0; c--) {
            int many = world.withChops(tenant, c).behind(1).of(tenant).size();
            if (many >= best) {
                best = many;
                chops = c;
            }
        }
        return what == 0 ? best : chops;
    }

    public int ruin(int tenant) {
        t(tenant);
        int base = world.behind(1).of(tenant).size();
        int[] left = new int[world.tenants.size()];
        int least = base;
        for (int o = 0; o < left.length; o++) {
            World w = world.copy();
            w.tenants.get(o).cats = 0;
            left[o] = o == tenant ? base : w.behind(1).of(tenant).size();
            least = Math.min(least, left[o]);
        }
        for (int o = 0; o < left.length; o++) {
            if (least < base && left[o] == least) {
                return o;
            }
        }
        return NONE;
    }

    public int share(int house, int each) {
        if (house != NONE) {
            h(house);
        }
        range(each, 1, 8);
        int[] best = new int[world.tenants.size() + 1];
        best[0] = -1;
        int[][] liking = new int[world.houses.size()][world.tenants.size()];
        for (int i = 0; i < liking.length; i++) {
            for (int t = 0; t < liking[i].length; t++) {
                liking[i][t] = world.likingNow(i, t);
            }
        }
        tryShares(liking, 0, each, new int[best.length], best);
        if (house == NONE) {
            return best[0];
        }
        for (int t = 0; t + 1 < best.length; t++) {
            if ((best[t + 1] >> house & 1) == 1) {
                return t;
            }
        }
        return NONE;
    }

    /** Row 0 is how much, then a tenant's houses each. */
    private static void tryShares(int[][] liking, int house, int each, int[] row, int[] best) {
        if (house == liking.length) {
            int order = row[0] > best[0] ? -1 : row[0] < best[0] ? 1 : Arrays.compare(row, best);
            if (order < 0) {
                System.arraycopy(row, 0, best, 0, row.length);
            }
            return;
        }
        tryShares(liking, house + 1, each, row, best);
        for (int t = 0; t + 1 < row.length; t++) {
            if (liking[house][t] > 0 && Integer.bitCount(row[t + 1]) < each) {
                row[t + 1] |= 1 << house;
                row[0] += liking[house][t];
                tryShares(liking, house + 1, each, row, best);
                row[t + 1] &= ~(1 << house);
                row[0] -= liking[house][t];
            }
        }
    }

    public int beside(int tenant) {
        t(tenant);
        int bits = 0;
        for (int i = 0; i < world.houses.size(); i++) {
            int here = i;
            boolean next = world.of(tenant).stream().anyMatch(o -> Math.abs(o - here) == 1);
            if (next && !world.houses.get(i).sealed && world.houses.get(i).owner != tenant) {
                bits |= 1 << i;
            }
        }
        return bits;
    }

    public int oldest(int what) {
        need(what, 2);
        World w = world.copy();
        for (int q = 1; q <= 200; q++) {
            w.pass();
            for (int i = 0; i < w.houses.size(); i++) {
                if (w.houses.get(i).buried > world.houses.get(i).buried) {
                    return what == 0 ? i : q;
                }
            }
        }
        return NONE;
    }

    public int envy(int tenant) {
        t(tenant);
        int bits = 0;
        for (int i = 0; i < world.houses.size(); i++) {
            int owner = world.houses.get(i).owner;
            if (owner != NONE && world.likingNow(i, tenant) > world.likingNow(i, owner)) {
                bits |= 1 << i;
            }
        }
        return bits;
    }

    public int see(int tenant, int house, int quarters, boolean has) {
        t(tenant);
        h(house);
        if (seen.size() == 8 || quarters < 1 || quarters > 12) {
            return refuse(2);
        }
        seen.add(new Sight(tenant, house, quarters, has));
        return seen.size();
    }

    private boolean asSeen(World from) {
        List<World> all = new ArrayList<>();
        all.add(from);
        for (int q = 1; q <= 12 && !seen.isEmpty(); q++) {
            all.add(all.get(q - 1).behind(1));
        }
        return seen.stream().allMatch(s -> (all.get(s.quarters).houses.get(s.house).owner == s.tenant) == s.has);
    }

    private List<int[]> couples() {
        List<int[]> all = new ArrayList<>();
        for (int t = 0; t < world.tenants.size(); t++) {
            for (int c = 0; c <= 20; c++) {
                if (c != world.tenants.get(t).chops && asSeen(world.withChops(t, c))) {
                    all.add(new int[] {t, c});
                }
            }
        }
        return all;
    }

    public int pockets(int what) {
        need(what, 3);
        List<int[]> all = couples();
        int first = all.isEmpty() ? NONE : 100 * all.get(0)[0] + all.get(0)[1];
        return what == 0 ? all.size() : what == 1 ? first : asSeen(world) ? 1 : 0;
    }

    public int look(int what) {
        need(what, 2);
        int best = NONE, many = 0;
        List<int[]> all = couples();
        for (int i = 0; i < world.houses.size(); i++) {
            Set<Integer> owners = new HashSet<>();
            for (int[] one : all) {
                owners.add(world.withChops(one[0], one[1]).behind(1).houses.get(i).owner);
            }
            if (owners.size() > many) {
                many = owners.size();
                best = i;
            }
        }
        return what == 0 ? best : many;
    }

    public void forget() {
        seen.clear();
    }

    private int gain(int me, int mine, int other, int its) {
        World w = world.copy();
        for (int[] one : new int[][] {{me, mine}, {other, its}}) {
            Tenant t = w.tenants.get(one[0]);
            if (one[1] == 0) {
                t.chops = Math.min(20, t.chops + 3);
            } else {
                t.cats = Math.max(0, t.cats - 1);
            }
        }
        w.pass();
        return w.of(me).stream().mapToInt(h -> w.houses.get(h).rent).sum() - (mine == 0 ? 6 : 0);
    }

    public int game(int tenant, int other, int what) {
        t(tenant);
        t(other);
        need(what, 2);
        if (tenant == other) {
            throw new IllegalArgumentException();
        }
        List<Integer> resting = new ArrayList<>();
        for (int a = 0; a < 2; a++) {
            for (int b = 0; b < 2; b++) {
                if (gain(tenant, 1 - a, other, b) <= gain(tenant, a, other, b) && gain(other, 1 - b, tenant, a) <= gain(other, b, tenant, a)) {
                    resting.add(10 * a + b);
                }
            }
        }
        return what == 0 ? resting.size() : resting.isEmpty() ? NONE : resting.get(0);
    }

    public int years(int seed, int n, int what) {
        need(what, 3);
        range(n, 0, 40);
        World w = world.copy();
        int[] state = {seed};
        int moves = 0;
        for (int q = 0; q < n; q++) {
            if (!w.houses.isEmpty() && !w.tenants.isEmpty()) {
                House h = w.houses.get(draw(state, w.houses.size()));
                h.led |= !h.sealed;
                Tenant t = w.tenants.get(draw(state, w.tenants.size()));
                t.chops = draw(state, 21);
            }
            World before = w.copy();
            w.pass();
            for (int i = 0; i < w.houses.size(); i++) {
                moves += w.houses.get(i).owner != before.houses.get(i).owner ? 1 : 0;
            }
        }
        int sealed = (int) w.houses.stream().filter(h -> h.sealed).count();
        return what == 0 ? moves : what == 1 ? sealed : w.tenants.stream().mapToInt(t -> t.coins).sum();
    }

    private static int draw(int[] state, int n) {
        state[0] = state[0] * 1103515245 + 12345;
        return (state[0] >> 16 & 0x7fff) % n;
    }

    public void image() {
        Deque<World> copies = new ArrayDeque<>();
        acts.forEach(w -> copies.add(w.copy()));
        image = new Image(world.copy(), copies, new ArrayList<>(seen), status.clone());
    }

    public boolean restore() {
        if (image == null) {
            return false;
        }
        world = image.world.copy();
        acts = new ArrayDeque<>();
        image.acts.forEach(w -> acts.add(w.copy()));
        seen = new ArrayList<>(image.seen);
        status = image.status.clone();
        return true;
    }
}
