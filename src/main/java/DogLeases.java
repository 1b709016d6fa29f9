import java.util.NoSuchElementException;

/** A terrace whose houses belong to dogs; see DOC.md for what each call promises. */
public final class DogLeases {
    public static final int NONE = -1;

    private static final int TAPE_MOST = 700;
    private static final int HOUSES_MOST = 8;
    private static final int TENANTS_MOST = 7;
    private static final int ALL_SETS = 256;

    private static final int CHOPS_MOST = 20;
    private static final int COINS_MOST = 9999;
    private static final int CATS_MOST = 3;
    private static final int TEMPER_MOST = 9;
    private static final int LIFE_WITHOUT = 40;
    private static final int SLEEPY_AGE = 30;
    private static final int LIKING_MOST = 999;
    private static final int BUTCHER_MORE = 2;

    private static final int ACTS_MOST = 40;
    private static final int QUARTERS_MOST = 20;
    private static final int QUARTER_MOST = 999;
    private static final int BUY_MOST = 9;
    private static final int CHOP_PRICE = 3;
    private static final int AHEAD_MOST = 40;
    private static final int SEALED_MOST = 99;
    private static final int SEEN_MOST = 8;
    private static final int SEEN_AHEAD_MOST = 12;
    private static final int GAME_CHOPS = 3;
    private static final int GAME_PRICE = 6;

    private static final int REFUSED_TEXT = 0;
    private static final int REFUSED_ACT = 1;
    private static final int REFUSED_SEEN = 2;

    // A row holds all that quarters and acts change: these are the places in it.
    private static final int AGE = 0;
    private static final int TEMPER = 8;
    private static final int PUPS = 16;
    private static final int OWNER = 24;
    private static final int HELD = 32;
    private static final int CHOPS = 40;
    private static final int CATS = 47;
    private static final int COINS = 54;
    private static final int LED = 61;
    private static final int SEALED = 62;
    private static final int QUARTER = 63;
    private static final int ROW = 64;

    // The values of a rule, in the order of the document.
    private static final int V_AGE = 0;
    private static final int V_TEMPER = 1;
    private static final int V_QUARTER = 2;
    private static final int V_RENT = 3;
    private static final int V_CHOPS = 4;
    private static final int V_CATS = 5;
    private static final int V_COINS = 6;
    private static final int V_HELD = 7;
    private static final int V_HOUSES = 8;
    private static final int V_BESIDE = 9;
    private static final int VALUES = 10;

    // The codes of a rule: a number is itself, value v is -1 - v, the rest stands here.
    private static final int OR = -21;
    private static final int AND = -22;
    private static final int NOT = -23;
    private static final int LESS = -24;
    private static final int EQUAL = -25;
    private static final int PLUS = -26;
    private static final int MINUS = -27;
    private static final int TIMES = -28;
    private static final int OVER = -29;
    private static final int OPEN = -30;
    private static final int OPEN_COMPARED = -31;

    private static final int FAULT_STRANGE = 1;
    private static final int FAULT_MUCH = 2;
    private static final int FAULT_VALUE = 3;
    private static final int FAULT_SECOND = 5;

    private final PlanReader reader = new PlanReader();
    private final Tape tape = reader.tape;
    private final Street street = new Street();
    private final Plan plan = street.plan;
    private final Shares shares = new Shares();
    private final Keep now = new Keep();
    private final Keep kept = new Keep();
    private boolean isKept = false;
    private int faultPlace = NONE;
    private final int[] trial = new int[ROW];
    private final int[] ownersMet = new int[HOUSES_MOST];
    private final int[] gains = new int[8];

    public DogLeases() {
        plan.clear();
        now.begin(plan.start);
    }

    public int feed(int a, int b, int c, int d, int e) {
        if (tape.size > TAPE_MOST - 20) {
            return NONE;
        }
        tape.add(a);
        tape.add(b);
        tape.add(c);
        tape.add(d);
        tape.add(e);
        return tape.size;
    }

    public int terrace(int n) throws IllegalArgumentException {
        if (n < 0 || n > tape.size) {
            throw new IllegalArgumentException("the tape has not so many bytes");
        }
        tape.begin(n);
        int fault = reader.read();
        tape.size = 0;
        if (fault != 0) {
            faultPlace = tape.start;
            now.refuse(REFUSED_TEXT);
            return fault;
        }
        faultPlace = NONE;
        plan.copyFrom(reader.plan);
        now.begin(plan.start);
        isKept = false;
        return 0;
    }

    public int fault() {
        return faultPlace;
    }

    public int count(int what) throws NoSuchElementException {
        switch (what) {
            case 0: return plan.houses;
            case 1: return plan.tenants;
            case 2: return plan.life;
            case 3: return now.row[QUARTER];
            case 4: return now.row[SEALED];
            case 5: return street.housesOf(now.row, NONE);
            case 6: return now.row[LED];
            case 7: return street.coinsOfAll(now.row);
            case 8: return now.acts.many;
            case 9: return now.seen.many;
            case 10: return tape.size;
            case 11: return now.status[REFUSED_TEXT];
            case 12: return now.status[REFUSED_ACT];
            case 13: return now.status[REFUSED_SEEN];
            default: throw new NoSuchElementException("no such count");
        }
    }

    public int house(int house, int what) throws NoSuchElementException {
        needHouse(house);
        switch (what) {
            case 0: return plan.rent[house];
            case 1: return now.row[AGE + house];
            case 2: return now.row[TEMPER + house];
            case 3: return now.row[PUPS + house];
            case 4: return now.row[OWNER + house];
            case 5: return now.row[HELD + house];
            case 6: return plan.corner[house];
            case 7: return isSealedNow(house) || !street.isAsleep(now.row, house) ? 0 : 1;
            default: throw new NoSuchElementException("no such thing of a house");
        }
    }

    public int tenant(int tenant, int what) throws NoSuchElementException {
        needTenant(tenant);
        switch (what) {
            case 0: return now.row[CHOPS + tenant];
            case 1: return plan.wage[tenant];
            case 2: return now.row[CATS + tenant];
            case 3: return now.row[COINS + tenant];
            case 4: return street.housesOf(now.row, tenant);
            case 5: return plan.butcher[tenant];
            default: throw new NoSuchElementException("no such thing of a tenant");
        }
    }

    public int quarters(int many) {
        if (many < 1 || many > QUARTERS_MOST || now.row[QUARTER] + many > QUARTER_MOST) {
            return now.refuse(REFUSED_ACT);
        }
        now.beginAct();
        street.passQuarters(now.row, many);
        return now.row[QUARTER];
    }

    public int buy(int tenant, int chops) throws NoSuchElementException {
        needTenant(tenant);
        if (chops < 1 || chops > BUY_MOST || now.row[COINS + tenant] < CHOP_PRICE * chops) {
            return now.refuse(REFUSED_ACT);
        }
        now.beginAct();
        now.row[COINS + tenant] -= CHOP_PRICE * chops;
        now.row[CHOPS + tenant] = Math.min(CHOPS_MOST, now.row[CHOPS + tenant] + chops);
        return now.row[CHOPS + tenant];
    }

    public int cats(int tenant, int cats) throws NoSuchElementException {
        needTenant(tenant);
        if (cats < 0 || cats > CATS_MOST) {
            return now.refuse(REFUSED_ACT);
        }
        return now.actTo(CATS + tenant, cats);
    }

    public boolean lead(int house, boolean is) throws NoSuchElementException {
        needHouse(house);
        int bit = 1 << house;
        boolean isLed = (now.row[LED] & bit) != 0;
        if (isLed == is || isSealedNow(house)) {
            now.refuse(REFUSED_ACT);
            return false;
        }
        now.actTo(LED, now.row[LED] ^ bit);
        return true;
    }

    public int temper(int house, int temper) throws NoSuchElementException {
        needHouse(house);
        if (temper < 0 || temper > TEMPER_MOST || isSealedNow(house)) {
            return now.refuse(REFUSED_ACT);
        }
        return now.actTo(TEMPER + house, temper);
    }

    public int undo() {
        return now.acts.takeBack(now.row);
    }

    public int then(int house, int quarters) throws NoSuchElementException, IllegalArgumentException {
        needHouse(house);
        needAhead(quarters);
        tryAhead(quarters);
        return trial[OWNER + house];
    }

    public int purse(int tenant, int quarters, int what) throws NoSuchElementException, IllegalArgumentException {
        needTenant(tenant);
        needWhat(what, 1);
        needAhead(quarters);
        tryAhead(quarters);
        return what == 0 ? trial[COINS + tenant] : trial[CHOPS + tenant];
    }

    public int sealed(int house) throws NoSuchElementException {
        needHouse(house);
        if (isSealedNow(house)) {
            return 0;
        }
        int when = street.buriedIn(now.row, house) + now.row[PUPS + house] * street.lifeOf(house);
        return when <= SEALED_MOST ? when : NONE;
    }

    public int gets(int tenant, int house) throws NoSuchElementException {
        needTenant(tenant);
        needHouse(house);
        return firstWhen(house, tenant, true);
    }

    public int loses(int house) throws NoSuchElementException {
        needHouse(house);
        int owner = now.row[OWNER + house];
        return owner == NONE ? NONE : firstWhen(house, owner, false);
    }

    public int most(int quarters) throws IllegalArgumentException {
        needAhead(quarters);
        tryAhead(quarters);
        int best = NONE;
        int bestMany = 0;
        for (int t = 0; t < plan.tenants; t++) {
            int many = Integer.bitCount(street.housesOf(trial, t));
            if (many > bestMany) {
                bestMany = many;
                best = t;
            }
        }
        return best;
    }

    public int row(int tenant, int what) throws NoSuchElementException {
        needTenant(tenant);
        needWhat(what, 1);
        int best = 0;
        int first = NONE;
        int many = 0;
        for (int h = 0; h < plan.houses; h++) {
            many = now.row[OWNER + h] == tenant ? many + 1 : 0;
            if (many > best) {
                best = many;
                first = h - many + 1;
            }
        }
        return what == 0 ? best : first;
    }

    public int empty(int quarters) throws IllegalArgumentException {
        needAhead(quarters);
        tryAhead(quarters);
        return street.housesOf(trial, NONE);
    }

    public int liking(int house, int tenant) throws NoSuchElementException {
        needHouse(house);
        needTenant(tenant);
        return street.likingNow(now.row, house, tenant);
    }

    public int leastChops(int tenant, int house) throws NoSuchElementException {
        needTenant(tenant);
        needHouse(house);
        for (int chops = 0; chops <= CHOPS_MOST; chops++) {
            tryQuarterWith(CHOPS + tenant, chops);
            if (trial[OWNER + house] == tenant) {
                return chops;
            }
        }
        return NONE;
    }

    public int toWin(int tenant, int what) throws NoSuchElementException {
        needTenant(tenant);
        needWhat(what, 1);
        int best = NONE;
        int bestChops = 0;
        for (int chops = 0; chops <= CHOPS_MOST; chops++) {
            tryQuarterWith(CHOPS + tenant, chops);
            int many = Integer.bitCount(street.housesOf(trial, tenant));
            if (many > best) {
                best = many;
                bestChops = chops;
            }
        }
        return what == 0 ? best : bestChops;
    }

    public int ruin(int tenant) throws NoSuchElementException {
        needTenant(tenant);
        tryAhead(1);
        int fewest = Integer.bitCount(street.housesOf(trial, tenant));
        int worst = NONE;
        for (int other = 0; other < plan.tenants; other++) {
            if (other == tenant) {
                continue;
            }
            tryQuarterWith(CATS + other, 0);
            int many = Integer.bitCount(street.housesOf(trial, tenant));
            if (many < fewest) {
                fewest = many;
                worst = other;
            }
        }
        return worst;
    }

    public int share(int house, int each) throws NoSuchElementException, IllegalArgumentException {
        if (house != NONE) {
            needHouse(house);
        }
        if (each < 1 || each > HOUSES_MOST) {
            throw new IllegalArgumentException("each has 1 to 8 houses");
        }
        shares.begin(plan.houses, plan.tenants, each);
        for (int t = 0; t < plan.tenants; t++) {
            for (int h = 0; h < plan.houses; h++) {
                shares.tell(t, h, street.likingNow(now.row, h, t));
            }
        }
        shares.weigh();
        return house == NONE ? shares.howMuch() : shares.whoHas(house);
    }

    public int beside(int tenant) throws NoSuchElementException {
        needTenant(tenant);
        int own = street.housesOf(now.row, tenant);
        int next = (own << 1 | own >> 1) & (1 << plan.houses) - 1;
        return next & ~own & ~now.row[SEALED];
    }

    public int oldest(int what) throws NoSuchElementException {
        needWhat(what, 1);
        int first = NONE;
        int soonest = NONE;
        for (int h = 0; h < plan.houses; h++) {
            int when = street.buriedIn(now.row, h);
            if (!isSealedNow(h) && (first == NONE || when < soonest)) {
                first = h;
                soonest = when;
            }
        }
        return what == 0 ? first : soonest;
    }

    public int envy(int tenant) throws NoSuchElementException {
        needTenant(tenant);
        int bits = 0;
        for (int h = 0; h < plan.houses; h++) {
            int owner = now.row[OWNER + h];
            if (owner != NONE && owner != tenant && street.likingNow(now.row, h, tenant) > street.likingNow(now.row, h, owner)) {
                bits |= 1 << h;
            }
        }
        return bits;
    }

    public int see(int tenant, int house, int quarters, boolean has) throws NoSuchElementException {
        needTenant(tenant);
        needHouse(house);
        if (now.seen.many >= SEEN_MOST || quarters < 1 || quarters > SEEN_AHEAD_MOST) {
            return now.refuse(REFUSED_SEEN);
        }
        now.seen.add(tenant, house, quarters, has);
        return now.seen.many;
    }

    public int pockets(int what) throws NoSuchElementException {
        needWhat(what, 2);
        if (what == 2) {
            return isAsSeen(NONE, 0) ? 1 : 0;
        }
        int many = 0;
        int first = NONE;
        for (int t = 0; t < plan.tenants; t++) {
            for (int chops = 0; chops <= CHOPS_MOST; chops++) {
                if (chops != now.row[CHOPS + t] && isAsSeen(t, chops)) {
                    first = many == 0 ? 100 * t + chops : first;
                    many++;
                }
            }
        }
        return what == 0 ? many : first;
    }

    public int look(int what) throws NoSuchElementException {
        needWhat(what, 1);
        meetOwners();
        int best = NONE;
        int bestMany = 0;
        for (int h = 0; h < plan.houses; h++) {
            int many = Integer.bitCount(ownersMet[h]);
            if (many > bestMany) {
                bestMany = many;
                best = h;
            }
        }
        return what == 0 ? best : bestMany;
    }

    public void forget() {
        now.seen.many = 0;
    }

    public int game(int tenant, int other, int what) throws NoSuchElementException, IllegalArgumentException {
        needTenant(tenant);
        needTenant(other);
        needWhat(what, 1);
        if (tenant == other) {
            throw new IllegalArgumentException("a game is of two");
        }
        for (int couple = 0; couple < 4; couple++) {
            playCouple(tenant, other, couple);
        }
        int many = 0;
        int first = NONE;
        for (int couple = 0; couple < 4; couple++) {
            boolean rests = gains[couple] >= gains[couple ^ 2] && gains[4 + couple] >= gains[4 + (couple ^ 1)];
            if (rests) {
                first = many == 0 ? 10 * (couple >> 1) + (couple & 1) : first;
                many++;
            }
        }
        return what == 0 ? many : first;
    }

    public int years(int seed, int n, int what) throws NoSuchElementException, IllegalArgumentException {
        needWhat(what, 2);
        needAhead(n);
        copyToTrial();
        int moves = street.passYears(trial, seed, n);
        switch (what) {
            case 0: return moves;
            case 1: return Integer.bitCount(trial[SEALED]);
            default: return street.coinsOfAll(trial);
        }
    }

    public void image() {
        kept.copyFrom(now);
        isKept = true;
    }

    public boolean restore() {
        if (isKept) {
            now.copyFrom(kept);
        }
        return isKept;
    }

    private void needHouse(int house) {
        if (house < 0 || house >= plan.houses) {
            throw new NoSuchElementException("no such house");
        }
    }

    private void needTenant(int tenant) {
        if (tenant < 0 || tenant >= plan.tenants) {
            throw new NoSuchElementException("no such tenant");
        }
    }

    private void needWhat(int what, int last) {
        if (what < 0 || what > last) {
            throw new NoSuchElementException("no such question");
        }
    }

    private void needAhead(int quarters) {
        if (quarters < 0 || quarters > AHEAD_MOST) {
            throw new IllegalArgumentException("not 0 to 40 quarters");
        }
    }

    private boolean isSealedNow(int house) {
        return (now.row[SEALED] >> house & 1) == 1;
    }

    private void copyToTrial() {
        System.arraycopy(now.row, 0, trial, 0, ROW);
    }

    private void tryAhead(int quarters) {
        copyToTrial();
        street.passQuarters(trial, quarters);
    }

    private void tryQuarterWith(int place, int number) {
        copyToTrial();
        trial[place] = number;
        street.passQuarter(trial);
    }

    /** Behind how many quarters a tenant first has a house, or first has it not; NONE. */
    private int firstWhen(int house, int tenant, boolean has) {
        copyToTrial();
        for (int quarter = 0; quarter <= AHEAD_MOST; quarter++) {
            if ((trial[OWNER + house] == tenant) == has) {
                return quarter;
            }
            if (quarter < AHEAD_MOST) {
                street.passQuarter(trial);
            }
        }
        return NONE;
    }

    /** Whether all that is seen comes true if a tenant (NONE: nobody) has so many chops in place of one's own. */
    private boolean isAsSeen(int tenant, int chops) {
        copyToTrial();
        if (tenant != NONE) {
            trial[CHOPS + tenant] = chops;
        }
        int last = now.seen.lastQuarter();
        for (int quarter = 1; quarter <= last; quarter++) {
            street.passQuarter(trial);
            if (!now.seen.agrees(trial, quarter)) {
                return false;
            }
        }
        return true;
    }

    /** Gathers, as bits, whose each house would be behind the next quarter by each of the pockets. */
    private void meetOwners() {
        for (int h = 0; h < HOUSES_MOST; h++) {
            ownersMet[h] = 0;
        }
        for (int t = 0; t < plan.tenants; t++) {
            for (int chops = 0; chops <= CHOPS_MOST; chops++) {
                if (chops != now.row[CHOPS + t] && isAsSeen(t, chops)) {
                    tryQuarterWith(CHOPS + t, chops);
                    meetOwnersOfTrial();
                }
            }
        }
    }

    private void meetOwnersOfTrial() {
        for (int h = 0; h < plan.houses; h++) {
            // Nobody is -1 and takes bit 0.
            ownersMet[h] |= 1 << trial[OWNER + h] + 1;
        }
    }

    /** A couple is 2 by the first one's choice, and the other one's. */
    private void playCouple(int tenant, int other, int couple) {
        copyToTrial();
        choose(tenant, couple >> 1);
        choose(other, couple & 1);
        street.passQuarter(trial);
        gains[couple] = gainOf(tenant, couple >> 1);
        gains[4 + couple] = gainOf(other, couple & 1);
    }

    private void choose(int tenant, int choice) {
        if (choice == 0) {
            trial[CHOPS + tenant] = Math.min(CHOPS_MOST, trial[CHOPS + tenant] + GAME_CHOPS);
        } else {
            trial[CATS + tenant] = Math.max(0, trial[CATS + tenant] - 1);
        }
    }

    private int gainOf(int tenant, int choice) {
        int rents = street.rentOf(trial, tenant);
        return choice == 0 ? rents - GAME_PRICE : rents;
    }

    /** The bytes that were fed, and the tokens of the text that is read from them. */
    private static final class Tape {
        static final int END = 0;
        static final int WORD = 1;
        static final int NUMBER = 2;
        static final int STRANGE = 3;
        static final int DIGITS_MOST = 4;

        final byte[] bytes = new byte[TAPE_MOST];
        int size = 0;
        /** Of the text that is read: its length. */
        int end = 0;
        /** Of the token: its first byte, the byte behind it, its kind (a sign's is the sign), its number (NONE: too long). */
        int start = 0;
        int stop = 0;
        int kind = END;
        int number = 0;

        void add(int four) {
            for (int shift = 24; shift >= 0; shift -= 8) {
                if (size < TAPE_MOST) {
                    bytes[size] = (byte) (four >>> shift);
                    size++;
                }
            }
        }

        void begin(int n) {
            end = Math.min(n, size);
            stop = 0;
        }

        void next() {
            start = stop;
            while (start < end && isBlank(bytes[start])) {
                start++;
            }
            stop = start;
            if (start >= end) {
                kind = END;
            } else if (isLetter(bytes[start])) {
                readWord();
            } else if (isDigit(bytes[start])) {
                readNumber();
            } else {
                kind = isSign(bytes[start]) ? bytes[start] : STRANGE;
                stop = start + 1;
            }
        }

        boolean isWord(String word) {
            if (kind != WORD || stop - start != word.length()) {
                return false;
            }
            for (int i = 0; i < word.length(); i++) {
                if (bytes[start + i] != word.charAt(i)) {
                    return false;
                }
            }
            return true;
        }

        private void readWord() {
            kind = WORD;
            while (stop < end && isLetter(bytes[stop])) {
                stop++;
            }
        }

        private void readNumber() {
            kind = NUMBER;
            number = 0;
            while (stop < end && isDigit(bytes[stop])) {
                number = 10 * number + bytes[stop] - '0';
                stop++;
            }
            if (stop - start > DIGITS_MOST) {
                number = NONE;
            }
        }

        private static boolean isBlank(byte sign) {
            return sign == ' ' || sign == '\n';
        }

        private static boolean isLetter(byte sign) {
            return sign >= 'a' && sign <= 'z';
        }

        private static boolean isDigit(byte sign) {
            return sign >= '0' && sign <= '9';
        }

        private static boolean isSign(byte sign) {
            switch (sign) {
                case ';': case '(': case ')': case '+': case '-': case '*': case '/': case '<': case '=': return true;
                default: return false;
            }
        }
    }

    /** An EXPR as codes in the order in which they are worked off, on a stack. */
    private static final class Rule {
        static final int STACK = 64;

        final int[] codes = new int[TAPE_MOST];
        final int[] stack = new int[STACK];
        int many = 0;

        void clear() {
            many = 0;
        }

        boolean isTold() {
            return many > 0;
        }

        void add(int code) {
            if (many < TAPE_MOST) {
                codes[many] = code;
                many++;
            }
        }

        void copyFrom(Rule other) {
            System.arraycopy(other.codes, 0, codes, 0, TAPE_MOST);
            many = other.many;
        }

        int value(int[] values) {
            int top = 0;
            for (int i = 0; i < many; i++) {
                int code = codes[i];
                if (code >= -VALUES) {
                    if (top < STACK) {
                        stack[top] = code >= 0 ? code : values[-1 - code];
                        top++;
                    }
                } else if (code == NOT) {
                    if (top >= 1) {
                        stack[top - 1] = stack[top - 1] == 0 ? 1 : 0;
                    }
                } else if (top >= 2) {
                    top--;
                    stack[top - 1] = join(code, stack[top - 1], stack[top]);
                }
            }
            return stack[0];
        }

        private static int join(int code, int left, int right) {
            switch (code) {
                case OR: return left != 0 || right != 0 ? 1 : 0;
                case AND: return left != 0 && right != 0 ? 1 : 0;
                case LESS: return left < right ? 1 : 0;
                case EQUAL: return left == right ? 1 : 0;
                case PLUS: return left + right;
                case MINUS: return left - right;
                case TIMES: return left * right;
                case OVER: return right == 0 ? 0 : left / right;
                default: return 0;
            }
        }
    }

    /** Reads the EXPR of a line: operators wait on a stack until one comes that binds less. */
    private static final class RuleReader {
        static final int WAITING_MOST = 128;
        static final int WITHIN_MOST = 6;
        static final int NOTS_MOST = 6;

        final Tape tape = new Tape();
        final Rule rule = new Rule();
        final int[] waiting = new int[WAITING_MOST];
        int height = 0;
        boolean hasTenant = false;
        boolean wantsPart = true;
        boolean mayNot = true;
        /** Whether a test stands already in the NOT that is read. */
        boolean isCompared = false;
        int within = 0;
        int nots = 0;

        /** From the line's word on: the FAULT at the tape's token, or 0 and the tape is at the line's end. */
        int read(Rule into, boolean tenantToo) {
            if (into.isTold()) {
                return FAULT_SECOND;
            }
            begin(tenantToo);
            int fault = 0;
            for (int i = 0; i <= TAPE_MOST && fault == 0; i++) {
                tape.next();
                if (!wantsPart && within == 0 && tape.kind == ';') {
                    release(1);
                    into.copyFrom(rule);
                    return 0;
                }
                fault = wantsPart ? takePart() : takeOperator();
            }
            return fault;
        }

        private void begin(boolean tenantToo) {
            rule.clear();
            hasTenant = tenantToo;
            height = 0;
            within = 0;
            nots = 0;
            beginNot();
        }

        private void beginNot() {
            wantsPart = true;
            mayNot = true;
            isCompared = false;
        }

        private int takePart() {
            if (tape.kind != Tape.NUMBER && tape.kind != Tape.WORD && tape.kind != '(') {
                return FAULT_STRANGE;
            }
            // Only the first token of an EXPR can come here so far within.
            if (within >= WITHIN_MOST) {
                return FAULT_MUCH;
            }
            if (tape.kind == '(') {
                return takeOpening();
            }
            if (tape.kind == Tape.NUMBER) {
                return tape.number == NONE ? FAULT_MUCH : endPart(tape.number);
            }
            if (mayNot && tape.isWord("not")) {
                return takeNot();
            }
            int value = valueOf();
            return value == NONE ? FAULT_VALUE : endPart(-1 - value);
        }

        private int takeOpening() {
            hold(isCompared ? OPEN_COMPARED : OPEN);
            within++;
            nots = 0;
            beginNot();
            return 0;
        }

        private int takeNot() {
            if (nots >= NOTS_MOST) {
                return FAULT_MUCH;
            }
            nots++;
            hold(NOT);
            return 0;
        }

        private int endPart(int code) {
            rule.add(code);
            nots = 0;
            wantsPart = false;
            return 0;
        }

        private int takeOperator() {
            if (tape.kind == ')' && within > 0) {
                return takeClosing();
            }
            int code = operatorOf();
            boolean isTest = code == LESS || code == EQUAL;
            if (code == 0 || isTest && isCompared) {
                return FAULT_STRANGE;
            }
            release(binding(code));
            hold(code);
            wantsPart = true;
            mayNot = code == OR || code == AND;
            isCompared = isTest || isCompared && !mayNot;
            return 0;
        }

        private int takeClosing() {
            release(1);
            if (height > 0) {
                height--;
                isCompared = waiting[height] == OPEN_COMPARED;
            }
            within--;
            return 0;
        }

        private void hold(int code) {
            if (height < WAITING_MOST) {
                waiting[height] = code;
                height++;
            }
        }

        /** Operators that bind at least so much wait no longer. */
        private void release(int least) {
            while (height > 0 && binding(waiting[height - 1]) >= least) {
                height--;
                rule.add(waiting[height]);
            }
        }

        private static int binding(int code) {
            switch (code) {
                case OR: return 1;
                case AND: return 2;
                case NOT: return 3;
                case LESS: case EQUAL: return 4;
                case PLUS: case MINUS: return 5;
                case TIMES: case OVER: return 6;
                default: return 0;
            }
        }

        private int operatorOf() {
            switch (tape.kind) {
                case '<': return LESS;
                case '=': return EQUAL;
                case '+': return PLUS;
                case '-': return MINUS;
                case '*': return TIMES;
                case '/': return OVER;
                default: return tape.isWord("or") ? OR : tape.isWord("and") ? AND : 0;
            }
        }

        private int valueOf() {
            int value = tape.isWord("age") ? V_AGE
                : tape.isWord("temper") ? V_TEMPER
                : tape.isWord("quarter") ? V_QUARTER
                : tape.isWord("rent") ? V_RENT : NONE;
            if (value != NONE || !hasTenant) {
                return value;
            }
            return tape.isWord("chops") ? V_CHOPS
                : tape.isWord("cats") ? V_CATS
                : tape.isWord("coins") ? V_COINS
                : tape.isWord("held") ? V_HELD
                : tape.isWord("houses") ? V_HOUSES
                : tape.isWord("beside") ? V_BESIDE : NONE;
        }
    }

    /** What a text tells: what never changes, and the row that all begins with. */
    private static final class Plan {
        int houses = 0;
        int tenants = 0;
        int life = LIFE_WITHOUT;
        final int[] rent = new int[HOUSES_MOST];
        final int[] corner = new int[HOUSES_MOST];
        final int[] wage = new int[TENANTS_MOST];
        final int[] butcher = new int[TENANTS_MOST];
        final Rule likes = new Rule();
        final Rule sleeps = new Rule();
        final int[] start = new int[ROW];

        void clear() {
            houses = 0;
            tenants = 0;
            life = LIFE_WITHOUT;
            likes.clear();
            sleeps.clear();
            for (int i = 0; i < ROW; i++) {
                start[i] = 0;
            }
            for (int h = 0; h < HOUSES_MOST; h++) {
                start[OWNER + h] = NONE;
            }
        }

        void copyFrom(Plan other) {
            houses = other.houses;
            tenants = other.tenants;
            life = other.life;
            System.arraycopy(other.rent, 0, rent, 0, HOUSES_MOST);
            System.arraycopy(other.corner, 0, corner, 0, HOUSES_MOST);
            System.arraycopy(other.wage, 0, wage, 0, TENANTS_MOST);
            System.arraycopy(other.butcher, 0, butcher, 0, TENANTS_MOST);
            likes.copyFrom(other.likes);
            sleeps.copyFrom(other.sleeps);
            System.arraycopy(other.start, 0, start, 0, ROW);
        }
    }

    /** Reads the LINES of a TERRACE from the tape. */
    private static final class PlanReader {
        private static final int[] HOUSE_LIMITS = {99, 60, 9, 5};
        private static final int[] TENANT_LIMITS = {20, 9, 3, 999};
        private static final int[] LIFE_LIMITS = {99};

        final RuleReader rules = new RuleReader();
        final Tape tape = rules.tape;
        final Plan plan = new Plan();
        final int[] numbers = new int[4];
        boolean hasLife = false;

        /** The FAULT at the tape's token, or 0 and the plan is read. */
        int read() {
            plan.clear();
            hasLife = false;
            int fault = 0;
            tape.next();
            for (int i = 0; i <= TAPE_MOST && fault == 0 && tape.kind != Tape.END; i++) {
                fault = readLine();
                if (fault == 0 && tape.kind != ';') {
                    fault = FAULT_STRANGE;
                }
                if (fault == 0) {
                    tape.next();
                }
            }
            return fault;
        }

        /** All of a line but its end. */
        private int readLine() {
            if (tape.isWord("house") || tape.isWord("corner")) {
                return readHouse();
            }
            if (tape.isWord("tenant") || tape.isWord("butcher")) {
                return readTenant();
            }
            if (tape.isWord("life")) {
                return readLife();
            }
            if (tape.isWord("likes")) {
                return rules.read(plan.likes, true);
            }
            if (tape.isWord("sleeps")) {
                return rules.read(plan.sleeps, false);
            }
            return FAULT_STRANGE;
        }

        private int readHouse() {
            int h = plan.houses;
            if (h >= HOUSES_MOST) {
                return FAULT_MUCH;
            }
            plan.houses++;
            plan.corner[h] = tape.isWord("corner") ? 1 : 0;
            int fault = readNumbers(0, HOUSE_LIMITS);
            plan.rent[h] = numbers[0];
            plan.start[AGE + h] = numbers[1];
            plan.start[TEMPER + h] = numbers[2];
            plan.start[PUPS + h] = numbers[3];
            return fault;
        }

        private int readTenant() {
            int t = plan.tenants;
            if (t >= TENANTS_MOST) {
                return FAULT_MUCH;
            }
            plan.tenants++;
            plan.butcher[t] = tape.isWord("butcher") ? 1 : 0;
            int fault = readNumbers(0, TENANT_LIMITS);
            plan.start[CHOPS + t] = numbers[0];
            plan.wage[t] = numbers[1];
            plan.start[CATS + t] = numbers[2];
            plan.start[COINS + t] = numbers[3];
            return fault;
        }

        private int readLife() {
            if (hasLife) {
                return FAULT_SECOND;
            }
            hasLife = true;
            int fault = readNumbers(1, LIFE_LIMITS);
            plan.life = numbers[0];
            return fault;
        }

        /** The numbers behind the line's word, each from a least one to its own limit. */
        private int readNumbers(int least, int[] limits) {
            tape.next();
            for (int i = 0; i < limits.length && i < numbers.length; i++) {
                if (tape.kind != Tape.NUMBER) {
                    return FAULT_STRANGE;
                }
                if (tape.number < least || tape.number > limits[i]) {
                    return FAULT_MUCH;
                }
                numbers[i] = tape.number;
                tape.next();
            }
            return 0;
        }
    }

    /** What quarters do to a row, and what can be told of a row. */
    private static final class Street {
        final Plan plan = new Plan();
        final int[] values = new int[VALUES];
        final int[] ownersBefore = new int[HOUSES_MOST];
        final int[] manyBefore = new int[TENANTS_MOST];
        int seed = 0;

        void passQuarters(int[] row, int many) {
            for (int i = 0; i < many; i++) {
                passQuarter(row);
            }
        }

        void passQuarter(int[] row) {
            rememberOwners(row);
            growOld(row);
            for (int h = 0; h < plan.houses; h++) {
                if ((row[SEALED] >> h & 1) == 0) {
                    settle(row, h, sitsBy(row, h));
                }
            }
            pay(row);
            row[LED] = 0;
            row[QUARTER]++;
        }

        /** How often a house was another one's. */
        int passYears(int[] row, int firstSeed, int many) {
            seed = firstSeed;
            int moves = 0;
            for (int i = 0; i < many; i++) {
                if (plan.houses > 0 && plan.tenants > 0) {
                    disturb(row);
                }
                passQuarter(row);
                for (int h = 0; h < plan.houses; h++) {
                    moves += row[OWNER + h] == ownersBefore[h] ? 0 : 1;
                }
            }
            return moves;
        }

        int housesOf(int[] row, int owner) {
            int bits = 0;
            for (int h = 0; h < plan.houses; h++) {
                if (row[OWNER + h] == owner) {
                    bits |= 1 << h;
                }
            }
            return bits;
        }

        int rentOf(int[] row, int tenant) {
            int rents = 0;
            for (int h = 0; h < plan.houses; h++) {
                if (row[OWNER + h] == tenant) {
                    rents += plan.rent[h];
                }
            }
            return rents;
        }

        int coinsOfAll(int[] row) {
            int coins = 0;
            for (int t = 0; t < plan.tenants; t++) {
                coins += row[COINS + t];
            }
            return coins;
        }

        int lifeOf(int h) {
            return plan.corner[h] == 1 ? 2 * plan.life : plan.life;
        }

        /** A dog that is too old already is buried all the same only by the next quarter. */
        int buriedIn(int[] row, int h) {
            return Math.max(1, lifeOf(h) - row[AGE + h]);
        }

        boolean isAsleep(int[] row, int h) {
            tellHouse(row, h);
            return plan.sleeps.isTold() ? plan.sleeps.value(values) > 0 : row[AGE + h] >= SLEEPY_AGE;
        }

        int likingNow(int[] row, int h, int t) {
            if ((row[SEALED] >> h & 1) == 1) {
                return 0;
            }
            rememberOwners(row);
            tellHouse(row, h);
            return likingOf(row, h, t);
        }

        /** Rules speak of owners as they were when the quarter began, though houses change hands meanwhile. */
        private void rememberOwners(int[] row) {
            for (int t = 0; t < TENANTS_MOST; t++) {
                manyBefore[t] = 0;
            }
            for (int h = 0; h < HOUSES_MOST; h++) {
                int owner = row[OWNER + h];
                ownersBefore[h] = owner;
                if (owner >= 0 && owner < TENANTS_MOST) {
                    manyBefore[owner]++;
                }
            }
        }

        private void growOld(int[] row) {
            for (int h = 0; h < plan.houses; h++) {
                if ((row[SEALED] >> h & 1) == 0) {
                    row[AGE + h]++;
                    if (row[AGE + h] >= lifeOf(h)) {
                        bury(row, h);
                    }
                }
            }
        }

        private void bury(int[] row, int h) {
            if (row[PUPS + h] > 0) {
                row[PUPS + h]--;
                row[AGE + h] = 0;
            } else {
                row[SEALED] |= 1 << h;
                row[OWNER + h] = NONE;
                row[HELD + h] = 0;
            }
        }

        private void settle(int[] row, int h, int who) {
            if (who == NONE) {
                row[HELD + h] = 0;
            } else {
                row[HELD + h] = who == ownersBefore[h] ? row[HELD + h] + 1 : 1;
                row[CHOPS + who] = Math.max(0, row[CHOPS + who] - 1);
            }
            row[OWNER + h] = who;
        }

        private int sitsBy(int[] row, int h) {
            if ((row[LED] >> h & 1) == 1 || isAsleep(row, h)) {
                return NONE;
            }
            int best = NONE;
            int most = 0;
            for (int t = 0; t < plan.tenants; t++) {
                int liking = likingOf(row, h, t);
                if (liking > most) {
                    most = liking;
                    best = t;
                }
            }
            return best;
        }

        /** The house must have been told ahead of this. */
        private int likingOf(int[] row, int h, int t) {
            int held = ownersBefore[h] == t ? row[HELD + h] : 0;
            int liking;
            if (plan.likes.isTold()) {
                values[V_HELD] = held;
                tellTenant(row, h, t);
                liking = plan.likes.value(values);
            } else {
                liking = 3 * row[CHOPS + t] + held - row[CATS + t] * row[TEMPER + h];
            }
            liking = Math.max(-LIKING_MOST, Math.min(LIKING_MOST, liking));
            return plan.butcher[t] == 1 ? liking + BUTCHER_MORE : liking;
        }

        private void tellHouse(int[] row, int h) {
            values[V_AGE] = row[AGE + h];
            values[V_TEMPER] = row[TEMPER + h];
            values[V_QUARTER] = row[QUARTER];
            values[V_RENT] = plan.rent[h];
        }

        private void tellTenant(int[] row, int h, int t) {
            values[V_CHOPS] = row[CHOPS + t];
            values[V_CATS] = row[CATS + t];
            values[V_COINS] = row[COINS + t];
            values[V_HOUSES] = manyBefore[t];
            int beside = h > 0 && ownersBefore[h - 1] == t ? 1 : 0;
            values[V_BESIDE] = h + 1 < HOUSES_MOST && ownersBefore[h + 1] == t ? beside + 1 : beside;
        }

        private void pay(int[] row) {
            for (int t = 0; t < plan.tenants; t++) {
                row[COINS + t] = Math.min(COINS_MOST, row[COINS + t] + rentOf(row, t));
                row[CHOPS + t] = Math.min(CHOPS_MOST, row[CHOPS + t] + plan.wage[t]);
            }
        }

        private void disturb(int[] row) {
            int h = draw(plan.houses);
            if ((row[SEALED] >> h & 1) == 0) {
                row[LED] |= 1 << h;
            }
            int t = draw(plan.tenants);
            row[CHOPS + t] = draw(CHOPS_MOST + 1);
        }

        private int draw(int n) {
            seed = seed * 1103515245 + 12345;
            return n <= 0 ? 0 : (seed >>> 16 & 32767) % n;
        }
    }

    /** The ways of giving houses to tenants: by sets of houses, the last tenant first. */
    private static final class Shares {
        final int[] liking = new int[TENANTS_MOST * HOUSES_MOST];
        /** Of each set, for the tenant at hand: the liking of all of it; NONE where that one may not have it. */
        final int[] worth = new int[ALL_SETS];
        /** Of a tenant and a set: the most that this tenant and those behind can have of it. */
        final int[] best = new int[(TENANTS_MOST + 1) * ALL_SETS];
        int tenants = 0;
        int sets = 1;
        int each = 1;

        void begin(int houses, int many, int mostEach) {
            sets = 1 << houses;
            tenants = many;
            each = mostEach;
        }

        void tell(int t, int h, int much) {
            liking[t * HOUSES_MOST + h] = much;
        }

        void weigh() {
            for (int set = 0; set < sets; set++) {
                best[tenants * ALL_SETS + set] = 0;
            }
            for (int t = tenants - 1; t >= 0; t--) {
                for (int set = 0; set < sets; set++) {
                    // All parts of a set have smaller numbers: their worth stands by now.
                    worth[set] = worthOf(t, set);
                    best[t * ALL_SETS + set] = bestOf(t, set);
                }
            }
        }

        int howMuch() {
            return best[sets - 1];
        }

        int whoHas(int house) {
            int left = sets - 1;
            for (int t = 0; t < tenants; t++) {
                int part = leastPart(t, left);
                if ((part >> house & 1) == 1) {
                    return t;
                }
                left &= ~part;
            }
            return NONE;
        }

        private int worthOf(int t, int set) {
            if (Integer.bitCount(set) > each) {
                return NONE;
            }
            int much = 0;
            for (int h = 0; h < HOUSES_MOST; h++) {
                if ((set >> h & 1) == 1) {
                    int one = liking[t * HOUSES_MOST + h];
                    if (one <= 0) {
                        return NONE;
                    }
                    much += one;
                }
            }
            return much;
        }

        private int bestOf(int t, int set) {
            int most = 0;
            int part = set;
            for (int i = 0; i <= set; i++) {
                int much = worth[part];
                if (much != NONE) {
                    most = Math.max(most, much + best[(t + 1) * ALL_SETS + (set ^ part)]);
                }
                if (part == 0) {
                    break;
                }
                part = part - 1 & set;
            }
            return most;
        }

        private int leastPart(int t, int set) {
            for (int part = 0; part < sets; part++) {
                int much = worthOf(t, part);
                boolean fits = (part & ~set) == 0 && much != NONE;
                if (fits && much + best[(t + 1) * ALL_SETS + (set ^ part)] == best[t * ALL_SETS + set]) {
                    return part;
                }
            }
            return 0;
        }
    }

    /** The rows as they were ahead of the latest acts, in a ring. */
    private static final class Acts {
        final int[] rows = new int[ACTS_MOST * ROW];
        int first = 0;
        int many = 0;

        void clear() {
            first = 0;
            many = 0;
        }

        void add(int[] row) {
            System.arraycopy(row, 0, rows, (first + many) % ACTS_MOST * ROW, ROW);
            if (many < ACTS_MOST) {
                many++;
            } else {
                first = (first + 1) % ACTS_MOST;
            }
        }

        int takeBack(int[] row) {
            if (many == 0) {
                return NONE;
            }
            many--;
            System.arraycopy(rows, (first + many) % ACTS_MOST * ROW, row, 0, ROW);
            return many;
        }

        void copyFrom(Acts other) {
            System.arraycopy(other.rows, 0, rows, 0, ACTS_MOST * ROW);
            first = other.first;
            many = other.many;
        }
    }

    /** What is seen, each as four numbers side by side. */
    private static final class Seen {
        static final int WIDE = 4;

        final int[] cells = new int[SEEN_MOST * WIDE];
        int many = 0;

        void add(int tenant, int house, int quarters, boolean has) {
            if (many < SEEN_MOST) {
                int at = many * WIDE;
                cells[at] = tenant;
                cells[at + 1] = house;
                cells[at + 2] = quarters;
                cells[at + 3] = has ? 1 : 0;
                many++;
            }
        }

        int lastQuarter() {
            int last = 0;
            for (int i = 0; i < many; i++) {
                last = Math.max(last, cells[i * WIDE + 2]);
            }
            return last;
        }

        /** Whether what is seen of one quarter is so in a row. */
        boolean agrees(int[] row, int quarter) {
            for (int i = 0; i < many; i++) {
                int at = i * WIDE;
                if (cells[at + 2] == quarter) {
                    int has = row[OWNER + cells[at + 1]] == cells[at] ? 1 : 0;
                    if (has != cells[at + 3]) {
                        return false;
                    }
                }
            }
            return true;
        }

        void copyFrom(Seen other) {
            System.arraycopy(other.cells, 0, cells, 0, SEEN_MOST * WIDE);
            many = other.many;
        }
    }

    /** All that an image keeps. */
    private static final class Keep {
        final int[] row = new int[ROW];
        final Acts acts = new Acts();
        final Seen seen = new Seen();
        final int[] status = new int[3];

        /** Another terrace begins; the status goes on. */
        void begin(int[] start) {
            System.arraycopy(start, 0, row, 0, ROW);
            acts.clear();
            seen.many = 0;
        }

        int refuse(int which) {
            status[which]++;
            return NONE;
        }

        void beginAct() {
            acts.add(row);
        }

        /** An act that puts another number at a place of the row: what stood there. */
        int actTo(int place, int number) {
            int before = row[place];
            beginAct();
            row[place] = number;
            return before;
        }

        void copyFrom(Keep other) {
            System.arraycopy(other.row, 0, row, 0, ROW);
            acts.copyFrom(other.acts);
            seen.copyFrom(other.seen);
            System.arraycopy(other.status, 0, status, 0, status.length);
        }
    }
}
