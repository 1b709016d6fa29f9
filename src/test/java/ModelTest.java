import java.lang.reflect.InvocationTargetException;
import java.lang.reflect.Method;
import java.nio.charset.StandardCharsets;
import java.util.ArrayList;
import java.util.Comparator;
import java.util.List;
import java.util.Random;

/** Runs of calls drawn by fixed seeds, on a DogLeases and on the Model: every answer must be the same. */
public final class ModelTest {
    private static final int RUNS = Integer.getInteger("runs", 700);
    private static final int FIRST = Integer.getInteger("first", 0);
    private static final String[] DOG = {"age", "temper", "quarter", "rent"};
    private static final String[] ALL = {"age", "temper", "quarter", "rent", "chops", "cats", "coins", "held", "houses", "beside", "chops", "held"};
    private static final String[] WILD = {"house", "corner", "tenant", "butcher", "life", "likes", "sleeps", "or", "and", "not", "age",
        "chops", "x", "notx", "(", ")", "+", "-", "*", "/", "<", "=", ";", "0", "7", "61", "100", "1000", "9999", "00001", "12345", "A", "\t", "\u00e9", "\n", " ", ">"};

    private final Random random;
    private final DogLeases real = new DogLeases();
    private final Model model = new Model();
    private final List<String> told = new ArrayList<>();
    private int houses;
    private int tenants;

    private ModelTest(long seed) {
        random = new Random(seed);
    }

    public static void main(String[] args) throws Exception {
        List<Method> face = face();
        long calls = 0;
        for (int run = FIRST; run < FIRST + RUNS; run++) {
            ModelTest one = new ModelTest(run);
            int many = one.play(face);
            if (many < 0) {
                System.out.println("run " + run + " is not as due");
                one.told.stream().skip(Math.max(0, one.told.size() - 60)).forEach(System.out::println);
                System.exit(1);
            }
            calls += many;
        }
        int fine = 0;
        for (int run = FIRST; run < FIRST + 20 * RUNS; run++) {
            ModelTest one = new ModelTest(run);
            if (!one.tell(one.tokens()) || !one.askRules()) {
                System.out.println("tokens of " + run + " are not as due");
                one.told.forEach(System.out::println);
                System.exit(1);
            }
            fine += one.houses;
        }
        System.out.println(RUNS + " runs, " + calls + " calls, " + 20 * RUNS + " rows of tokens, " + fine + " without a fault: all answers are as due");
    }

    /** A rule of tokens that mostly, but not always, may stand where they do. */
    private String tokens() {
        String[] parts = {"1", "0", "7", "age", "rent", "chops", "(", "(", "not", "held", "12", "9999", "x", "or", "12345", ")", "+", ";", "A"};
        String[] joints = {"+", "-", "*", "/", "<", "=", "and", "or", ")", ")", ";", "<", "not", "5", "chops", "(", ">", "likes"};
        StringBuilder some = new StringBuilder("house 7 3 2 0;tenant 4 1 1 50;").append(random.nextInt(4) == 0 ? "sleeps" : "likes");
        boolean wantsPart = true;
        int open = 0;
        for (int many = 1 + random.nextInt(random.nextInt(3) == 0 ? 40 : 12); many > 0; many--) {
            String[] from = wantsPart ? parts : joints;
            String token = from[random.nextInt(random.nextInt(12) == 0 ? from.length : wantsPart ? 12 : open > 0 ? 10 : 8)];
            some.append(random.nextInt(3) == 0 ? "\n" : " ").append(token);
            open += token.equals("(") ? 1 : token.equals(")") ? -1 : 0;
            wantsPart = wantsPart ? token.equals("(") || token.equals("not") : !token.equals(")");
        }
        if (random.nextInt(5) != 0) {
            some.append(wantsPart ? " 3" : "").append(")".repeat(Math.max(0, open))).append(";");
        }
        return some.toString();
    }

    private boolean askRules() throws Exception {
        return both(DogLeases.class.getMethod("liking", int.class, int.class), new Object[] {0, 0})
            && both(DogLeases.class.getMethod("house", int.class, int.class), new Object[] {0, 7})
            && both(DogLeases.class.getMethod("empty", int.class), new Object[] {3});
    }

    private static List<Method> face() {
        List<Method> face = new ArrayList<>();
        for (Method m : DogLeases.class.getDeclaredMethods()) {
            if (java.lang.reflect.Modifier.isPublic(m.getModifiers())) {
                face.add(m);
            }
        }
        face.sort(Comparator.comparing(Method::getName));
        return face;
    }

    private int play(List<Method> face) throws Exception {
        int calls = 0;
        int most = random.nextInt(12) == 0 ? 512 : 40 + random.nextInt(140);
        for (int round = 0; round < most; round++) {
            if (round == 0 || random.nextInt(90) == 0) {
                String text = round > 0 && random.nextInt(2) == 0 ? wildText() : text();
                if (!tell(text)) {
                    return -1;
                }
            } else {
                Method m = face.get(random.nextInt(face.size()));
                if (isRare(m.getName()) && random.nextInt(5) != 0 || isTape(m.getName()) && random.nextInt(40) != 0) {
                    continue;
                }
                if (!both(m, arguments(m))) {
                    return -1;
                }
            }
            calls++;
        }
        return calls;
    }

    /** These take back what makes a run worth its while. */
    private static boolean isRare(String name) {
        return name.equals("restore") || name.equals("undo") || name.equals("forget") || name.equals("lead");
    }

    private static boolean isTape(String name) {
        return name.equals("feed") || name.equals("terrace");
    }

    private boolean tell(String text) throws Exception {
        Method feed = DogLeases.class.getMethod("feed", int.class, int.class, int.class, int.class, int.class);
        Method terrace = DogLeases.class.getMethod("terrace", int.class);
        byte[] bytes = text.getBytes(StandardCharsets.ISO_8859_1);
        told.add("text " + text);
        for (int at = 0; at < bytes.length; at += 20) {
            Object[] five = new Object[5];
            for (int i = 0; i < 5; i++) {
                int n = 0;
                for (int j = 0; j < 4; j++) {
                    int place = at + 4 * i + j;
                    n = n << 8 | (place < bytes.length ? bytes[place] & 255 : ' ');
                }
                five[i] = n;
            }
            if (!both(feed, five)) {
                return false;
            }
        }
        boolean fine = both(terrace, new Object[] {real.count(10) < bytes.length ? real.count(10) : bytes.length})
            && both(DogLeases.class.getMethod("fault"), new Object[0]);
        houses = real.count(0);
        tenants = real.count(1);
        return fine;
    }

    private boolean both(Method m, Object[] arguments) throws Exception {
        Method other = Model.class.getMethod(m.getName(), m.getParameterTypes());
        String got = answer(m, real, arguments);
        String want = answer(other, model, arguments);
        told.add(m.getName() + java.util.Arrays.toString(arguments) + " answered " + got + ", due is " + want);
        return got.equals(want);
    }

    private static String answer(Method m, Object on, Object[] arguments) throws Exception {
        try {
            return String.valueOf(m.invoke(on, arguments));
        } catch (InvocationTargetException e) {
            return "throws." + e.getCause().getClass().getSimpleName();
        }
    }

    private Object[] arguments(Method m) {
        Object[] some = new Object[m.getParameterCount()];
        String name = m.getName();
        for (int i = 0; i < some.length; i++) {
            some[i] = m.getParameterTypes()[i] == boolean.class ? (Object) random.nextBoolean() : (Object) number(name, i, some.length);
        }
        return some;
    }

    private int number(String name, int at, int many) {
        if (random.nextInt(60) == 0) {
            int[] odd = {-1, -2, Integer.MIN_VALUE, Integer.MAX_VALUE, 8, 9, 21, 41, 13, 100};
            return odd[random.nextInt(odd.length)];
        }
        boolean last = at == many - 1;
        switch (name) {
            case "terrace": return random.nextInt(3) - 1;
            case "count": return random.nextInt(15);
            case "house": return last ? random.nextInt(8) : aHouse();
            case "tenant": return last ? random.nextInt(6) : aTenant();
            case "quarters": return random.nextInt(4) == 0 ? random.nextInt(23) : 1 + random.nextInt(3);
            case "buy": return last ? random.nextInt(random.nextInt(2) == 0 ? 11 : 4) : aTenant();
            case "cats": return last ? random.nextInt(5) : aTenant();
            case "lead": return aHouse();
            case "temper": return last ? random.nextInt(11) : aHouse();
            case "then": return last ? random.nextInt(42) : aHouse();
            case "purse": return last ? random.nextInt(2) : at == 1 ? random.nextInt(41) : aTenant();
            case "sealed": case "loses": return aHouse();
            case "gets": case "leastChops": return last ? aHouse() : aTenant();
            case "most": case "empty": return random.nextInt(41);
            case "row": case "toWin": return last ? random.nextInt(2) : aTenant();
            case "liking": return last ? aTenant() : aHouse();
            case "ruin": case "beside": case "envy": return aTenant();
            case "share": return last ? 1 + random.nextInt(8) : aHouse() - random.nextInt(2);
            case "oldest": case "look": return random.nextInt(2);
            case "pockets": return random.nextInt(3);
            case "see": return at == 0 ? aTenant() : at == 1 ? aHouse() : random.nextInt(3) == 0 ? random.nextInt(14) : 1 + random.nextInt(2);
            case "game": return last ? random.nextInt(2) : aTenant();
            case "years": return last ? random.nextInt(3) : at == 1 ? random.nextInt(41) : random.nextInt();
            default: return random.nextInt(10);
        }
    }

    private int aHouse() {
        return houses == 0 || random.nextInt(40) == 0 ? random.nextInt(9) : random.nextInt(houses);
    }

    private int aTenant() {
        return tenants == 0 || random.nextInt(40) == 0 ? random.nextInt(8) : random.nextInt(tenants);
    }

    private String text() {
        List<String> lines = new ArrayList<>();
        int h = random.nextInt(12) == 0 ? 8 : random.nextInt(20) == 0 ? 0 : 1 + random.nextInt(5);
        int t = random.nextInt(12) == 0 ? 7 : random.nextInt(20) == 0 ? 0 : 2 + random.nextInt(4);
        int young = random.nextInt(3) == 0 ? 61 : 12;
        for (int i = 0; i < h; i++) {
            lines.add((random.nextInt(4) == 0 ? "corner " : "house ") + random.nextInt(random.nextBoolean() ? 100 : 12) + " " + random.nextInt(young) + " "
                + random.nextInt(10) + " " + random.nextInt(random.nextBoolean() ? 6 : 2));
        }
        for (int i = 0; i < t; i++) {
            lines.add((random.nextInt(4) == 0 ? "butcher " : "tenant ") + random.nextInt(random.nextInt(3) == 0 ? 21 : 5) + " "
                + random.nextInt(random.nextInt(3) == 0 ? 10 : 4) + " " + random.nextInt(4) + " " + random.nextInt(random.nextBoolean() ? 1000 : 30));
        }
        if (random.nextInt(3) != 0) {
            lines.add("life " + (1 + random.nextInt(random.nextInt(3) != 0 ? 99 : 15)));
        }
        if (random.nextInt(3) != 0) {
            lines.add("likes " + (random.nextInt(3) == 0 ? "chops*3+held*2-cats*temper+beside*4-houses*3+" : "") + expression(ALL, 3));
        }
        if (random.nextInt(2) != 0) {
            lines.add("sleeps " + (random.nextInt(3) == 0 ? expression(DOG, 2) : (5 + random.nextInt(40)) + " < age"));
        }
        java.util.Collections.shuffle(lines, random);
        StringBuilder all = new StringBuilder();
        lines.forEach(line -> all.append(line).append(random.nextBoolean() ? ";" : " ;\n "));
        return all.length() > 700 ? "" : all.toString();
    }

    private String expression(String[] words, int deep) {
        String[] joints = {" + ", " - ", "*", "/", "<", "=", " and ", " or ", "+", "-", "+"};
        StringBuilder some = new StringBuilder();
        int parts = 1 + random.nextInt(4);
        boolean tested = false;
        boolean start = true;
        for (int i = 0; i < parts; i++) {
            for (int nots = start && random.nextInt(6) == 0 ? 1 + random.nextInt(2) : 0; nots > 0; nots--) {
                some.append("not ");
            }
            if (deep > 0 && random.nextInt(4) == 0) {
                some.append("(").append(expression(words, deep - 1)).append(")");
            } else {
                some.append(random.nextInt(3) == 0 ? String.valueOf(random.nextInt(random.nextInt(6) == 0 ? 10000 : 12)) : words[random.nextInt(words.length)]);
            }
            if (i + 1 < parts) {
                String joint = joints[random.nextInt(joints.length)];
                if (tested && (joint.equals("<") || joint.equals("="))) {
                    joint = " or ";
                }
                start = joint.equals(" and ") || joint.equals(" or ");
                tested = joint.equals("<") || joint.equals("=") || tested && !start;
                some.append(joint);
            }
        }
        return some.toString();
    }

    private String wildText() {
        StringBuilder some = new StringBuilder(text());
        if (random.nextInt(3) == 0) {
            some.append(random.nextBoolean() ? "likes " : "sleeps ");
            for (int i = random.nextInt(9); i > 0; i--) {
                some.append("not ((((((".charAt(random.nextInt(10)) == '(' ? "(" : "not ");
            }
            some.append("1");
        }
        for (int i = random.nextInt(3); i >= 0 && some.length() > 0; i--) {
            int at = random.nextInt(some.length());
            if (random.nextInt(3) != 0) {
                some.deleteCharAt(at);
            }
            if (random.nextInt(3) != 0) {
                some.insert(at, WILD[random.nextInt(WILD.length)]);
            }
        }
        return some.length() > 700 ? some.substring(0, 700) : some.toString();
    }
}
