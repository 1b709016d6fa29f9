import java.io.IOException;
import java.lang.reflect.InvocationTargetException;
import java.lang.reflect.Method;
import java.nio.file.Files;
import java.nio.file.Path;
import java.util.ArrayList;
import java.util.List;
import java.util.NoSuchElementException;

/** What the tests of boundary cases use: a sentence of the document, and runs of calls written as text, each with the answer that is due. */
final class Edge {
    private static final String DOC = readDoc();
    private static final int STATUS_AT = 11;
    private static final int CALLS_MOST = 512;

    private static String sentence = "";

    private Edge() {
    }

    /** What follows tests this sentence, which must stand in the document. */
    static void sentence(String quote) {
        sentence = quote;
        Due.same("the document says: " + quote, true, () -> DOC.contains(bare(quote)));
    }

    static DogLeases of(String text) {
        return Due.of(text);
    }

    static void due(String text, String run) {
        due(of(text), run);
    }

    /** Of a run such as "quarters(1)=1 house(9,0)=NoSuch" each call is made and its answer looked at. */
    static void due(DogLeases x, String run) {
        for (String one : run.split(" +")) {
            int at = one.lastIndexOf('=');
            String call = one.substring(0, at);
            String want = one.substring(at + 1);
            String got = answer(x, call);
            Due.same("[" + sentence + "] " + call + " in " + run, want, () -> got);
        }
    }

    static void fine(String text) {
        fault(text, 0, -1);
    }

    static void fault(String text, int kind, int place) {
        DogLeases x = new DogLeases();
        Due.same("[" + sentence + "] fault of " + text, kind + "@" + place, () -> Due.tell(x, text) + "@" + x.fault());
        Due.same("[" + sentence + "] status of " + text, kind == 0 ? 0 : 1, () -> x.count(STATUS_AT));
    }

    /** An EXPR that nothing but numbers are in, or the values of house 7 3 2 0 and tenant 4 1 1 50. */
    static void gives(String expression, int want) {
        DogLeases x = Due.of("house 7 3 2 0;tenant 4 1 1 50;likes " + expression + ";");
        Due.same("[" + sentence + "] " + expression, want, () -> x.liking(0, 0));
    }

    static String answer(DogLeases x, String call) {
        int open = call.indexOf('(');
        String name = call.substring(0, open);
        String inside = call.substring(open + 1, call.length() - 1);
        String[] words = inside.isEmpty() ? new String[0] : inside.split(",");
        Method method = methodOf(name);
        Object[] args = new Object[words.length];
        for (int i = 0; i < words.length; i++) {
            args[i] = method.getParameterTypes()[i] == boolean.class ? (Object) Boolean.valueOf(words[i]) : (Object) number(words[i]);
        }
        try {
            Object answer = method.invoke(x, args);
            return answer == null ? "-" : answer.toString();
        } catch (InvocationTargetException e) {
            return nameOf(e.getCause());
        } catch (IllegalAccessException e) {
            return "not public";
        }
    }

    /** The call is answered as is due, and nothing that a later call shows is otherwise than without it, but a STATUS (-1: none). */
    static void unchanged(String text, String before, String call, String want, int status) {
        for (int part = 0; part < 5; part++) {
            DogLeases without = played(text, before);
            DogLeases with = played(text, before);
            String got = answer(with, call);
            Due.same("[" + sentence + "] " + call + " behind " + before, want == null ? got : want, () -> got);
            List<String> due = Later.of(without, part);
            List<String> is = Later.of(with, part);
            String first = firstOther(due, is, status);
            Due.same("[" + sentence + "] what is otherwise behind " + call + " behind " + before, "", () -> first);
        }
    }

    /** Whatever calls come between an image and its return, later calls show nothing of them. */
    static void back(String text, String before, String between) {
        for (int part = 0; part < 5; part++) {
            DogLeases without = played(text, before + " image()");
            DogLeases with = played(text, before + " image() " + between);
            Due.same("[" + sentence + "] restore behind " + between, true, () -> with.restore());
            List<String> due = Later.of(without, part);
            List<String> is = Later.of(with, part);
            String first = firstOther(due, is, -1);
            Due.same("[" + sentence + "] what is otherwise behind restore() behind " + between + " behind " + before, "", () -> first);
        }
    }

    /** A question changes nothing, whatever its answer is. */
    static void asked(String text, String before, String... questions) {
        for (String call : questions) {
            unchanged(text, before, call, null, -1);
        }
    }

    /** A text with a FAULT comes to an empty tape: nothing is otherwise but its place and a STATUS. */
    static void unchangedByText(String text, String before, String faulty, int want) {
        for (int part = 0; part < 5; part++) {
            DogLeases without = played(text, before);
            DogLeases with = played(text, before);
            Due.same("[" + sentence + "] " + faulty + " behind " + before, want, () -> Due.tell(with, faulty));
            List<String> due = Later.of(without, part);
            List<String> is = Later.of(with, part);
            due.removeIf(one -> one.startsWith("fault()"));
            is.removeIf(one -> one.startsWith("fault()"));
            String first = firstOther(due, is, 0);
            Due.same("[" + sentence + "] what is otherwise behind " + faulty + " behind " + before, "", () -> first);
        }
    }

    private static DogLeases played(String text, String before) {
        DogLeases x = of(text);
        for (String call : before.split(" +")) {
            if (!call.isEmpty()) {
                answer(x, call);
            }
        }
        return x;
    }

    private static String firstOther(List<String> due, List<String> is, int status) {
        boolean isRestored = due.get(0).equals("restore()=true");
        for (int i = 0; i < due.size() && i < is.size(); i++) {
            String want = due.get(i);
            String counts = "count(" + (STATUS_AT + status) + ")=";
            if (status >= 0 && !isRestored && want.startsWith(counts)) {
                want = counts + (1 + Integer.parseInt(want.substring(counts.length())));
            }
            if (!want.equals(is.get(i))) {
                return is.get(i) + ", not " + want;
            }
        }
        return due.size() == is.size() ? "" : "the number of calls";
    }

    private static int number(String word) {
        return word.equals("MIN") ? Integer.MIN_VALUE : word.equals("MAX") ? Integer.MAX_VALUE : Integer.parseInt(word);
    }

    private static Method methodOf(String name) {
        for (Method method : DogLeases.class.getDeclaredMethods()) {
            if (method.getName().equals(name)) {
                return method;
            }
        }
        throw new IllegalStateException("no method " + name);
    }

    private static String nameOf(Throwable thrown) {
        return thrown.getClass() == NoSuchElementException.class ? "NoSuch"
            : thrown.getClass() == IllegalArgumentException.class ? "Illegal" : thrown.toString();
    }

    private static String bare(String text) {
        return text.replaceAll("\\s+", " ");
    }

    private static String readDoc() {
        try {
            return bare(Files.readString(Path.of("../shared/DOC.md")));
        } catch (IOException e) {
            throw new IllegalStateException(e);
        }
    }

    /** All that later calls can show, in parts of which each stays under the calls that an object is used for. */
    private static final class Later {
        private final DogLeases x;
        private final List<String> said = new ArrayList<>();

        private Later(DogLeases x) {
            this.x = x;
        }

        static List<String> of(DogLeases x, int part) {
            Later later = new Later(x);
            switch (part) {
                case 0: later.undoAll(); break;
                case 1: later.tellAhead(); break;
                case 2: later.tellChoices(); break;
                case 3: later.restoreAll(); break;
                default: later.readTape(); break;
            }
            return later.said;
        }

        private void say(String name, Object... args) {
            StringBuilder call = new StringBuilder(name).append('(');
            for (int i = 0; i < args.length; i++) {
                call.append(i == 0 ? "" : ",").append(args[i]);
            }
            call.append(')');
            said.add(call + "=" + answer(x, call.toString()));
            if (said.size() > CALLS_MOST) {
                throw new IllegalStateException("an object is not used for so many calls");
            }
        }

        private void tellState() {
            for (int what = 0; what < 14; what++) {
                say("count", what);
            }
            say("fault");
            int houses = x.count(0);
            int tenants = x.count(1);
            for (int h = 0; h < houses; h++) {
                for (int what = 0; what < 8; what++) {
                    say("house", h, what);
                }
            }
            for (int t = 0; t < tenants; t++) {
                for (int what = 0; what < 6; what++) {
                    say("tenant", t, what);
                }
            }
        }

        private void undoAll() {
            tellState();
            for (int i = 0; i <= 40; i++) {
                say("undo");
                say("count", 3);
                say("count", 6);
                say("count", 7);
                say("house", 0, 2);
                say("tenant", 0, 2);
            }
            tellState();
        }

        private void tellAhead() {
            int houses = x.count(0);
            int tenants = x.count(1);
            for (int q : new int[] {0, 1, 2, 5, 40}) {
                say("most", q);
                say("empty", q);
                for (int h = 0; h < houses; h++) {
                    say("then", h, q);
                }
                for (int t = 0; t < tenants; t++) {
                    say("purse", t, q, 0);
                    say("purse", t, q, 1);
                }
            }
            for (int h = 0; h < houses; h++) {
                say("sealed", h);
                say("loses", h);
                for (int t = 0; t < tenants; t++) {
                    say("gets", t, h);
                    say("liking", h, t);
                }
            }
            for (int t = 0; t < tenants; t++) {
                say("row", t, 0);
                say("row", t, 1);
                say("beside", t);
                say("envy", t);
            }
            say("oldest", 0);
            say("oldest", 1);
            say("quarters", 3);
            tellState();
        }

        private void tellChoices() {
            int houses = x.count(0);
            int tenants = x.count(1);
            for (int t = 0; t < tenants; t++) {
                for (int h = 0; h < houses; h++) {
                    say("leastChops", t, h);
                }
                for (int what = 0; what < 2; what++) {
                    say("toWin", t, what);
                    say("game", t, (t + 1) % tenants, what);
                }
                say("ruin", t);
            }
            for (int h = -1; h < houses; h++) {
                say("share", h, 1);
                say("share", h, 8);
            }
            for (int what = 0; what < 3; what++) {
                say("years", 5, 7, what);
                say("years", -9, 40, what);
            }
            tellSeen();
            for (int i = 1; i <= 9; i++) {
                say("see", 0, 0, i, i % 2 == 0);
                say("pockets", 0);
            }
            say("forget");
            tellSeen();
        }

        private void tellSeen() {
            say("count", 9);
            for (int what = 0; what < 3; what++) {
                say("pockets", what);
            }
            say("look", 0);
            say("look", 1);
        }

        private void restoreAll() {
            say("restore");
            tellSeen();
            undoAll();
            say("restore");
            say("count", 8);
        }

        private void readTape() {
            int size = x.count(10);
            say("feed", 0x6c696665, 0x2037373b, 0x20202020, 0x20202020, 0x20202020);
            say("terrace", Math.min(size, x.count(10)));
            say("restore");
            tellState();
        }
    }
}
