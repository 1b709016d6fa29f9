import java.nio.charset.StandardCharsets;
import java.util.NoSuchElementException;

/** What all tests use: texts come to the tape, answers are held against those that are due. */
final class Due {
    interface Call {
        Object answer();
    }

    private static int wrong = 0;

    private Due() {
    }

    static void same(String call, Object want, Call made) {
        String got = answerOf(made);
        if (!got.equals(String.valueOf(want))) {
            wrong++;
            System.out.println(call + " answered " + got + ", due is " + want);
        }
    }

    static void noSuch(String call, Call made) {
        same(call, "throws.NoSuchElementException", made);
    }

    static void illegal(String call, Call made) {
        same(call, "throws.IllegalArgumentException", made);
    }

    static String answerOf(Call made) {
        try {
            return String.valueOf(made.answer());
        } catch (NoSuchElementException e) {
            return "throws.NoSuchElementException";
        } catch (IllegalArgumentException e) {
            return e.getClass() == IllegalArgumentException.class ? "throws.IllegalArgumentException" : "throws." + e;
        }
    }

    static void feed(DogLeases x, String text) {
        byte[] bytes = text.getBytes(StandardCharsets.ISO_8859_1);
        for (int at = 0; at < bytes.length; at += 20) {
            int[] five = new int[5];
            for (int i = 0; i < 20; i++) {
                int sign = at + i < bytes.length ? bytes[at + i] & 255 : ' ';
                five[i / 4] = five[i / 4] << 8 | sign;
            }
            x.feed(five[0], five[1], five[2], five[3], five[4]);
        }
    }

    static int tell(DogLeases x, String text) {
        feed(x, text);
        return x.terrace(text.length());
    }

    static DogLeases of(String text) {
        DogLeases x = new DogLeases();
        same("terrace of " + text, 0, () -> tell(x, text));
        return x;
    }

    static void end() {
        System.out.println(wrong == 0 ? "all answers are as due" : wrong + " answers are not as due");
        if (wrong != 0) {
            System.exit(1);
        }
    }
}
