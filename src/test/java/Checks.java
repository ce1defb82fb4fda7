import java.nio.charset.StandardCharsets;
import java.util.Arrays;
import java.util.function.Consumer;
import java.util.function.Function;
import java.util.function.Supplier;

/** What the tests share: asking for an answer or an exception, and teaching a book by its text. */
final class Checks {

    private static int asked = 0;
    private static int wrong = 0;
    private static String promise = "";

    private Checks() {
    }

    /** Names the promise that the following checks are about. */
    static void promise(int number, String name) {
        promise = "promise " + number + " (" + name + ")";
    }

    static void about(String text) {
        promise = text;
    }

    static int asked() {
        return asked;
    }

    static void due(String call, Object got, Object want) {
        asked++;
        if (!want.equals(got)) {
            wrong++;
            System.out.println(promise + ": " + call + " answered " + got + ", due is " + want);
        }
    }

    /** The call has to throw exactly this exception, and to change nothing of this object. */
    static void thrown(String call, Class<?> want, PlankBridge x, Runnable run) {
        long digest = x.digest();
        int error = x.errorAt();
        due(call, nameOfThrown(run), want.getSimpleName());
        due("digest() behind " + call, x.digest(), digest);
        due("errorAt() behind " + call, x.errorAt(), error);
    }

    /**
     * The call has to throw exactly this exception, and to change nothing: behind it the object
     * answers all as another one does, which is made the same way and gets no such call.
     */
    static void refused(String call, Class<?> want, Supplier<PlankBridge> make,
            Consumer<PlankBridge> run) {
        PlankBridge x = make.get();
        due(call, nameOfThrown(() -> run.accept(x)), want.getSimpleName());
        due("all that is answered behind " + call, Answers.of(x), Answers.of(make.get()));
    }

    /** The call has to answer this, and to change nothing. */
    static void answered(String call, Object want, Supplier<PlankBridge> make,
            Function<PlankBridge, Object> ask) {
        PlankBridge x = make.get();
        due(call, ask.apply(x), want);
        due("all that is answered behind " + call, Answers.of(x), Answers.of(make.get()));
    }

    static String nameOfThrown(Runnable run) {
        try {
            run.run();
            return "nothing";
        } catch (RuntimeException e) {
            return e.getClass().getSimpleName();
        }
    }

    /** Ends the test: tells how it went, with the exit code 1 if an answer was wrong. */
    static void end() {
        System.out.println(asked + " checks, " + wrong + " wrong");
        if (wrong != 0 || asked == 0) {
            System.exit(1);
        }
    }

    static int feed(PlankBridge x, byte[] five) {
        int[] n = new int[5];
        for (int i = 0; i < 20; i++) {
            n[i / 4] = n[i / 4] << 8 | five[i] & 255;
        }
        return x.feed(n[0], n[1], n[2], n[3], n[4]);
    }

    /** Feeds the text to an empty tape, which then ends just behind it. */
    static void feedText(PlankBridge x, String text) {
        feedBytes(x, text.getBytes(StandardCharsets.ISO_8859_1));
    }

    static void feedBytes(PlankBridge x, byte[] bytes) {
        x.trim(0);
        for (int from = 0; from < bytes.length; from += 20) {
            feed(x, Arrays.copyOfRange(bytes, from, from + 20));
        }
        x.trim(bytes.length);
    }

    static int teach(PlankBridge x, String text) {
        feedText(x, text);
        return x.teach();
    }

    /** A new object that was taught this book. */
    static PlankBridge taught(String text) {
        PlankBridge x = new PlankBridge();
        int error = teach(x, text);
        if (error != 0) {
            due("teach() of " + text + " with an error at " + x.errorAt(), error, 0);
        }
        return x;
    }

    /** Teaches a text to a new object: the error has to be this one, at this position. */
    static void error(String text, int error, int position) {
        PlankBridge x = new PlankBridge();
        String shown = text.length() > 90
                ? text.substring(0, 40) + " .. " + text.substring(text.length() - 40) : text;
        due("teach() of \"" + shown + "\"", teach(x, text), error);
        due("errorAt() behind \"" + shown + "\"", x.errorAt(), position);
    }

    /** Like error(), at the sign | of the text, which is taken out of it. */
    static void errorThere(String text, int error) {
        int position = text.indexOf('|');
        error(text.substring(0, position) + text.substring(position + 1), error, position);
    }

    static String strengths(PlankBridge x) {
        StringBuilder all = new StringBuilder();
        for (int plank = 0; plank < x.planks(); plank++) {
            all.append(plank > 0 ? "," : "").append(x.strengthOf(plank))
                    .append(x.isRotten(plank) ? "r" : "");
        }
        return all.toString();
    }

    /** Who is near, the lamp's side and oil, the night and the minute, and the planks. */
    static String state(PlankBridge x) {
        StringBuilder near = new StringBuilder();
        for (int walker = 0; walker < x.walkers(); walker++) {
            near.append(x.isNear(walker) ? 'n' : 'f');
        }
        return near + (x.isLampNear() ? " n " : " f ") + x.oilLeft() + " " + x.night() + ":"
                + x.minute() + " " + strengths(x);
    }

    /** All notes that are kept, the first one ahead. */
    static String notes(PlankBridge x) {
        StringBuilder all = new StringBuilder();
        for (int back = Math.min(10, x.notes()) - 1; back >= 0; back--) {
            all.append(x.noteOf(back)).append(back > 0 ? " " : "");
        }
        return all.toString();
    }
}
