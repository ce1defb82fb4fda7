import java.lang.reflect.Constructor;
import java.lang.reflect.Method;
import java.lang.reflect.Modifier;
import java.util.TreeSet;

/** The headings "What it is", "The public face" and "Not promised", sentence by sentence. */
final class FaceSentences {

    private FaceSentences() {
    }

    static void check() {
        Sentences.under("What it is");
        Sentences.alsoSays("A bridge of planks that is crossed by night.");
        manyCalls();
        Sentences.under("The public face");
        face();
        Sentences.under("Not promised");
        Sentences.alsoSays("How the state is held inside the object is free, as are the speed of each call,"
                + " the text of toString and the behaviour of equals and hashCode. Use of one object from"
                + " several threads at once is not promised to be safe. Nothing is promised beyond the"
                + " answers and state changes described above, and nothing about an object after its"
                + " 512th call.");
    }

    private static void manyCalls() {
        Sentences.says("An object is used for at most 512 calls after it has been made; what later calls"
                + " answer is free.");
        String book = Books.STRONG + "plan p (while 1=1 (rest 99; rest oil; note night;))";
        PlankBridge x = new PlankBridge();
        int calls = 0;
        for (; calls < 80; calls++) {
            String part = calls * 20 < book.length() ? book.substring(calls * 20) : "";
            Checks.feed(x, (part + " ".repeat(20)).getBytes());
        }
        Checks.due("teach() of 1600 bytes", x.teach(), 0);
        int acts = 0;
        for (calls++; calls < 508; calls++) {
            acts += x.runPlan(0);
        }
        Checks.due("all acts", acts, 427 * 100);
        // Each of the 427 runs looks, rests 99 and 60 minutes and notes, 25 times over.
        Checks.due("night()", x.night(), 427 * 25 * 159 / 120);
        Checks.due("minute()", x.minute(), 427 * 25 * 159 % 120);
        Checks.due("notes()", x.notes(), 427 * 25);
        Checks.due("noteOf(0), the 512th call", x.noteOf(0), 427 * 25 * 159 / 120);
    }

    private static void face() {
        TreeSet<String> methods = new TreeSet<>();
        for (String line : Sentences.lines()) {
            Sentences.says(line);
            if (line.equals("}")) {
                Checks.due("the public methods", published().toString(), methods.toString());
            } else if (line.contains("(") && !line.startsWith("public PlankBridge")) {
                methods.add(line);
                Checks.due("whether it is there", published().contains(line), true);
            } else if (line.contains("(")) {
                Constructor<?>[] made = PlankBridge.class.getDeclaredConstructors();
                Checks.due("the only constructor", made.length == 1 && made[0].getParameterCount() == 0
                        && Modifier.isPublic(made[0].getModifiers()), true);
            } else {
                Checks.due("the class", PlankBridge.class.getModifiers(),
                        Modifier.PUBLIC | Modifier.FINAL);
            }
        }
    }

    /** The methods as the document writes them, with their arguments' names taken from there. */
    private static TreeSet<String> published() {
        TreeSet<String> all = new TreeSet<>();
        for (Method method : PlankBridge.class.getDeclaredMethods()) {
            if (!Modifier.isPrivate(method.getModifiers())) {
                all.add(written(method));
            }
        }
        return all;
    }

    private static String written(Method method) {
        StringBuilder all = new StringBuilder(Modifier.toString(method.getModifiers())).append(' ')
                .append(method.getReturnType().getSimpleName()).append(' ').append(method.getName())
                .append('(');
        String[] names = names(method.getName());
        for (int i = 0; i < method.getParameterCount(); i++) {
            all.append(i > 0 ? ", " : "").append(method.getParameterTypes()[i].getSimpleName()).append(' ')
                    .append(i < names.length ? names[i] : "?");
        }
        all.append(')');
        for (int i = 0; i < method.getExceptionTypes().length; i++) {
            all.append(i > 0 ? ", " : " throws ").append(method.getExceptionTypes()[i].getSimpleName());
        }
        return all.append(';').toString();
    }

    private static String[] names(String method) {
        for (String line : Sentences.lines()) {
            if (line.contains(" " + method + "(")) {
                String inside = line.substring(line.indexOf('(') + 1, line.indexOf(')'));
                return inside.replaceAll("[a-z]+ ([a-z]+)", "$1").split(", ");
            }
        }
        return new String[0];
    }
}
