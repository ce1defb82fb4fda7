import java.lang.reflect.Constructor;
import java.lang.reflect.Field;
import java.lang.reflect.Method;
import java.lang.reflect.Modifier;
import java.util.TreeSet;

/** Promises 1, 43 and 44, and the public face. */
public final class WholeTest {

    private static final String FACE = "feed(int,int,int,int,int):int!IllegalState"
            + " trim(int):int!IllegalArgument teach():int errorAt():int walkers():int planks():int"
            + " plans():int weightOf(int):int!IndexOutOfBounds minutesOf(int):int!IndexOutOfBounds"
            + " isNear(int):boolean!IndexOutOfBounds walkersNear():int"
            + " strengthOf(int):int!IndexOutOfBounds bears(int):int!IndexOutOfBounds"
            + " isRotten(int):boolean!IndexOutOfBounds missingPlanks():int"
            + " weakestPlank():int!IllegalState isPassable():boolean heaviestLoad():int!IllegalState"
            + " isLampNear():boolean oilLeft():int night():int minute():int isWeakNight():boolean"
            + " crossAlone(int):boolean!IndexOutOfBounds!IllegalState"
            + " crossTogether(int,int):boolean!IndexOutOfBounds!IllegalArgument!IllegalState"
            + " rest(int):int!IllegalArgument layPlank(int,int):int!IndexOutOfBounds!IllegalArgument"
            + " runPlan(int):int!IndexOutOfBounds crossings():int falls():int notes():int"
            + " noteOf(int):int!IndexOutOfBounds canCrossAlone(int):boolean!IndexOutOfBounds"
            + " canCrossTogether(int,int):boolean!IndexOutOfBounds!IllegalArgument"
            + " fewestMinutes():int firstToCross():int!IllegalState secondToCross():int!IllegalState"
            + " actsOfPlan(int):int!IndexOutOfBounds farBehindPlan(int):int!IndexOutOfBounds"
            + " minutesOfPlan(int):int!IndexOutOfBounds bestPlan():int!IllegalState"
            + " meanStrength():double digest():long";

    public static void main(String[] args) {
        newObject();
        meanStrength();
        digest();
        face();
        Checks.end();
    }

    private static void newObject() {
        Checks.promise(1, "a new object");
        PlankBridge x = new PlankBridge();
        Checks.due("walkers()", x.walkers(), 0);
        Checks.due("walkersNear()", x.walkersNear(), 0);
        Checks.due("planks()", x.planks(), 4);
        Checks.due("the planks", Checks.strengths(x), "10,10,10,10");
        Checks.due("plans()", x.plans(), 0);
        Checks.due("night()", x.night(), 0);
        Checks.due("minute()", x.minute(), 0);
        Checks.due("isWeakNight()", x.isWeakNight(), false);
        Checks.due("isLampNear()", x.isLampNear(), true);
        Checks.due("oilLeft()", x.oilLeft(), 60);
        Checks.due("what is counted", x.crossings() + x.falls() + x.notes(), 0);
        Checks.due("errorAt()", x.errorAt(), -1);
        Checks.due("trim(0)", x.trim(0), 0);
        PlankBridge y = new PlankBridge();
        x.rest(600);
        x.layPlank(0, 3);
        Checks.due("another object", Checks.strengths(y) + y.night(), "10,10,10,100");
        Checks.due("the first one", Checks.strengths(x), "3,10r,10,10");
    }

    private static void meanStrength() {
        Checks.promise(43, "meanStrength");
        Checks.due("meanStrength() of a new object", new PlankBridge().meanStrength(), 10.0);
        PlankBridge x = Checks.taught("walker a weighs 9 takes 1;planks 30,30,20,1,1,30,1;");
        Checks.due("meanStrength()", x.meanStrength(), 113.0 / 7.0);
        x.crossAlone(0);
        Checks.due("meanStrength() with missing ones", x.meanStrength(), 111.0 / 7.0);
        x.rest(240);
        Checks.due("meanStrength() in a weak night", x.meanStrength(), 111.0 / 7.0);
        Checks.due("meanStrength() of 1, 1, 1, 2", Checks.taught("planks 1,1,1,2;").meanStrength(), 1.25);
    }

    private static void digest() {
        Checks.promise(44, "digest");
        PlankBridge x = new PlankBridge();
        Checks.due("digest() of a new object", x.digest(), sum(0, 4, 0, 1, 60, 0, 0, 0, 0, 0, 0, 1, 0,
                10, 10, 0, 10, 10, 0, 10, 10, 0, 10, 10, 0));
        Checks.teach(x, "walker a weighs 9 takes 4;walker b weighs 1 takes 7;planks 5,18,9,20,30;"
                + "plan p (note 0; note 1; note 2; note 3; note 4;)");
        x.runPlan(0);
        x.crossTogether(1, 0);
        Checks.due("digest() with 5 notes", x.digest(), sum(2, 5, 1, 0, 53, 0, 7, 1, 0, 5, 2, 1, 0,
                9, 4, 0, 1, 7, 0, 0, 0, 0, 17, 17, 0, 0, 0, 0, 20, 20, 0, 30, 30, 0, 4, 3, 2, 1, 0));
        x.rest(240);
        x.runPlan(0);
        x.runPlan(0);
        x.crossAlone(0);
        Checks.due("digest() with 15 notes, in a weak night", x.digest(), sum(2, 5, 1, 1, 56, 2, 11,
                2, 0, 15, 2, 1, 4, 9, 4, 1, 1, 7, 0, 0, 0, 0, 16, 13, 1, 0, 0, 0, 19, 16, 0, 30, 27, 0,
                4, 3, 2, 1, 0, 4, 3, 2, 1, 0));
        x.layPlank(3, 3);
        x.crossAlone(0);
        Checks.due("digest() behind a fall", x.digest(), sum(2, 5, 1, 1, 52, 2, 15,
                2, 1, 15, 3, 0, 4, 9, 4, 1, 1, 7, 0, 0, 0, 0, 15, 12, 1, 0, 0, 0, 0, 0, 0, 30, 27, 0,
                4, 3, 2, 1, 0, 4, 3, 2, 1, 0));
    }

    private static long sum(long... numbers) {
        long d = 1889;
        for (long x : numbers) {
            d = d * 31 + x;
        }
        return d;
    }

    private static void face() {
        Checks.about("the public face");
        TreeSet<String> found = new TreeSet<>();
        for (Method method : PlankBridge.class.getDeclaredMethods()) {
            if (!Modifier.isPrivate(method.getModifiers())) {
                found.add(told(method));
            }
        }
        TreeSet<String> due = new TreeSet<>();
        for (String method : FACE.split(" ")) {
            due.add(method);
        }
        Checks.due("the methods", found.toString(), due.toString());
        Constructor<?>[] made = PlankBridge.class.getDeclaredConstructors();
        Checks.due("the constructor", made.length == 1 && made[0].getParameterCount() == 0
                && Modifier.isPublic(made[0].getModifiers()), true);
        Checks.due("a public final class", PlankBridge.class.getModifiers(),
                Modifier.PUBLIC | Modifier.FINAL);
        for (Field field : PlankBridge.class.getDeclaredFields()) {
            Checks.due("private " + field, Modifier.isPrivate(field.getModifiers()), true);
        }
    }

    private static String told(Method method) {
        StringBuilder all = new StringBuilder(method.getName()).append("(");
        for (Class<?> of : method.getParameterTypes()) {
            all.append(all.charAt(all.length() - 1) == '(' ? "" : ",").append(of.getSimpleName());
        }
        all.append("):").append(method.getReturnType().getSimpleName());
        for (Class<?> thrown : method.getExceptionTypes()) {
            all.append("!").append(thrown.getSimpleName().replace("Exception", ""));
        }
        return all.toString();
    }
}
