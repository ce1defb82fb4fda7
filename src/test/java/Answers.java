/** All that an object answers, as one text. */
final class Answers {

    private final StringBuilder all = new StringBuilder();
    private final PlankBridge x;

    private Answers(PlankBridge x) {
        this.x = x;
    }

    /** Asks for all, at last by calls that change the object, so that it is used up. */
    static String of(PlankBridge x) {
        Answers answers = new Answers(x);
        answers.asked();
        answers.tape();
        answers.later();
        return answers.all.toString();
    }

    /** What can be asked without a change. */
    static String now(PlankBridge x) {
        Answers answers = new Answers(x);
        answers.asked();
        return answers.all.toString();
    }

    private void add(String call, Object answer) {
        all.append(call).append('=').append(answer).append(' ');
    }

    private void asked() {
        add("errorAt", x.errorAt());
        add("state", Checks.state(x));
        add("counted", x.crossings() + "," + x.falls() + "," + x.notes());
        add("notes", Checks.notes(x));
        add("digest", x.digest());
        add("planks", x.missingPlanks() + "," + x.isPassable() + "," + x.meanStrength());
        for (int plank = 0; plank < x.planks(); plank++) {
            add("bears", x.bears(plank));
        }
        for (int walker = 0; walker < x.walkers(); walker++) {
            add("walker", x.weightOf(walker) + "," + x.minutesOf(walker));
            add("can", x.canCrossAlone(walker));
        }
        for (int plan = 0; plan < x.plans(); plan++) {
            add("plan", x.actsOfPlan(plan) + "," + x.farBehindPlan(plan) + ","
                    + x.minutesOfPlan(plan));
        }
        add("ways", x.fewestMinutes());
        if (x.walkersNear() > 0) {
            add("first", x.firstToCross() + "," + x.secondToCross());
        }
    }

    /** How long the tape is, and what it tells. */
    private void tape() {
        int bytes = lengthOfTape();
        add("tape", x.trim(bytes));
        add("teach", x.teach());
        add("errorAt", x.errorAt());
        add("state", Checks.state(x));
        add("digest", x.digest());
    }

    private int lengthOfTape() {
        try {
            return x.feed(0, 0, 0, 0, 0) - 20;
        } catch (IllegalStateException e) {
            return lengthOfFullTape();
        }
    }

    private int lengthOfFullTape() {
        for (int bytes = 1600; bytes > 1580; bytes--) {
            int tried = bytes;
            if (Checks.nameOfThrown(() -> x.trim(tried)).equals("nothing")) {
                return bytes;
            }
        }
        return -1;
    }

    /** How it goes on. */
    private void later() {
        for (int plan = 0; plan < x.plans(); plan++) {
            add("run", x.runPlan(plan));
            add("state", Checks.state(x));
        }
        for (int i = 0; i < 3; i++) {
            add("rest", x.rest(361));
            add("state", Checks.state(x));
        }
        add("digest", x.digest());
    }
}
