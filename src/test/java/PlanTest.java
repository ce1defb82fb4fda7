/** Promises 29, 32, 33 and 39 to 42: plans that are run, and what they would do. */
public final class PlanTest {

    private static final Class<?> NO_SUCH = IndexOutOfBoundsException.class;

    private static final String THREE = "walker a weighs 3 takes 1;walker b weighs 4 takes 2;"
            + "walker c weighs 6 takes 5;";
    private static final String STRONG = "planks 30,30,30,30;";

    public static void main(String[] args) {
        runPlan();
        actsThatCannotBeDone();
        hundredActs();
        doAct();
        whileAct();
        ifAct();
        compares();
        measures();
        choices();
        equals();
        sendAct();
        restAct();
        mendAct();
        notes();
        actsOfPlan();
        farBehindPlan();
        minutesOfPlan();
        bestPlan();
        Checks.end();
    }

    private static PlankBridge with(String plans) {
        return Checks.taught(THREE + STRONG + plans);
    }

    /** The acts that this block does on a new bridge of three walkers, and what it notes. */
    private static void run(String block, int acts, String notes) {
        PlankBridge x = with("plan p " + block);
        Checks.due("actsOfPlan(0) of " + block, x.actsOfPlan(0), acts);
        Checks.due("notes() behind it", x.notes(), 0);
        Checks.due("runPlan(0) of " + block, x.runPlan(0), acts);
        Checks.due("the notes of " + block, Checks.notes(x), notes);
    }

    private static void runPlan() {
        Checks.promise(29, "runPlan");
        run("()", 0, "");
        run("(note 7;)", 1, "7");
        run("(note 1; rest 5; note minute; send a; note far;)", 5, "1 5 1");
        PlankBridge x = with("plan p (rest 10; send b with a;) plan q (send a; rest 99;)");
        Checks.due("runPlan(0)", x.runPlan(0), 2);
        Checks.due("walkersNear()", x.walkersNear(), 1);
        Checks.due("minute()", x.minute(), 12);
        Checks.due("oilLeft()", x.oilLeft(), 58);
        Checks.due("crossings()", x.crossings(), 1);
        Checks.due("runPlan(1)", x.runPlan(1), 2);
        Checks.due("isLampNear()", x.isLampNear(), true);
        Checks.due("minute()", x.minute(), 112);
        Checks.due("runPlan(0) again, which now only rests", x.runPlan(0), 1);
        Checks.due("night() and minute()", x.night() * 1000 + x.minute(), 1002);
        for (int plan : new int[] {-1, 2, 6, Integer.MAX_VALUE, Integer.MIN_VALUE}) {
            Checks.thrown("runPlan(" + plan + ")", NO_SUCH, x, () -> x.runPlan(plan));
        }
        PlankBridge none = new PlankBridge();
        Checks.thrown("runPlan(0) of none", NO_SUCH, none, () -> none.runPlan(0));
    }

    private static void actsThatCannotBeDone() {
        Checks.promise(29, "runPlan, acts that cannot be done");
        run("(note 1; send a; send b; note 2;)", 2, "1");
        run("(note 1; send a with a; note 2;)", 1, "1");
        run("(note 1; mend 5; note 2;)", 1, "1");
        run("(if 1=1 (while 1=1 (note 1; mend 5; note 2;) note 3;) note 4;)", 3, "1");
        PlankBridge x = with("plan p (note 1; mend 5;) plan q (note 2; do p; note 3;)"
                + "plan r (note 4;)");
        Checks.due("runPlan(1) with a do that ends the run", x.runPlan(1), 3);
        Checks.due("the notes", Checks.notes(x), "2 1");
        Checks.due("runPlan(0) behind it", x.runPlan(0), 1);
        Checks.due("runPlan(1) again", x.runPlan(1), 3);
        Checks.due("runPlan(2) behind it", x.runPlan(2), 1);
        Checks.due("the notes", Checks.notes(x), "2 1 1 2 1 4");
    }

    private static void hundredActs() {
        Checks.promise(29, "runPlan, 100 acts");
        // A look and a note by turns: the 100th act is a note.
        PlankBridge x = with("plan p (while 1=1 (note 5;))");
        Checks.due("runPlan(0)", x.runPlan(0), 100);
        Checks.due("notes()", x.notes(), 50);
        run("(while 1=1 ())", 100, "");
        PlankBridge y = with("plan p (note 0; while 1=1 (note 5;))");
        Checks.due("runPlan(0) with a look at last", y.runPlan(0), 100);
        Checks.due("notes()", y.notes(), 50);
        PlankBridge z = with("plan p (while 1=1 (rest 1; rest 1;))");
        Checks.due("runPlan(0) of rests", z.runPlan(0), 100);
        Checks.due("minute()", z.minute(), 66);
        PlankBridge w = with("plan p (while 1=1 (send a;))");
        Checks.due("runPlan(0) of crossings", w.runPlan(0), 100);
        Checks.due("crossings()", w.crossings(), 50);
        // A do of q and all its acts are 51: the 100th one is the note 7 in the fifth p of the second q.
        PlankBridge v = with("plan p (note 1;note 2;note 3;note 4;note 5;note 6;note 7;note 8;note 9;)"
                + "plan q (do p;do p;do p;do p;do p;) plan r (do q;do q;do q;)");
        Checks.due("runPlan(1)", v.runPlan(1), 50);
        Checks.due("runPlan(2)", v.runPlan(2), 100);
        Checks.due("the notes", Checks.notes(v), "7 8 9 1 2 3 4 5 6 7");
        Checks.due("notes()", v.notes(), 45 + 45 + 36 + 7);
        // Just 100, with the end of the plan.
        PlankBridge u = with("plan p (note 1;note 2;note 3;note 4;) plan q (do p;do p;do p;do p;do p;"
                + "do p;do p;do p;do p;do p;do p;do p;do p;do p;do p;do p;do p;do p;do p;do p;)");
        Checks.due("runPlan(1) of just 100", u.runPlan(1), 100);
        Checks.due("notes()", u.notes(), 80);
    }

    private static void doAct() {
        Checks.promise(29, "runPlan, do");
        PlankBridge x = with("plan p () plan q (do p; note 1; do p; do p;)"
                + "plan r (do q; note 2; do q;) plan s (if 1=1 (do r;) note 3;)"
                + "plan t (do s; note 4;) plan u (while night=0 (do t; rest 99; rest 99;) note 5;)");
        Checks.due("runPlan(0)", x.runPlan(0), 0);
        Checks.due("runPlan(1)", x.runPlan(1), 4);
        Checks.due("runPlan(2)", x.runPlan(2), 11);
        Checks.due("the notes so far", Checks.notes(x), "1 1 2 1");
        Checks.due("runPlan(3)", x.runPlan(3), 14);
        Checks.due("runPlan(4)", x.runPlan(4), 16);
        Checks.due("runPlan(5)", x.runPlan(5), 1 + 17 + 2 + 1 + 1);
        Checks.due("the notes", Checks.notes(x), "2 1 3 4 1 2 1 3 4 5");
    }

    private static void whileAct() {
        Checks.promise(29, "runPlan, while");
        run("(while minute<3 (rest 1;) note minute;)", 8, "3");
        run("(while minute>3 (rest 1;) note 1;)", 2, "1");
        run("(while minute>3 () note 1;)", 2, "1");
        run("(while near>1 (send fastest with slowest;))", 3, "");
        run("(while near>0 (send fastest with slowest; if near>0 (send fastest;)))", 8, "");
        run("(while minute<2 (while oil<9 () note minute; rest 1;) note 9;)", 3 + 2 * 3 + 1, "0 1 9");
        run("(while minute<4 (rest 1; while minute=2 (note 2; rest 1;)))", 13, "2");
        run("(while minute<2 (if minute=1 (rest 1;) else (rest 1; note 1;)))", 8, "1");
    }

    private static void ifAct() {
        Checks.promise(29, "runPlan, if");
        run("(if 1=1 (note 1;) else (note 2;) note 3;)", 3, "1 3");
        run("(if 1=2 (note 1;) else (note 2;) note 3;)", 3, "2 3");
        run("(if 1=1 (note 1;) note 3;)", 3, "1 3");
        run("(if 1=2 (note 1;) note 3;)", 2, "3");
        run("(if 1=1 () else (note 2;) note 3;)", 2, "3");
        run("(if 1=2 (note 1;) else () note 3;)", 2, "3");
        run("(if 1=2 () else () if 1=1 () if 1=2 ())", 3, "");
        run("(if 1=2 (note 1;) else (if 1=2 (note 2;) else (note 3;)) note 4;)", 4, "3 4");
        run("(if 1=1 (if 1=2 (note 1;) else (note 2;)) else (note 3;) note 4;)", 4, "2 4");
        run("(if 1=1 (if 1=2 (note 1;)) else (note 3;))", 2, "");
    }

    private static void compares() {
        Checks.promise(29, "runPlan, compares");
        run("(if 1<2 (note 1;) if 2<2 (note 2;) if 3<2 (note 3;))", 4, "1");
        run("(if 1>2 (note 1;) if 2>2 (note 2;) if 3>2 (note 3;))", 4, "3");
        run("(if 1=2 (note 1;) if 2=2 (note 2;) if 3=2 (note 3;))", 4, "2");
        run("(if 1=1 and 2=2 and 3=3 (note 1;))", 2, "1");
        run("(if 1=2 and 2=2 and 3=3 (note 1;) else (note 2;))", 2, "2");
        run("(if 1=1 and 2=3 and 3=3 (note 1;) else (note 2;))", 2, "2");
        run("(if 1=1 and 2=2 and 3=4 (note 1;) else (note 2;))", 2, "2");
        run("(while near=3 and minute<2 (rest 1;) note minute;)", 6, "2");
        run("(if near>far and 4>near and far<1 (note far;))", 2, "0");
    }

    private static void measures() {
        Checks.promise(29, "runPlan, measures");
        PlankBridge x = Checks.taught("walker a weighs 4 takes 7;walker b weighs 1 takes 1;"
                + "walker c weighs 1 takes 1;planks 20,3,9,2,8;"
                + "plan p (note near;note far;note oil;note minute;note night;note missing;note weakest;)");
        Checks.due("runPlan(0)", x.runPlan(0), 7);
        Checks.due("the notes", Checks.notes(x), "3 0 60 0 0 0 2");
        x.crossAlone(0);
        x.rest(10);
        x.runPlan(0);
        Checks.due("the notes behind a crossing", Checks.notes(x).substring(6), "2 1 53 17 0 2 8");
        x.rest(113);
        x.rest(240);
        x.runPlan(0);
        Checks.due("the notes in night 3", Checks.notes(x).substring(6), "2 1 60 10 3 2 7");
        PlankBridge y = Checks.taught("planks 1,1,1,1; plan p (note weakest; note missing;)");
        y.rest(600);
        y.rest(600);
        y.rest(240);
        y.runPlan(0);
        Checks.due("weakest and missing, of none", Checks.notes(y), "0 4");
    }

    private static void choices() {
        Checks.promise(29, "runPlan, choices");
        // The fastest is c, the slowest b; the lightest d, the heaviest a.
        String four = "walker a weighs 9 takes 5;walker b weighs 4 takes 9;walker c weighs 5 takes 2;"
                + "walker d weighs 2 takes 4;" + STRONG;
        String[] words = {"fastest", "slowest", "lightest", "heaviest"};
        int[] whom = {2, 1, 3, 0};
        int[] then = {3, 0, 1, 2};
        for (int i = 0; i < 4; i++) {
            PlankBridge x = Checks.taught(four + "plan p (send " + words[i] + ";)"
                    + "plan q (send " + words[i] + " with " + words[i] + ";)"
                    + "plan r (send d with " + words[i] + ";) plan s (send " + words[i] + " with d;)");
            Checks.due("runPlan(1), two of the " + words[i], x.runPlan(1), 1);
            Checks.due("the first one near", x.isNear(whom[i]), false);
            Checks.due("the second one near", x.isNear(then[i]), false);
            Checks.due("walkersNear()", x.walkersNear(), 2);
            // Of those on the other side, that one is again chosen first.
            Checks.due("runPlan(0), the " + words[i] + " back", x.runPlan(0), 1);
            Checks.due("the first one near", x.isNear(whom[i]), true);
            Checks.due("the second one near", x.isNear(then[i]), false);
            PlankBridge y = Checks.taught(four + "plan p (send d with " + words[i] + ";)"
                    + "plan q (send " + words[i] + " with d;)");
            Checks.due("runPlan(1), with d himself", y.actsOfPlan(1), whom[i] == 3 ? 0 : 1);
            Checks.due("runPlan(0), of the others", y.runPlan(0), 1);
            Checks.due("the one with d near", y.isNear(whom[i] == 3 ? then[i] : whom[i]), false);
        }
    }

    private static void equals() {
        Checks.promise(29, "runPlan, choices among equals");
        for (String word : "fastest slowest lightest heaviest".split(" ")) {
            PlankBridge x = Checks.taught("walker a weighs 3 takes 3;walker b weighs 3 takes 3;"
                    + "walker c weighs 3 takes 3;" + STRONG + "plan p (send " + word + ";)"
                    + "plan q (send " + word + " with " + word + ";)");
            x.runPlan(0);
            Checks.due("the " + word + " of equals near", x.isNear(0), false);
            x.runPlan(0);
            x.runPlan(1);
            Checks.due("the " + word + " two of equals near", x.isNear(0) || x.isNear(1), false);
            Checks.due("walkersNear()", x.walkersNear(), 1);
        }
    }

    private static void sendAct() {
        Checks.promise(29, "runPlan, send");
        PlankBridge none = Checks.taught(STRONG + "plan p (note 1; send fastest;)");
        Checks.due("runPlan(0) without walkers", none.runPlan(0), 1);
        PlankBridge one = Checks.taught("walker a weighs 1 takes 1;" + STRONG
                + "plan p (send fastest with fastest;) plan q (send a with slowest;)"
                + "plan r (send heaviest with a;) plan s (send a; send a;)");
        Checks.due("two of one walker", one.actsOfPlan(0), 0);
        Checks.due("one with another who is not there", one.actsOfPlan(1), 0);
        Checks.due("one with himself, as chosen", one.actsOfPlan(2), 0);
        Checks.due("to and fro", one.actsOfPlan(3), 2);
        PlankBridge x = with("plan p (send a with c; send b with c; note 1;)"
                + "plan q (send b;) plan r (send b with fastest;)");
        Checks.due("with one who is on the other side", x.runPlan(0), 1);
        Checks.due("one without the lamp", x.runPlan(1), 0);
        Checks.due("one without the lamp, with one at the lamp", x.runPlan(2), 0);
        x.rest(114);
        Checks.due("minute()", x.minute(), 119);
        Checks.due("one near, at the lamp of the others", x.runPlan(1), 0);
        PlankBridge late = with("plan p (send c; note 1;) plan q (send b; note 1;)");
        late.rest(116);
        Checks.due("5 minutes at the minute 116", late.actsOfPlan(0), 0);
        Checks.due("2 minutes at the minute 116", late.actsOfPlan(1), 2);
        PlankBridge fall = Checks.taught("walker a weighs 9 takes 4;planks 9,1,1,9;"
                + "plan p (send a; note minute; note far; send a; note 9;)");
        Checks.due("a fall is done, and the next one cannot be made", fall.runPlan(0), 3);
        Checks.due("the notes", Checks.notes(fall), "4 0");
        Checks.due("falls()", fall.falls(), 1);
        Checks.due("isLampNear()", fall.isLampNear(), true);
        PlankBridge oil = Checks.taught("walker a weighs 1 takes 20;" + STRONG
                + "plan p (send a; send a; send a; note oil; send a; note 9;)");
        Checks.due("no oil for a fourth", oil.runPlan(0), 4);
    }

    private static void restAct() {
        Checks.promise(29, "runPlan, rest");
        PlankBridge x = with("plan p (rest 0; rest minute; rest far; note 1;) plan q (rest 99; rest 21;)"
                + "plan r (rest night;)");
        Checks.due("runPlan(0)", x.runPlan(0), 4);
        Checks.due("minute() behind rests of none", x.minute(), 0);
        Checks.due("runPlan(1)", x.runPlan(1), 2);
        Checks.due("the night and the minute", x.night() * 1000 + x.minute(), 1000);
        for (int i = 0; i < 23; i++) {
            x.rest(600);
        }
        x.rest(360);
        Checks.due("night()", x.night(), 119);
        Checks.due("minutesOfPlan(2) in the night 119", x.minutesOfPlan(2), 119);
        x.rest(120);
        Checks.due("minutesOfPlan(2) in the night 120", x.minutesOfPlan(2), 120);
        x.rest(600);
        Checks.due("minutesOfPlan(2) in the night 125", x.minutesOfPlan(2), 120);
        x.runPlan(2);
        Checks.due("night() behind it", x.night(), 126);
    }

    private static void mendAct() {
        Checks.promise(29, "runPlan, mend");
        PlankBridge x = Checks.taught("walker a weighs 9 takes 1;planks 1,18,1,18,1;"
                + "plan p (mend 30;) plan q (mend 1;) plan r (mend 31;) plan s (mend 0;)"
                + "plan t (while missing>0 (mend missing;)) plan u (mend 5;note 1;)");
        Checks.due("mend of none", x.runPlan(5), 0);
        x.crossAlone(0);
        Checks.due("the planks", Checks.strengths(x), "0,18,0,18,0");
        Checks.due("mend 31", x.runPlan(2), 0);
        Checks.due("mend 0", x.runPlan(3), 0);
        Checks.due("mend missing, and so on", x.actsOfPlan(4), 7);
        Checks.due("mend 30", x.runPlan(0), 1);
        Checks.due("mend 1", x.runPlan(1), 1);
        Checks.due("the planks", Checks.strengths(x), "30,18,1,18,0");
        Checks.due("the last one", x.runPlan(4), 3);
        Checks.due("the planks", Checks.strengths(x), "30,18,1,18,1");
        x.rest(360);
        Checks.due("a rotten one", Checks.strengths(x), "30,18,0,18,1");
        x.runPlan(5);
        x.rest(119);
        Checks.due("a mended one is not rotten", Checks.strengths(x), "30,18,5,18,1");
    }

    // ---- promises 32 and 33

    private static void notes() {
        PlankBridge x = with("plan p (note 3;) plan q (note 10;note 11;note 12;note 13;note 14;"
                + "note 15;note 16;note 17;note 18;note 19;note 20;)");
        Checks.promise(33, "noteOf");
        Checks.thrown("noteOf(0) of none", NO_SUCH, x, () -> x.noteOf(0));
        Checks.promise(32, "notes");
        Checks.due("notes() at first", x.notes(), 0);
        x.runPlan(0);
        Checks.due("notes() behind one", x.notes(), 1);
        Checks.promise(33, "noteOf");
        Checks.due("noteOf(0)", x.noteOf(0), 3);
        Checks.thrown("noteOf(1) of one", NO_SUCH, x, () -> x.noteOf(1));
        x.runPlan(1);
        Checks.promise(32, "notes");
        Checks.due("notes() behind twelve", x.notes(), 12);
        Checks.promise(33, "noteOf");
        for (int back = 0; back < 10; back++) {
            Checks.due("noteOf(" + back + ")", x.noteOf(back), 20 - back);
        }
        for (int back : new int[] {-1, 10, 11, 12, Integer.MAX_VALUE, Integer.MIN_VALUE}) {
            Checks.thrown("noteOf(" + back + ")", NO_SUCH, x, () -> x.noteOf(back));
        }
        x.actsOfPlan(0);
        x.bestPlan();
        Checks.due("noteOf(0) behind what would be", x.noteOf(0), 20);
        Checks.promise(32, "notes");
        Checks.due("notes() behind what would be", x.notes(), 12);
        x.runPlan(0);
        Checks.due("notes() behind thirteen", x.notes(), 13);
        Checks.promise(33, "noteOf");
        Checks.due("noteOf(0)", x.noteOf(0), 3);
        Checks.due("noteOf(9)", x.noteOf(9), 12);
    }

    // ---- promises 39 to 42

    private static final String PLANS = "plan p (send a with b; rest 10; send a;)"
            + "plan q (send c with a; send c; note 1; send b;)"
            + "plan r (rest 99; rest 99; send a with c; send b;)"
            + "plan s (note 1; note 2;)";

    private static PlankBridge planned() {
        return Checks.taught(THREE + "planks 14,9,20,30;" + PLANS);
    }

    private static void actsOfPlan() {
        Checks.promise(39, "actsOfPlan");
        PlankBridge x = planned();
        long digest = x.digest();
        int[] acts = {3, 4, 3, 2};
        for (int plan = 0; plan < 4; plan++) {
            Checks.due("actsOfPlan(" + plan + ")", x.actsOfPlan(plan), acts[plan]);
            Checks.due("digest() behind it", x.digest(), digest);
        }
        for (int plan : new int[] {-1, 4, Integer.MAX_VALUE, Integer.MIN_VALUE}) {
            Checks.thrown("actsOfPlan(" + plan + ")", NO_SUCH, x, () -> x.actsOfPlan(plan));
        }
        x.crossAlone(1);
        Checks.due("actsOfPlan(0) with b far", x.actsOfPlan(0), 0);
        PlankBridge loop = with("plan p (while 1=1 (rest 99; note night;))");
        Checks.due("actsOfPlan(0) of a loop", loop.actsOfPlan(0), 100);
        Checks.due("actsOfPlan(0) again", loop.actsOfPlan(0), 100);
        Checks.due("night() behind it", loop.night(), 0);
    }

    private static void farBehindPlan() {
        Checks.promise(40, "farBehindPlan");
        PlankBridge x = planned();
        long digest = x.digest();
        int[] far = {1, 2, 2, 0};
        for (int plan = 0; plan < 4; plan++) {
            Checks.due("farBehindPlan(" + plan + ")", x.farBehindPlan(plan), far[plan]);
            Checks.due("digest() behind it", x.digest(), digest);
        }
        for (int plan : new int[] {-1, 4, Integer.MAX_VALUE, Integer.MIN_VALUE}) {
            Checks.thrown("farBehindPlan(" + plan + ")", NO_SUCH, x, () -> x.farBehindPlan(plan));
        }
        x.crossAlone(1);
        Checks.due("farBehindPlan(3) with b far", x.farBehindPlan(3), 1);
    }

    private static void minutesOfPlan() {
        Checks.promise(41, "minutesOfPlan");
        PlankBridge x = planned();
        x.rest(50);
        long digest = x.digest();
        int[] minutes = {13, 12, 203, 0};
        for (int plan = 0; plan < 4; plan++) {
            Checks.due("minutesOfPlan(" + plan + ")", x.minutesOfPlan(plan), minutes[plan]);
            Checks.due("digest() behind it", x.digest(), digest);
        }
        for (int plan : new int[] {-1, 4, Integer.MAX_VALUE, Integer.MIN_VALUE}) {
            Checks.thrown("minutesOfPlan(" + plan + ")", NO_SUCH, x, () -> x.minutesOfPlan(plan));
        }
        PlankBridge loop = with("plan p (while 1=1 (rest 99;))");
        Checks.due("minutesOfPlan(0) of a loop", loop.minutesOfPlan(0), 50 * 99);
        PlankBridge fall = Checks.taught("walker a weighs 9 takes 4;planks 9,1,1,9;plan p (send a;)");
        Checks.due("minutesOfPlan(0) with a fall", fall.minutesOfPlan(0), 4);
    }

    private static void bestPlan() {
        Checks.promise(42, "bestPlan");
        PlankBridge x = planned();
        long digest = x.digest();
        Checks.due("bestPlan() by far walkers, then minutes", x.bestPlan(), 1);
        Checks.due("digest() behind it", x.digest(), digest);
        x.crossAlone(1);
        Checks.due("bestPlan() by minutes, then numbers", x.bestPlan(), 0);
        PlankBridge y = with("plan p (rest 5; send a;) plan q (send c;) plan r (send b; rest 3;)"
                + "plan s (rest 1;) plan t (send b with a; send a; rest 9;)");
        Checks.due("bestPlan() of equals", y.bestPlan(), 1);
        PlankBridge z = with("plan p (rest 1;) plan q () plan r ()");
        Checks.due("bestPlan() without crossings", z.bestPlan(), 1);
        PlankBridge only = with("plan p (rest 1;)");
        Checks.due("bestPlan() of one that only rests", only.bestPlan(), 0);
        PlankBridge back = with("plan p (send a;) plan q (send a; send a;)");
        back.crossTogether(0, 1);
        Checks.due("bestPlan() with the least harm", back.bestPlan(), 1);
        PlankBridge far = with("plan p (note 1;) plan q (send c;) plan r (send c with b; rest 99;)");
        Checks.due("bestPlan() with the most far, and minutes", far.bestPlan(), 2);
        PlankBridge none = Checks.taught(THREE + STRONG);
        Checks.thrown("bestPlan() of none", IllegalStateException.class, none, () -> none.bestPlan());
        PlankBridge first = new PlankBridge();
        Checks.thrown("bestPlan() of a new object", IllegalStateException.class, first,
                () -> first.bestPlan());
    }
}
