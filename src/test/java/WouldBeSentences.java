/** The promises 34 to 44, sentence by sentence. */
final class WouldBeSentences {

    private static final Class<?> ILLEGAL = IllegalArgumentException.class;
    private static final Class<?> NOT_NOW = IllegalStateException.class;

    private WouldBeSentences() {
    }

    static void check() {
        canCrossAlone();
        canCrossTogether();
        fewestMinutes();
        firstToCross();
        secondToCross();
        actsOfPlan();
        farBehindPlan();
        minutesOfPlan();
        bestPlan();
        meanStrength();
        digest();
    }

    private static void canCrossAlone() {
        StateSentences.promise("34: canCrossAlone",
                "boolean canCrossAlone(int walker) throws IndexOutOfBoundsException");
        Sentences.says("- `walker`: a walker", "Returns whether a crossing of this one alone can be made now, and"
                + " leads to the other side (nothing is changed).");
        Checks.answered("canCrossAlone(0), who would fall", false, WouldBeSentences::thin,
                x -> x.canCrossAlone(0));
        Checks.answered("canCrossAlone(1), under whom a plank would break", true, WouldBeSentences::thin,
                x -> x.canCrossAlone(1));
        Checks.answered("canCrossAlone(2)", true, WouldBeSentences::thin, x -> x.canCrossAlone(2));
        Checks.answered("canCrossAlone(0), near with the lamp", true, Books::worn, x -> x.canCrossAlone(0));
        Checks.answered("canCrossAlone(1), far without the lamp", false, Books::worn,
                x -> x.canCrossAlone(1));
        Checks.answered("canCrossAlone(0) over two missing ones", false,
                () -> Books.bridge(Books.people(1, 1), "", 0, 0, 5, 5), x -> x.canCrossAlone(0));
        Checks.due("canCrossAlone(0) at the minute 100", at(100).canCrossAlone(0), true);
        Checks.due("canCrossAlone(0) at the minute 101", at(101).canCrossAlone(0), false);
        Checks.due("canCrossAlone(1) at the minute 119", at(119).canCrossAlone(1), true);
        PlankBridge oil = at(0);
        oil.crossAlone(0);
        oil.crossAlone(0);
        Checks.due("canCrossAlone(0) with oil for 20", oil.canCrossAlone(0), true);
        oil.crossAlone(1);
        oil.crossAlone(1);
        Checks.due("canCrossAlone(0) with oil for 18", oil.canCrossAlone(0), false);
        Checks.due("canCrossAlone(1) with oil for 18", oil.canCrossAlone(1), true);
        StateSentences.noSuchWalker("canCrossAlone", (x, walker) -> x.canCrossAlone(walker));
    }

    /** A weight of 6 breaks two planks side by side, one of 5 one, and one of 4 none. */
    private static PlankBridge thin() {
        return Books.bridge(Books.people(6, 1, 5, 2, 4, 3), "", 9, 4, 5, 9);
    }

    /** Walkers who take 20 and 1 minutes, at this minute of the night 0. */
    private static PlankBridge at(int minute) {
        PlankBridge x = Checks.taught(Books.people(1, 20, 1, 1) + Books.STRONG);
        if (minute > 0) {
            x.rest(minute);
        }
        return x;
    }

    private static void canCrossTogether() {
        StateSentences.promise("35: canCrossTogether", "boolean canCrossTogether(int walker, int other) throws"
                + " IndexOutOfBoundsException, IllegalArgumentException");
        Sentences.says("- `walker`: a walker", "- `other`: another one", "Returns whether a crossing of both can"
                + " be made now, and leads to the other side (nothing is changed).");
        Checks.answered("canCrossTogether(0, 2), who would fall", false, WouldBeSentences::thin,
                x -> x.canCrossTogether(0, 2));
        Checks.answered("canCrossTogether(0, 2)", true, Books::worn, x -> x.canCrossTogether(0, 2));
        Checks.answered("canCrossTogether(2, 0)", true, Books::worn, x -> x.canCrossTogether(2, 0));
        Checks.answered("canCrossTogether(0, 1), apart", false, Books::worn,
                x -> x.canCrossTogether(0, 1));
        Checks.answered("canCrossTogether(1, 0), apart", false, Books::worn,
                x -> x.canCrossTogether(1, 0));
        Checks.answered("canCrossTogether(0, 1) over two missing ones", false,
                () -> Books.bridge(Books.people(1, 1, 1, 1), "", 5, 5, 0, 0), x -> x.canCrossTogether(0, 1));
        PlankBridge five = Books.bridge(Books.people(2, 1, 2, 1, 3, 1), "", 9, 4, 4, 9);
        Checks.due("canCrossTogether(0, 1) with 4 on 4", five.canCrossTogether(0, 1), true);
        Checks.due("canCrossTogether(0, 2) with 5 on 4", five.canCrossTogether(0, 2), false);
        Checks.due("canCrossTogether(1, 0) at the minute 100", at(100).canCrossTogether(1, 0), true);
        Checks.due("canCrossTogether(1, 0) at the minute 101", at(101).canCrossTogether(1, 0), false);
        Checks.due("canCrossTogether(0, 1) at the minute 101", at(101).canCrossTogether(0, 1), false);
        PlankBridge oil = at(0);
        oil.crossAlone(0);
        oil.crossAlone(0);
        Checks.due("canCrossTogether(0, 1) with oil for 20", oil.canCrossTogether(0, 1), true);
        oil.crossAlone(1);
        oil.crossAlone(1);
        Checks.due("canCrossTogether(1, 0) with oil for 18", oil.canCrossTogether(1, 0), false);
        StateSentences.noSuchWalker("canCrossTogether with the other one",
                (x, walker) -> x.canCrossTogether(walker, 0));
        StateSentences.noSuchWalker("canCrossTogether with another one",
                (x, walker) -> x.canCrossTogether(0, walker));
        StateSentences.noSuchWalker("canCrossTogether of both",
                (x, walker) -> x.canCrossTogether(walker, walker));
        Sentences.says("Throws `IllegalArgumentException` if both are the same");
        for (int walker = 0; walker < 3; walker++) {
            int same = walker;
            Checks.refused("canCrossTogether(" + walker + ", " + walker + ")", ILLEGAL, Books::worn,
                    x -> x.canCrossTogether(same, same));
        }
        Checks.refused("canCrossTogether(7, 7)", ILLEGAL,
                () -> Checks.taught(Books.walkers(8) + Books.STRONG), x -> x.canCrossTogether(7, 7));
    }

    // ---- the fewest minutes

    private static PlankBridge taking(int... minutes) {
        int[] people = new int[minutes.length * 2];
        for (int i = 0; i < minutes.length; i++) {
            people[i * 2] = 1;
            people[i * 2 + 1] = minutes[i];
        }
        return Checks.taught(Books.people(people) + Books.STRONG);
    }

    private static void fewestMinutes() {
        StateSentences.promise("36: fewestMinutes", "int fewestMinutes()");
        Sentences.says("Returns in how few minutes all walkers could be far from now on, whatever planks bear,"
                + " with oil and without end of the night: the minutes of the crossings to and fro, added;");
        Checks.due("fewestMinutes() of 7", taking(7).fewestMinutes(), 7);
        Checks.due("fewestMinutes() of 3, 8", taking(3, 8).fewestMinutes(), 8);
        Checks.due("fewestMinutes() of 1, 2, 5", taking(1, 2, 5).fewestMinutes(), 8);
        Checks.due("fewestMinutes() of 1, 2, 5, 10", taking(1, 2, 5, 10).fewestMinutes(), 17);
        Checks.due("fewestMinutes() of 9, 1, 8, 8", taking(9, 1, 8, 8).fewestMinutes(), 27);
        Checks.due("fewestMinutes() of eight of 20", taking(20, 20, 20, 20, 20, 20, 20, 20).fewestMinutes(),
                13 * 20);
        Checks.due("fewestMinutes() of 1 to 8", taking(1, 2, 3, 4, 5, 6, 7, 8).fewestMinutes(), 35);
        PlankBridge x = taking(2, 10, 1, 5);
        x.crossTogether(0, 2);
        Checks.due("fewestMinutes() with two far", x.fewestMinutes(), 15);
        x.crossAlone(2);
        Checks.due("fewestMinutes() with one far", x.fewestMinutes(), 14);
        PlankBridge slow = taking(3, 8, 5);
        slow.crossAlone(1);
        // The slow one has to come back with the lamp: 8, then 8 with 3, 3 and 5.
        Checks.due("fewestMinutes() with only the slow one far", slow.fewestMinutes(), 24);
        PlankBridge broken = Books.bridge(Books.people(9, 20, 9, 20, 9, 20), "", 5, 0, 0, 5);
        broken.rest(119);
        Checks.due("fewestMinutes() over two missing ones at the minute 119", broken.fewestMinutes(), 60);
        PlankBridge oil = taking(20, 1);
        oil.crossAlone(0);
        oil.crossAlone(0);
        oil.crossAlone(0);
        Checks.due("fewestMinutes() without oil", oil.fewestMinutes(), 40);
        Checks.answered("fewestMinutes() of a worn one", 20, Books::worn, y -> y.fewestMinutes());
        Sentences.says("0 if all are (nothing is changed).");
        Checks.answered("fewestMinutes() of no walkers", 0, PlankBridge::new, y -> y.fewestMinutes());
        Checks.answered("fewestMinutes() of all far", 0, WouldBeSentences::allFar, y -> y.fewestMinutes());
    }

    private static PlankBridge allFar() {
        PlankBridge x = taking(3, 8);
        x.crossTogether(0, 1);
        return x;
    }

    private static void firstToCross() {
        StateSentences.promise("37: firstToCross", "int firstToCross() throws IllegalStateException");
        Sentences.says("Returns of crossings with which such an order of the fewest minutes can begin, that with"
                + " the smallest number of a walker: this walker (nothing is changed).");
        Checks.due("firstToCross() of 7", taking(7).firstToCross(), 0);
        Checks.due("firstToCross() of 1, 2, 5, 10", taking(1, 2, 5, 10).firstToCross(), 0);
        Checks.due("firstToCross() of 10, 1, 2, 5", taking(10, 1, 2, 5).firstToCross(), 1);
        Checks.due("firstToCross() of 20, 20, 20, 20, 20, 20, 1, 2",
                taking(20, 20, 20, 20, 20, 20, 1, 2).firstToCross(), 6);
        Checks.due("firstToCross() of 4, 4, 4", taking(4, 4, 4).firstToCross(), 0);
        PlankBridge x = taking(3, 8, 5);
        x.crossTogether(1, 2);
        Checks.due("firstToCross() of slow ones far", x.firstToCross(), 2);
        x.crossAlone(1);
        Checks.due("firstToCross() with a slow one back", x.firstToCross(), 0);
        Checks.answered("firstToCross() of a worn one", 0, Books::worn, y -> y.firstToCross());
        Sentences.says("Throws `IllegalStateException` if all are far");
        Checks.refused("firstToCross() of no walkers", NOT_NOW, PlankBridge::new, y -> y.firstToCross());
        Checks.refused("firstToCross() of all far", NOT_NOW, WouldBeSentences::allFar, y -> y.firstToCross());
        PlankBridge back = allFar();
        back.crossAlone(1);
        Checks.due("firstToCross() with one back", back.firstToCross(), 1);
    }

    private static void secondToCross() {
        StateSentences.promise("38: secondToCross", "int secondToCross() throws IllegalStateException");
        Sentences.says("Returns of crossings of the one whom firstToCross() tells, with which such an order can"
                + " begin: that alone, if there is such a one, otherwise that with the smallest number of"
                + " another one: this other one, -1 for none (nothing is changed).");
        Checks.due("secondToCross() of 7", taking(7).secondToCross(), -1);
        Checks.due("secondToCross() of 3, 8", taking(3, 8).secondToCross(), 1);
        Checks.due("secondToCross() of 1, 2, 5, 10", taking(1, 2, 5, 10).secondToCross(), 1);
        Checks.due("secondToCross() of 2, 10, 1, 5", taking(2, 10, 1, 5).secondToCross(), 2);
        Checks.due("secondToCross() of 20, 20, 20, 20, 20, 20, 1, 2",
                taking(20, 20, 20, 20, 20, 20, 1, 2).secondToCross(), 7);
        Checks.due("secondToCross() of 4, 4, 4", taking(4, 4, 4).secondToCross(), 1);
        PlankBridge x = taking(2, 10, 1, 5);
        x.crossTogether(0, 2);
        Checks.due("secondToCross(), one who goes back alone", x.secondToCross(), -1);
        PlankBridge fast = taking(9, 9, 9, 1);
        fast.crossAlone(0);
        fast.crossAlone(0);
        Checks.due("secondToCross() of 9, 9, 9, 1", fast.secondToCross(), 3);
        Checks.answered("secondToCross() of a worn one", 2, Books::worn, y -> y.secondToCross());
        Sentences.says("Throws `IllegalStateException` if all are far");
        Checks.refused("secondToCross() of no walkers", NOT_NOW, PlankBridge::new, y -> y.secondToCross());
        Checks.refused("secondToCross() of all far", NOT_NOW, WouldBeSentences::allFar,
                y -> y.secondToCross());
        PlankBridge back = allFar();
        back.crossAlone(1);
        Checks.due("secondToCross() with one back", back.secondToCross(), -1);
    }

    // ---- plans that would be run

    private static final String PLANS = "plan p (send a with b; rest 10; send a;)"
            + "plan q (send c with a; send c; note 1; send b;)"
            + "plan r (rest 99; rest 99; send a with c; send b;)"
            + "plan s (note 1; note 2;) plan t () plan u (while 1=1 (rest 99; note night;))";

    private static PlankBridge planned() {
        PlankBridge x = Checks.taught(Books.people(3, 1, 4, 2, 6, 5) + "planks 14,9,20,30;" + PLANS);
        x.rest(50);
        return x;
    }

    private static void actsOfPlan() {
        StateSentences.promise("39: actsOfPlan", "int actsOfPlan(int plan) throws IndexOutOfBoundsException");
        Sentences.says("- `plan`: a plan",
                "Returns how many acts would be done, if it was run now (nothing is changed).");
        int[] due = {3, 4, 3, 2, 0, 100};
        for (int plan = 0; plan < 6; plan++) {
            int asked = plan;
            Checks.answered("actsOfPlan(" + plan + ")", due[plan], WouldBeSentences::planned,
                    x -> x.actsOfPlan(asked));
        }
        PlankBridge far = planned();
        far.crossAlone(1);
        Checks.due("actsOfPlan(0) with b far", far.actsOfPlan(0), 0);
        // The rotten plank goes on to rot in it, from 2 to 0: three looks, and two nights of two acts.
        Checks.answered("actsOfPlan(0) with a rotten plank", 7, WouldBeSentences::rotten,
                x -> x.actsOfPlan(0));
        StateSentences.noSuchPlan("actsOfPlan", (x, plan) -> x.actsOfPlan(plan));
    }

    private static PlankBridge rotten() {
        PlankBridge x = Checks.taught(Books.people(1, 1) + "planks 9,2,9,9;"
                + "plan p (while missing=0 (rest 99; rest 21;))"
                + "plan q (while missing=0 (rest 99; rest 21;) send a;)");
        x.rest(240);
        return x;
    }

    private static void farBehindPlan() {
        StateSentences.promise("40: farBehindPlan", "int farBehindPlan(int plan) throws IndexOutOfBoundsException");
        Sentences.says("- `plan`: a plan", "Returns how many walkers would stand far behind it, if it was run now"
                + " (nothing is changed).");
        int[] due = {1, 2, 2, 0, 0, 0};
        for (int plan = 0; plan < 6; plan++) {
            int asked = plan;
            Checks.answered("farBehindPlan(" + plan + ")", due[plan], WouldBeSentences::planned,
                    x -> x.farBehindPlan(asked));
        }
        PlankBridge far = planned();
        far.crossAlone(1);
        Checks.due("farBehindPlan(4) with b far", far.farBehindPlan(4), 1);
        PlankBridge fall = Checks.taught(Books.people(9, 4) + "planks 9,1,1,9;plan p (send a;)");
        Checks.due("farBehindPlan(0) with a fall", fall.farBehindPlan(0), 0);
        Checks.answered("farBehindPlan(1) with a rotten plank", 1, WouldBeSentences::rotten,
                x -> x.farBehindPlan(1));
        StateSentences.noSuchPlan("farBehindPlan", (x, plan) -> x.farBehindPlan(plan));
    }

    private static void minutesOfPlan() {
        StateSentences.promise("41: minutesOfPlan", "int minutesOfPlan(int plan) throws IndexOutOfBoundsException");
        Sentences.says("- `plan`: a plan", "Returns how many minutes would go by in it, if it was run now (nothing"
                + " is changed).");
        int[] due = {13, 12, 203, 0, 0, 33 * 99};
        for (int plan = 0; plan < 6; plan++) {
            int asked = plan;
            Checks.answered("minutesOfPlan(" + plan + ")", due[plan], WouldBeSentences::planned,
                    x -> x.minutesOfPlan(asked));
        }
        PlankBridge fall = Checks.taught(Books.people(9, 4) + "planks 9,1,1,9;plan p (send a;)");
        Checks.due("minutesOfPlan(0) with a fall", fall.minutesOfPlan(0), 4);
        PlankBridge late = Checks.taught(Books.people(1, 4) + "planks 9,9,9,9;plan p (send a; rest 1;)");
        late.rest(116);
        Checks.due("minutesOfPlan(0) into the next night", late.minutesOfPlan(0), 5);
        Checks.answered("minutesOfPlan(1) with a rotten plank", 241, WouldBeSentences::rotten,
                x -> x.minutesOfPlan(1));
        StateSentences.noSuchPlan("minutesOfPlan", (x, plan) -> x.minutesOfPlan(plan));
    }

    private static PlankBridge with(String plans) {
        return Checks.taught(Books.people(3, 1, 4, 2, 6, 5) + Books.STRONG + plans);
    }

    private static void bestPlan() {
        StateSentences.promise("42: bestPlan", "int bestPlan() throws IllegalStateException");
        Sentences.says("Looks for the plan that had best be run now: so that the most walkers would stand far"
                + " behind it, of several the one with the fewest minutes.");
        Checks.answered("bestPlan() of two far in 12 or 203 minutes", 1, WouldBeSentences::planned,
                x -> x.bestPlan());
        Checks.due("bestPlan() of one that only rests", with("plan p (rest 1;)").bestPlan(), 0);
        Checks.due("bestPlan() of the most far, though it takes longest",
                with("plan p () plan q (send c;) plan r (send c with b; rest 99;)").bestPlan(), 2);
        Checks.due("bestPlan() of none far", with("plan p (rest 1;) plan q () plan r (rest 2;)").bestPlan(), 1);
        Checks.due("bestPlan() of the last of six", with(Books.plans(5) + "plan q (send a;)").bestPlan(), 5);
        PlankBridge back = with("plan p (send a;) plan q (send a; send a;)");
        back.crossTogether(0, 1);
        Checks.due("bestPlan() of those that lead back", back.bestPlan(), 1);
        Sentences.says("Returns this plan, of several still the one with the smallest number (nothing is"
                + " changed).");
        Checks.due("bestPlan() of six equals", with(Books.plans(6)).bestPlan(), 0);
        Checks.due("bestPlan() of equals", with("plan p (rest 5; send a;) plan q (send c;)"
                + "plan r (send b; rest 3;) plan s (rest 1;) plan t (send b with a; send a; rest 9;)").bestPlan(),
                1);
        Sentences.says("Throws `IllegalStateException` if there are no plans");
        Checks.refused("bestPlan() of a new object", NOT_NOW, PlankBridge::new, x -> x.bestPlan());
        Checks.refused("bestPlan() of a book without plans", NOT_NOW, () -> with(""), x -> x.bestPlan());
        Checks.refused("bestPlan() of none behind six", NOT_NOW, () -> {
            PlankBridge x = with(Books.plans(6));
            Checks.teach(x, Books.FOUR);
            return x;
        }, x -> x.bestPlan());
    }

    private static void meanStrength() {
        StateSentences.promise("43: meanStrength", "double meanStrength()");
        Sentences.says("Returns the mean strength of all planks, missing ones as well.");
        Checks.due("meanStrength() of a new object", new PlankBridge().meanStrength(), 10.0);
        Checks.due("meanStrength() of 1,1,1,2", Checks.taught("planks 1,1,1,2;").meanStrength(), 1.25);
        Checks.due("meanStrength() of 0,0,0,0", Books.bridge("", "", 0, 0, 0, 0).meanStrength(), 0.0);
        Checks.due("meanStrength() of 0,1,0,0,0,0,1", Books.bridge("", "", 0, 1, 0, 0, 0, 0, 1).meanStrength(),
                2.0 / 7.0);
        Checks.due("meanStrength() of 30s", Checks.taught(Books.STRONG).meanStrength(), 30.0);
        Checks.due("meanStrength() of twelve",
                Checks.taught("planks 1,2,3,4,5,6,7,8,9,10,11,13;").meanStrength(), 79.0 / 12.0);
        Checks.due("meanStrength() on a weak night", Books.weakNight("", "", 1, 9, 9, 0).meanStrength(), 4.75);
    }

    // ---- the checksum

    private static void digest() {
        StateSentences.promise("44: digest", "long digest()");
        Sentences.says("Computes a checksum. A number d starts with 1889; for each of the following numbers x, d"
                + " becomes d * 31 + x, which wraps around as a 64-bit integer (whether something is so counts"
                + " 1 or 0): walkers(), planks(), plans(), isLampNear(), oilLeft(), night(), minute(),"
                + " crossings(), falls(), notes(), missingPlanks(), isPassable(), fewestMinutes(); for each"
                + " walker weightOf(), minutesOf(), isNear(); for each plank strengthOf(), bears(), isRotten();"
                + " then the notes from the latest one on, at most 10.", "Returns d.");
        // 26 numbers: 31 to this power is far above 64 bits already.
        Checks.due("digest() of a new object", new PlankBridge().digest(), sum(0, 4, 0, 1, 60, 0, 0, 0, 0, 0, 0,
                1, 0, 10, 10, 0, 10, 10, 0, 10, 10, 0, 10, 10, 0));
        Checks.due("digest() without planks", Books.bridge("", "", 0, 0, 0, 0).digest(), sum(0, 4, 0, 1, 60, 12,
                0, 0, 0, 0, 4, 0, 0, 0, 0, 0, 0, 0, 0, 0, 0, 0, 0, 0, 0));
        PlankBridge x = Checks.taught(Books.people(9, 4, 1, 7) + "planks 5,18,9,20,30;"
                + "plan p (note 0; note 1; note 2; note 3; note 4;)");
        x.runPlan(0);
        x.crossTogether(1, 0);
        Checks.due("digest() with 5 notes", x.digest(), sum(2, 5, 1, 0, 53, 0, 7, 1, 0, 5, 2, 1, 0,
                9, 4, 0, 1, 7, 0, 0, 0, 0, 17, 17, 0, 0, 0, 0, 20, 20, 0, 30, 30, 0, 4, 3, 2, 1, 0));
        x.rest(240);
        x.runPlan(0);
        x.runPlan(0);
        x.crossAlone(0);
        Checks.due("digest() with 15 notes, on a weak night", x.digest(), sum(2, 5, 1, 1, 56, 2, 11,
                2, 0, 15, 2, 1, 4, 9, 4, 1, 1, 7, 0, 0, 0, 0, 16, 13, 1, 0, 0, 0, 19, 16, 0, 30, 27, 0,
                4, 3, 2, 1, 0, 4, 3, 2, 1, 0));
        x.layPlank(3, 3);
        x.crossAlone(0);
        Checks.due("digest() behind a fall", x.digest(), sum(2, 5, 1, 1, 52, 2, 15,
                2, 1, 15, 3, 0, 4, 9, 4, 1, 1, 7, 0, 0, 0, 0, 15, 12, 1, 0, 0, 0, 0, 0, 0, 30, 27, 0,
                4, 3, 2, 1, 0, 4, 3, 2, 1, 0));
        for (int notes : new int[] {0, 1, 9, 10, 11}) {
            PlankBridge y = Checks.taught(Books.FOUR + "plan p (" + "note 7;".repeat(notes) + ")");
            y.runPlan(0);
            Checks.due("digest() with " + notes + " notes", y.digest(), told(y));
        }
        Checks.due("digest() of a worn one", Books.worn().digest(), told(Books.worn()));
        PlankBridge full = Checks.taught(Books.walkers(8) + Books.planks(12) + Books.plans(6));
        Checks.due("digest() with the most of all", full.digest(), told(full));
    }

    private static long sum(long... numbers) {
        long d = 1889;
        for (long x : numbers) {
            d = d * 31 + x;
        }
        return d;
    }

    /** The checksum of what the other methods answer. */
    private static long told(PlankBridge x) {
        long d = sum(x.walkers(), x.planks(), x.plans(), x.isLampNear() ? 1 : 0, x.oilLeft(), x.night(),
                x.minute(), x.crossings(), x.falls(), x.notes(), x.missingPlanks(), x.isPassable() ? 1 : 0,
                x.fewestMinutes());
        for (int i = 0; i < x.walkers(); i++) {
            d = ((d * 31 + x.weightOf(i)) * 31 + x.minutesOf(i)) * 31 + (x.isNear(i) ? 1 : 0);
        }
        for (int i = 0; i < x.planks(); i++) {
            d = ((d * 31 + x.strengthOf(i)) * 31 + x.bears(i)) * 31 + (x.isRotten(i) ? 1 : 0);
        }
        for (int back = 0; back < x.notes() && back < 10; back++) {
            d = d * 31 + x.noteOf(back);
        }
        return d;
    }
}
