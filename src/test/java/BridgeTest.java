/** Promises 9 to 28, 30, 31, 34 and 35: walkers, planks, the lamp, nights, and crossings by hand. */
public final class BridgeTest {

    private static final Class<?> NO_SUCH = IndexOutOfBoundsException.class;
    private static final Class<?> ILLEGAL = IllegalArgumentException.class;
    private static final Class<?> NOT_NOW = IllegalStateException.class;

    private static final String FOUR_WALKERS = "walker a weighs 3 takes 1;walker b weighs 4 takes 2;"
            + "walker c weighs 6 takes 5;walker d weighs 8 takes 20;";

    public static void main(String[] args) {
        walkers();
        walkersNear();
        planks();
        missingPlanks();
        weakestPlank();
        heaviestLoad();
        isPassable();
        lampAndOil();
        nights();
        rotting();
        crossAlone();
        wearAndBreak();
        falls();
        weakNightCrossings();
        whenItCannotBeMade();
        endOfTheNight();
        crossTogether();
        rest();
        layPlank();
        crossingsAndFalls();
        canCross();
        canCrossTogether();
        Checks.end();
    }

    private static PlankBridge strong() {
        return Checks.taught(FOUR_WALKERS + "planks 30,30,30,30,30;");
    }

    // ---- walkers

    private static void walkers() {
        PlankBridge x = strong();
        int[] weights = {3, 4, 6, 8};
        int[] minutes = {1, 2, 5, 20};
        for (int walker = 0; walker < 4; walker++) {
            Checks.promise(9, "weightOf");
            Checks.due("weightOf(" + walker + ")", x.weightOf(walker), weights[walker]);
            Checks.promise(10, "minutesOf");
            Checks.due("minutesOf(" + walker + ")", x.minutesOf(walker), minutes[walker]);
            Checks.promise(11, "isNear");
            Checks.due("isNear(" + walker + ")", x.isNear(walker), true);
        }
        x.crossTogether(1, 3);
        Checks.due("who is near", Checks.state(x).substring(0, 4), "nfnf");
        for (int walker : new int[] {-1, 4, Integer.MAX_VALUE, Integer.MIN_VALUE}) {
            Checks.promise(9, "weightOf");
            Checks.thrown("weightOf(" + walker + ")", NO_SUCH, x, () -> x.weightOf(walker));
            Checks.promise(10, "minutesOf");
            Checks.thrown("minutesOf(" + walker + ")", NO_SUCH, x, () -> x.minutesOf(walker));
            Checks.promise(11, "isNear");
            Checks.thrown("isNear(" + walker + ")", NO_SUCH, x, () -> x.isNear(walker));
        }
        PlankBridge none = new PlankBridge();
        Checks.thrown("isNear(0) of none", NO_SUCH, none, () -> none.isNear(0));
        Checks.thrown("weightOf(0) of none", NO_SUCH, none, () -> none.weightOf(0));
        Checks.thrown("minutesOf(0) of none", NO_SUCH, none, () -> none.minutesOf(0));
    }

    private static void walkersNear() {
        Checks.promise(12, "walkersNear");
        PlankBridge x = strong();
        Checks.due("walkersNear()", x.walkersNear(), 4);
        x.crossTogether(0, 1);
        Checks.due("walkersNear() behind two", x.walkersNear(), 2);
        x.crossAlone(0);
        Checks.due("walkersNear() with one back", x.walkersNear(), 3);
        Checks.due("walkersNear() of none", new PlankBridge().walkersNear(), 0);
    }

    // ---- planks

    private static void planks() {
        PlankBridge x = Checks.taught("planks 5,2,30,3,4;");
        int[] strengths = {5, 2, 30, 3, 4};
        for (int plank = 0; plank < 5; plank++) {
            Checks.promise(13, "strengthOf");
            Checks.due("strengthOf(" + plank + ")", x.strengthOf(plank), strengths[plank]);
            Checks.promise(14, "bears");
            Checks.due("bears(" + plank + ")", x.bears(plank), strengths[plank]);
            Checks.promise(15, "isRotten");
            Checks.due("isRotten(" + plank + ")", x.isRotten(plank), false);
        }
        x.rest(240);
        int[] weak = {2, 0, 27, 0, 1};
        for (int plank = 0; plank < 5; plank++) {
            Checks.promise(13, "strengthOf");
            Checks.due("strengthOf(" + plank + ") in night 2", x.strengthOf(plank), strengths[plank]);
            Checks.promise(14, "bears");
            Checks.due("bears(" + plank + ") in night 2", x.bears(plank), weak[plank]);
            Checks.promise(15, "isRotten");
            Checks.due("isRotten(" + plank + ") in night 2", x.isRotten(plank), plank == 1);
        }
        x.rest(240);
        Checks.due("strengthOf(1) in night 4", x.strengthOf(1), 0);
        Checks.due("bears(1) in night 4", x.bears(1), 0);
        Checks.due("bears(0) in night 4", x.bears(0), 5);
        for (int plank : new int[] {-1, 5, 12, Integer.MAX_VALUE, Integer.MIN_VALUE}) {
            Checks.promise(13, "strengthOf");
            Checks.thrown("strengthOf(" + plank + ")", NO_SUCH, x, () -> x.strengthOf(plank));
            Checks.promise(14, "bears");
            Checks.thrown("bears(" + plank + ")", NO_SUCH, x, () -> x.bears(plank));
            Checks.promise(15, "isRotten");
            Checks.thrown("isRotten(" + plank + ")", NO_SUCH, x, () -> x.isRotten(plank));
        }
    }

    private static void missingPlanks() {
        Checks.promise(16, "missingPlanks");
        Checks.due("missingPlanks() of a new object", new PlankBridge().missingPlanks(), 0);
        PlankBridge x = Checks.taught("planks 1,1,1,1;");
        x.rest(240);
        Checks.due("missingPlanks() with a rotten one", x.missingPlanks(), 0);
        x.rest(120);
        Checks.due("missingPlanks() in night 3", x.missingPlanks(), 1);
        x.rest(360);
        Checks.due("missingPlanks() in night 6", x.missingPlanks(), 2);
        Checks.due("missingPlanks() of all", Books.bridge("", "", 0, 0, 0, 0).missingPlanks(), 4);
        Checks.due("missingPlanks() but the last one", Books.bridge("", "", 0, 0, 0, 7).missingPlanks(), 3);
    }

    private static void weakestPlank() {
        Checks.promise(17, "weakestPlank");
        Checks.due("weakestPlank() of 9,4,3,3,8", Checks.taught("planks 9,4,3,3,8;").weakestPlank(), 2);
        Checks.due("weakestPlank() of 9,8,8,1", Checks.taught("planks 9,8,8,1;").weakestPlank(), 3);
        Checks.due("weakestPlank() of 30s", Checks.taught("planks 30,30,30,30;").weakestPlank(), 0);
        Checks.due("weakestPlank() of 0,5,0,4", Books.bridge("", "", 0, 5, 0, 4).weakestPlank(), 3);
        PlankBridge x = Checks.taught("planks 3,1,2,9;");
        x.rest(240);
        Checks.due("weakestPlank() that is rotten, and by its strength", x.weakestPlank(), 1);
        PlankBridge rotten = Books.bridge("", "", 0, 0, 0, 9);
        rotten.rest(240);
        Checks.due("weakestPlank() of a rotten one alone", rotten.weakestPlank(), 3);
        PlankBridge none = Books.bridge("", "", 0, 0, 0, 0);
        Checks.thrown("weakestPlank() of none", NOT_NOW, none, () -> none.weakestPlank());
    }

    private static void heaviestLoad() {
        Checks.promise(19, "heaviestLoad");
        Checks.due("heaviestLoad() of 10s", new PlankBridge().heaviestLoad(), 10);
        PlankBridge x = Checks.taught("planks 9,4,30,5;");
        Checks.due("heaviestLoad() of 9,4,30,5", x.heaviestLoad(), 4);
        x.rest(240);
        Checks.due("heaviestLoad() in a weak night", x.heaviestLoad(), 1);
        x.layPlank(3, 2);
        Checks.due("heaviestLoad() in a weak night with 2", x.heaviestLoad(), 0);
        Checks.due("heaviestLoad() of 0,0,6,7", Books.bridge("", "", 0, 0, 6, 7).heaviestLoad(), 6);
        PlankBridge none = Books.bridge("", "", 0, 0, 0, 0);
        Checks.thrown("heaviestLoad() of none", NOT_NOW, none, () -> none.heaviestLoad());
    }

    private static void isPassable() {
        Checks.promise(18, "isPassable");
        Checks.due("isPassable() of a new object", new PlankBridge().isPassable(), true);
        Checks.due("isPassable() of 0,5,0,4", Books.bridge("", "", 0, 5, 0, 4).isPassable(), true);
        Checks.due("isPassable() of 0,5,4,0", Books.bridge("", "", 0, 5, 4, 0).isPassable(), true);
        Checks.due("isPassable() of 0,0,5,4", Books.bridge("", "", 0, 0, 5, 4).isPassable(), false);
        Checks.due("isPassable() of 5,0,0,4", Books.bridge("", "", 5, 0, 0, 4).isPassable(), false);
        Checks.due("isPassable() of 5,4,0,0", Books.bridge("", "", 5, 4, 0, 0).isPassable(), false);
        Checks.due("isPassable() of none", Books.bridge("", "", 0, 0, 0, 0).isPassable(), false);
    }

    // ---- the lamp and the night

    private static void lampAndOil() {
        PlankBridge x = strong();
        Checks.promise(20, "isLampNear");
        Checks.due("isLampNear()", x.isLampNear(), true);
        Checks.promise(21, "oilLeft");
        Checks.due("oilLeft()", x.oilLeft(), 60);
        x.crossTogether(0, 2);
        Checks.due("oilLeft() behind 5 minutes", x.oilLeft(), 55);
        Checks.promise(20, "isLampNear");
        Checks.due("isLampNear() behind a crossing", x.isLampNear(), false);
        x.crossAlone(0);
        Checks.due("isLampNear() behind the way back", x.isLampNear(), true);
        Checks.promise(21, "oilLeft");
        Checks.due("oilLeft() behind 6 minutes", x.oilLeft(), 54);
        x.rest(113);
        Checks.due("oilLeft() behind a rest", x.oilLeft(), 54);
        x.rest(1);
        Checks.due("oilLeft() in a new night", x.oilLeft(), 60);
    }

    private static void nights() {
        PlankBridge x = strong();
        x.rest(119);
        Checks.promise(22, "night");
        Checks.due("night() at the minute 119", x.night(), 0);
        Checks.promise(23, "minute");
        Checks.due("minute()", x.minute(), 119);
        x.rest(1);
        Checks.due("minute() of a new night", x.minute(), 0);
        Checks.promise(22, "night");
        Checks.due("night() of a new night", x.night(), 1);
        x.rest(125);
        Checks.due("night()", x.night(), 2);
        Checks.promise(23, "minute");
        Checks.due("minute()", x.minute(), 5);
        Checks.promise(24, "isWeakNight");
        PlankBridge y = strong();
        for (int night = 0; night < 10; night++) {
            Checks.due("isWeakNight() of " + night, y.isWeakNight(), night == 2 || night == 5 || night == 8);
            y.rest(120);
        }
    }

    private static void rotting() {
        Checks.promise(27, "rest, rotten planks");
        PlankBridge x = Checks.taught("planks 5,3,3,8;");
        String[] nights = {"5,3,3,8", "5,3,3,8", "5,3r,3,8", "5,2r,3,8", "5,1r,3,8", "5,0,3r,8",
            "5,0,2r,8", "5,0,1r,8", "5r,0,0,8", "4r,0,0,8", "3r,0,0,8", "2r,0,0,8r", "1r,0,0,7r",
            "0,0,0,6r", "0,0,0,5r", "0,0,0,4r"};
        for (int night = 0; night < nights.length; night++) {
            Checks.due("planks in night " + night, Checks.strengths(x), nights[night]);
            x.rest(120);
        }
        PlankBridge y = Checks.taught("planks 5,3,3,8;");
        y.rest(600);
        Checks.due("planks behind rest(600)", Checks.strengths(y), nights[5]);
        Checks.promise(28, "layPlank, rotten planks");
        y.layPlank(2, 3);
        y.rest(120);
        Checks.due("planks with a new one", Checks.strengths(y), "5,0,3,8");
        Checks.promise(25, "crossAlone, rotten planks");
        PlankBridge z = Checks.taught("walker a weighs 4 takes 1;planks 30,7,9,6;");
        z.rest(360);
        Checks.due("planks in night 3", Checks.strengths(z), "30,7,9,5r");
        z.crossAlone(0);
        Checks.due("a rotten plank that wears is rotten", Checks.strengths(z), "30,6,9,4r");
        z.crossAlone(0);
        z.crossAlone(0);
        Checks.due("a rotten plank that breaks is not", Checks.strengths(z), "30,4,9,0");
        z.layPlank(3, 4);
        z.rest(117);
        Checks.due("the one laid in its place is not", Checks.strengths(z), "30,4,9,4");
    }

    // ---- crossings

    private static void crossAlone() {
        Checks.promise(25, "crossAlone");
        PlankBridge x = Checks.taught("walker a weighs 3 takes 4;walker b weighs 1 takes 3;planks 9,9,9,9;");
        Checks.due("crossAlone(0)", x.crossAlone(0), true);
        Checks.due("behind it", Checks.state(x), "fn f 56 0:4 9,9,9,9");
        Checks.due("crossAlone(0) back", x.crossAlone(0), true);
        Checks.due("behind it", Checks.state(x), "nn n 52 0:8 9,9,9,9");
        Checks.due("crossAlone(1)", x.crossAlone(1), true);
        Checks.due("behind it", Checks.state(x), "nf f 49 0:11 9,9,9,9");
        for (int walker : new int[] {-1, 2, Integer.MAX_VALUE, Integer.MIN_VALUE}) {
            Checks.thrown("crossAlone(" + walker + ")", NO_SUCH, x, () -> x.crossAlone(walker));
        }
        Checks.thrown("crossAlone(0) without the lamp", NOT_NOW, x, () -> x.crossAlone(0));
        PlankBridge none = new PlankBridge();
        Checks.thrown("crossAlone(0) of none", NO_SUCH, none, () -> none.crossAlone(0));
    }

    private static void wearAndBreak() {
        Checks.promise(25, "crossAlone, planks");
        PlankBridge x = Checks.taught("walker a weighs 5 takes 3;planks 10,9,5,10,4,11;");
        x.crossAlone(0);
        Checks.due("behind a crossing", Checks.state(x), "f f 57 0:3 10,8,4,10,0,11");
        x.crossAlone(0);
        Checks.due("behind the way back", Checks.state(x), "n n 54 0:6 10,7,0,10,0,11");
        x.crossAlone(0);
        Checks.due("behind the third one", Checks.state(x), "f f 51 0:9 10,6,0,10,0,11");
        PlankBridge one = Checks.taught("walker a weighs 1 takes 1;planks 1,2,1,3;");
        one.crossAlone(0);
        Checks.due("the strength 1 stays", Checks.strengths(one), "1,2,1,3");
        PlankBridge two = Checks.taught("walker a weighs 2 takes 1;planks 2,3,4,5;");
        two.crossAlone(0);
        Checks.due("the strengths 2 and 3 do not", Checks.strengths(two), "1,2,4,5");
        PlankBridge ends = Checks.taught("walker a weighs 9 takes 1;planks 8,18,17,8;");
        Checks.due("crossAlone(0) with both ends broken", ends.crossAlone(0), true);
        Checks.due("behind it", Checks.strengths(ends), "0,18,16,0");
    }

    private static void falls() {
        Checks.promise(25, "crossAlone, falls");
        PlankBridge x = Checks.taught("walker a weighs 9 takes 7;planks 5,5,30,5;");
        Checks.due("crossAlone(0)", x.crossAlone(0), false);
        Checks.due("behind a fall from near", Checks.state(x), "n n 53 0:7 0,0,30,5");
        Checks.thrown("crossAlone(0) now", NOT_NOW, x, () -> x.crossAlone(0));
        PlankBridge y = Checks.taught("walker a weighs 9 takes 7;planks 30,30,30,30;");
        y.crossAlone(0);
        y.layPlank(0, 5);
        y.layPlank(1, 5);
        y.layPlank(3, 5);
        Checks.due("crossAlone(0) back", y.crossAlone(0), false);
        Checks.due("behind a fall from far", Checks.state(y), "f f 46 0:14 0,0,30,0");
        // The way from far comes to the broken pair first, and not to what lies behind it.
        PlankBridge z = Checks.taught("walker a weighs 9 takes 7;planks 30,30,30,30,30;");
        z.crossAlone(0);
        z.layPlank(0, 17);
        z.layPlank(2, 1);
        z.layPlank(3, 1);
        Checks.due("crossAlone(0) back", z.crossAlone(0), false);
        Checks.due("behind it", Checks.strengths(z), "17,30,0,0,30");
        // Two break; then one does beside another that was missing before.
        PlankBridge v = Checks.taught("walker a weighs 5 takes 1;walker b weighs 1 takes 1;planks 9,4,5,9;");
        v.crossTogether(0, 1);
        Checks.due("behind one that broke, and one beside it", Checks.state(v), "nn n 59 0:1 8,0,0,9");
        PlankBridge u = Checks.taught("walker a weighs 5 takes 1;planks 9,4,5,9;");
        Checks.due("crossAlone(0)", u.crossAlone(0), true);
        Checks.due("behind it", Checks.state(u), "f f 59 0:1 8,0,4,8");
        Checks.due("crossAlone(0) back, with one missing before", u.crossAlone(0), false);
        Checks.due("behind it", Checks.state(u), "f f 58 0:2 8,0,0,7");
    }

    private static void weakNightCrossings() {
        Checks.promise(25, "crossAlone, weak nights");
        PlankBridge x = Checks.taught("walker a weighs 4 takes 1;planks 11,10,7,6,8;");
        x.rest(240);
        Checks.due("crossAlone(0) in night 2", x.crossAlone(0), true);
        Checks.due("behind it", Checks.strengths(x), "11,9,6,0,7");
        Checks.due("crossAlone(0) back, with 6 that bears 3", x.crossAlone(0), false);
        Checks.due("behind it", Checks.strengths(x), "11,9,0,0,6");
    }

    private static void whenItCannotBeMade() {
        Checks.promise(25, "crossAlone, when it cannot be made");
        PlankBridge x = Checks.taught("walker a weighs 1 takes 20;walker b weighs 1 takes 19;"
                + "walker c weighs 1 takes 2;planks 9,9,9,9;");
        Checks.due("crossAlone(0)", x.crossAlone(0), true);
        Checks.thrown("crossAlone(1), who is near", NOT_NOW, x, () -> x.crossAlone(1));
        x.crossAlone(0);
        x.crossAlone(1);
        Checks.due("oilLeft()", x.oilLeft(), 1);
        Checks.thrown("crossAlone(1) with oil for 1", NOT_NOW, x, () -> x.crossAlone(1));
        x.rest(60);
        Checks.thrown("crossAlone(1) in the same night", NOT_NOW, x, () -> x.crossAlone(1));
        x.rest(1);
        Checks.due("crossAlone(1) in the next night", x.crossAlone(1), true);
        PlankBridge y = Checks.taught("walker a weighs 1 takes 20;planks 9,9,9,9;");
        y.crossAlone(0);
        y.crossAlone(0);
        Checks.due("crossAlone(0) with oil for 20", y.crossAlone(0), true);
        Checks.due("oilLeft() of none", y.oilLeft(), 0);
        Checks.thrown("crossAlone(0) without oil", NOT_NOW, y, () -> y.crossAlone(0));
        PlankBridge z = Checks.taught("walker a weighs 9 takes 1;walker b weighs 1 takes 1;planks 9,1,1,9;");
        z.crossAlone(0);
        Checks.thrown("crossAlone(1) over two missing ones", NOT_NOW, z, () -> z.crossAlone(1));
        z.layPlank(2, 1);
        Checks.due("crossAlone(1) over one missing one", z.crossAlone(1), true);
    }

    private static void endOfTheNight() {
        Checks.promise(25, "crossAlone, the end of the night");
        PlankBridge x = Checks.taught("walker a weighs 1 takes 20;planks 9,9,9,9;");
        x.rest(101);
        Checks.thrown("crossAlone(0) at the minute 101", NOT_NOW, x, () -> x.crossAlone(0));
        PlankBridge y = Checks.taught("walker a weighs 1 takes 20;planks 9,9,9,9;");
        y.rest(100);
        Checks.due("crossAlone(0) at the minute 100", y.crossAlone(0), true);
        Checks.due("behind it", Checks.state(y), "f f 60 1:0 9,9,9,9");
        PlankBridge z = Checks.taught("walker a weighs 9 takes 20;planks 1,1,9,9;");
        z.rest(220);
        Checks.due("crossAlone(0) with a fall at the end", z.crossAlone(0), false);
        Checks.due("behind it", Checks.state(z), "n n 60 2:0 0,0,9r,9");
    }

    private static void crossTogether() {
        Checks.promise(26, "crossTogether");
        PlankBridge x = Checks.taught(FOUR_WALKERS + "planks 14,13,7,30,6;");
        Checks.due("crossTogether(1, 0)", x.crossTogether(1, 0), true);
        Checks.due("behind it", Checks.state(x), "ffnn f 58 0:2 14,12,6,30,0");
        Checks.due("crossAlone(0)", x.crossAlone(0), true);
        Checks.due("crossTogether(2, 3) falls", x.crossTogether(2, 3), false);
        Checks.due("behind it", Checks.state(x), "nfnn n 37 0:23 13,0,0,30,0");
        Checks.thrown("crossTogether(0, 2) that cannot be made", NOT_NOW, x, () -> x.crossTogether(0, 2));
        PlankBridge y = strong();
        int[][] none = {{-1, 0}, {0, -1}, {4, 0}, {0, 4}, {4, 4}, {-1, -1}, {7, 9}};
        for (int[] two : none) {
            Checks.thrown("crossTogether(" + two[0] + ", " + two[1] + ")", NO_SUCH, y,
                    () -> y.crossTogether(two[0], two[1]));
        }
        Checks.thrown("crossTogether(2, 2)", ILLEGAL, y, () -> y.crossTogether(2, 2));
        Checks.due("crossTogether(2, 1)", y.crossTogether(2, 1), true);
        Checks.thrown("crossTogether(0, 0) without the lamp", ILLEGAL, y, () -> y.crossTogether(0, 0));
        Checks.thrown("crossTogether(0, 3) without the lamp", NOT_NOW, y, () -> y.crossTogether(0, 3));
        Checks.thrown("crossTogether(1, 3) apart", NOT_NOW, y, () -> y.crossTogether(1, 3));
        Checks.thrown("crossTogether(3, 1) apart", NOT_NOW, y, () -> y.crossTogether(3, 1));
        Checks.due("crossTogether(1, 2) back", y.crossTogether(1, 2), true);
        Checks.due("behind it", Checks.state(y), "nnnn n 50 0:10 30,30,30,30,30");
        y.rest(91);
        Checks.thrown("crossTogether(0, 3) at the minute 101", NOT_NOW, y, () -> y.crossTogether(3, 0));
        Checks.due("crossTogether(0, 2) at the minute 101", y.crossTogether(0, 2), true);
    }

    // ---- what else is done by hand

    private static void rest() {
        Checks.promise(27, "rest");
        PlankBridge x = new PlankBridge();
        Checks.due("rest(1)", x.rest(1), 0);
        Checks.due("rest(118)", x.rest(118), 0);
        Checks.due("rest(1) at the minute 119", x.rest(1), 1);
        Checks.due("rest(239)", x.rest(239), 1);
        Checks.due("the night and the minute", x.night() * 1000 + x.minute(), 2119);
        Checks.due("rest(600) at the minute 119", x.rest(600), 5);
        Checks.due("rest(599) at the minute 119", x.rest(599), 5);
        Checks.due("rest(2) at the minute 118", x.rest(2), 1);
        Checks.due("the night and the minute", x.night() * 1000 + x.minute(), 13000);
        for (int minutes : new int[] {0, -1, 601, Integer.MAX_VALUE, Integer.MIN_VALUE}) {
            Checks.thrown("rest(" + minutes + ")", ILLEGAL, x, () -> x.rest(minutes));
        }
    }

    private static void layPlank() {
        Checks.promise(28, "layPlank");
        PlankBridge x = Checks.taught("planks 5,3,3,8,9;");
        Checks.due("layPlank(4, 30)", x.layPlank(4, 30), 9);
        Checks.due("layPlank(4, 1)", x.layPlank(4, 1), 30);
        Checks.due("layPlank(0, 7)", x.layPlank(0, 7), 5);
        Checks.due("the planks", Checks.strengths(x), "7,3,3,8,1");
        x.rest(240);
        Checks.due("the planks in night 2", Checks.strengths(x), "7,3,3,8,1r");
        Checks.due("layPlank(4, 2) for a rotten one", x.layPlank(4, 2), 1);
        Checks.due("the planks", Checks.strengths(x), "7,3,3,8,2");
        x.rest(600);
        Checks.due("layPlank(4, 6) for a missing one", x.layPlank(4, 6), 0);
        Checks.due("strengthOf(4)", x.strengthOf(4), 6);
        for (int plank : new int[] {-1, 5, 12, Integer.MAX_VALUE, Integer.MIN_VALUE}) {
            Checks.thrown("layPlank(" + plank + ", 5)", NO_SUCH, x, () -> x.layPlank(plank, 5));
            Checks.thrown("layPlank(" + plank + ", 0)", NO_SUCH, x, () -> x.layPlank(plank, 0));
        }
        for (int strength : new int[] {0, -1, 31, Integer.MAX_VALUE, Integer.MIN_VALUE}) {
            Checks.thrown("layPlank(0, " + strength + ")", ILLEGAL, x, () -> x.layPlank(0, strength));
        }
    }

    private static void crossingsAndFalls() {
        PlankBridge x = Checks.taught(FOUR_WALKERS + "planks 30,30,30,30;plan p (send fastest;)");
        Checks.promise(30, "crossings");
        Checks.due("crossings() at first", x.crossings(), 0);
        x.crossTogether(0, 1);
        x.crossAlone(0);
        Checks.due("crossings() of one by two, and one alone", x.crossings(), 2);
        x.runPlan(0);
        Checks.due("crossings() with one by a plan", x.crossings(), 3);
        x.actsOfPlan(0);
        x.canCrossAlone(0);
        Checks.thrown("crossAlone(2)", NOT_NOW, x, () -> x.crossAlone(2));
        Checks.due("crossings() behind what would be", x.crossings(), 3);
        Checks.promise(31, "falls");
        Checks.due("falls() at first", x.falls(), 0);
        x.runPlan(0);
        for (int plank = 0; plank < 4; plank++) {
            x.layPlank(plank, 1);
        }
        x.canCrossTogether(2, 3);
        x.actsOfPlan(0);
        Checks.due("falls() behind what would be", x.falls(), 0);
        x.crossTogether(2, 3);
        Checks.due("falls() of two in one crossing", x.falls(), 1);
        for (int plank = 0; plank < 4; plank++) {
            x.layPlank(plank, 1);
        }
        x.runPlan(0);
        Checks.due("falls() with one by a plan", x.falls(), 2);
        Checks.promise(30, "crossings");
        Checks.due("crossings() behind falls", x.crossings(), 4);
    }

    // ---- what would be

    private static void canCross() {
        Checks.promise(34, "canCrossAlone");
        PlankBridge x = Checks.taught("walker a weighs 5 takes 20;walker b weighs 2 takes 3;planks 9,4,4,9;");
        long digest = x.digest();
        Checks.due("canCrossAlone(0) that would fall", x.canCrossAlone(0), false);
        Checks.due("canCrossAlone(1)", x.canCrossAlone(1), true);
        Checks.due("digest() behind it", x.digest(), digest);
        x.rest(101);
        x.layPlank(1, 5);
        Checks.due("canCrossAlone(0) at the minute 101", x.canCrossAlone(0), false);
        Checks.due("canCrossAlone(1) at the minute 101", x.canCrossAlone(1), true);
        x.rest(119);
        Checks.due("canCrossAlone(0) at the minute 100", x.canCrossAlone(0), true);
        Checks.due("the planks behind it", Checks.strengths(x), "9,5,4,9");
        Checks.due("crossAlone(0)", x.crossAlone(0), true);
        Checks.due("canCrossAlone(1) without the lamp", x.canCrossAlone(1), false);
        Checks.due("canCrossAlone(0) back, in a weak night", x.canCrossAlone(0), false);
        for (int walker : new int[] {-1, 2, Integer.MAX_VALUE, Integer.MIN_VALUE}) {
            Checks.thrown("canCrossAlone(" + walker + ")", NO_SUCH, x, () -> x.canCrossAlone(walker));
        }
        PlankBridge y = Checks.taught("walker a weighs 1 takes 20;walker b weighs 1 takes 1;planks 9,9,9,9;");
        y.crossAlone(0);
        y.crossAlone(0);
        Checks.due("canCrossAlone(0) with oil for 20", y.canCrossAlone(0), true);
        y.crossAlone(1);
        y.crossAlone(1);
        Checks.due("canCrossAlone(0) with oil for 18", y.canCrossAlone(0), false);
        Checks.thrown("crossAlone(0) with oil for 18", NOT_NOW, y, () -> y.crossAlone(0));
        Checks.due("canCrossAlone(1) with oil for 18", y.canCrossAlone(1), true);
        PlankBridge z = Checks.taught("walker a weighs 1 takes 1;walker b weighs 9 takes 1;planks 9,1,1,9;");
        z.crossAlone(1);
        Checks.due("canCrossAlone(0) over two missing ones", z.canCrossAlone(0), false);
    }

    private static void canCrossTogether() {
        Checks.promise(35, "canCrossTogether");
        PlankBridge x = Checks.taught(FOUR_WALKERS + "planks 30,8,7,30;");
        long digest = x.digest();
        Checks.due("canCrossTogether(0, 1)", x.canCrossTogether(0, 1), true);
        Checks.due("canCrossTogether(1, 0)", x.canCrossTogether(1, 0), true);
        Checks.due("canCrossTogether(0, 2) that would fall", x.canCrossTogether(0, 2), false);
        Checks.due("digest() behind it", x.digest(), digest);
        int[][] none = {{-1, 0}, {0, -1}, {4, 0}, {0, 4}, {4, 4}, {-1, -1}};
        for (int[] two : none) {
            Checks.thrown("canCrossTogether(" + two[0] + ", " + two[1] + ")", NO_SUCH, x,
                    () -> x.canCrossTogether(two[0], two[1]));
        }
        Checks.thrown("canCrossTogether(3, 3)", ILLEGAL, x, () -> x.canCrossTogether(3, 3));
        x.rest(101);
        Checks.due("canCrossTogether(0, 3) at the minute 101", x.canCrossTogether(0, 3), false);
        Checks.due("canCrossTogether(0, 1) at the minute 101", x.canCrossTogether(0, 1), true);
        x.crossAlone(0);
        Checks.due("canCrossTogether(0, 1) apart", x.canCrossTogether(0, 1), false);
        Checks.due("canCrossTogether(1, 0) apart", x.canCrossTogether(1, 0), false);
        Checks.due("canCrossTogether(1, 2) without the lamp", x.canCrossTogether(1, 2), false);
        Checks.thrown("canCrossTogether(3, 3) without the lamp", ILLEGAL, x,
                () -> x.canCrossTogether(3, 3));
    }
}
