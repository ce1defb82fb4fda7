/** The heading "2. The bridge", sentence by sentence. */
final class BridgeSentences {

    private static final Class<?> NOT_NOW = IllegalStateException.class;

    private BridgeSentences() {
    }

    static void check() {
        Sentences.under("2. The bridge");
        sidesAndOil();
        planks();
        nights();
        passing();
        crossing();
        whenItCanBeMade();
        theirWay();
        breaking();
        wearing();
        falling();
        overAtLast();
        minutesGoBy();
        oilAndRot();
        whichOneRots();
    }

    private static void sidesAndOil() {
        Sentences.says("Walkers stand near (at first) or far, and so does the lamp;");
        PlankBridge x = Checks.taught(Books.people(1, 1, 1, 1, 1, 1) + Books.STRONG);
        Checks.due("at first", Checks.state(x), "nnn n 60 0:0 30,30,30,30");
        x.crossTogether(0, 2);
        Checks.due("with two far", Checks.state(x), "fnf f 59 0:1 30,30,30,30");
        x.crossAlone(2);
        Checks.due("with one far", Checks.state(x), "fnn n 58 0:2 30,30,30,30");
        Sentences.says("it has oil for so many minutes, 0 to 60 (60, at first).");
        PlankBridge y = Checks.taught(Books.people(1, 20, 1, 1) + Books.STRONG);
        Checks.due("oilLeft() at first", y.oilLeft(), 60);
        y.crossAlone(0);
        y.crossAlone(0);
        y.crossAlone(0);
        Checks.due("oilLeft() behind 60 minutes", y.oilLeft(), 0);
        y.rest(59);
        Checks.due("oilLeft() at the minute 119", y.oilLeft(), 0);
        y.rest(1);
        Checks.due("oilLeft() in the next night", y.oilLeft(), 60);
        y.rest(600);
        Checks.due("oilLeft() five nights later", y.oilLeft(), 60);
    }

    private static void planks() {
        Sentences.says("Planks lie in a row from near to far;");
        // Only the two planks that the walker comes to first break under him.
        PlankBridge x = Checks.taught(Books.people(9, 1) + "planks 1,1,30,2,2;");
        Checks.due("crossAlone(0) from near", x.crossAlone(0), false);
        Checks.due("behind it", Checks.strengths(x), "0,0,30,2,2");
        Sentences.says("each has a strength, 1 to 30, or is missing, which is the strength 0;");
        PlankBridge y = Checks.taught(Books.people(9, 1) + "planks 1,30,1,30;");
        Checks.due("strengthOf(0) and (1)", y.strengthOf(0) * 100 + y.strengthOf(1), 130);
        y.crossAlone(0);
        Checks.due("strengthOf(0) that is missing", y.strengthOf(0), 0);
        Checks.due("missingPlanks()", y.missingPlanks(), 2);
        Sentences.says("and is rotten, or not (not, at first).");
        PlankBridge z = Checks.taught("planks 1,2,3,4;");
        Checks.due("at first", Checks.strengths(z), "1,2,3,4");
        z.rest(240);
        Checks.due("in the night 2", Checks.strengths(z), "1r,2,3,4");
    }

    private static void nights() {
        Sentences.says("A night is weak, if its number leaves 2 by 3 (2, 5, 8 and so on).");
        PlankBridge x = new PlankBridge();
        for (int night = 0; night < 16; night++) {
            Checks.due("isWeakNight() of " + night, x.isWeakNight(), " 2 5 8 11 14 ".contains(" " + night + " "));
            x.rest(120);
        }
        Sentences.says("A plank bears its strength, on a weak night 3 less, at least 0.");
        PlankBridge y = Books.bridge("", "", 1, 2, 3, 4, 30, 0);
        PlankBridge z = Books.weakNight("", "", 1, 2, 3, 4, 30, 0);
        for (int plank = 0; plank < 6; plank++) {
            Checks.due("bears(" + plank + ")", y.bears(plank), new int[] {1, 2, 3, 4, 30, 0}[plank]);
            Checks.due("bears(" + plank + ") on a weak night", z.bears(plank),
                    new int[] {0, 0, 0, 1, 27, 0}[plank]);
        }
        // What a plank bears while they cross: with 7 it breaks at 4, but holds a weight of 4.
        PlankBridge v = Books.weakNight(Books.people(4, 1), "", 11, 10, 7, 6, 8);
        Checks.due("crossAlone(0)", v.crossAlone(0), true);
        Checks.due("the planks behind it", Checks.strengths(v), "11,9,6,0,7");
    }

    private static void passing() {
        Sentences.says("The bridge can be passed, if no two planks side by side are missing.");
        Object[][] cases = {{true, 1, 1, 1, 1}, {true, 0, 5, 0, 4}, {true, 5, 0, 4, 0}, {true, 0, 5, 4, 0},
            {false, 0, 0, 5, 4}, {false, 5, 0, 0, 4}, {false, 5, 4, 0, 0}, {false, 0, 0, 0, 0}};
        for (Object[] given : cases) {
            PlankBridge x = Books.bridge(Books.people(1, 1), "", (int) given[1], (int) given[2],
                    (int) given[3], (int) given[4]);
            String planks = Checks.strengths(x);
            Checks.due("isPassable() of " + planks, x.isPassable(), given[0]);
            Checks.due("crossAlone(0) over " + planks, Checks.nameOfThrown(() -> x.crossAlone(0)),
                    (boolean) given[0] ? "nothing" : "IllegalStateException");
        }
        PlankBridge twelve = Books.bridge("", "", 0, 1, 0, 1, 0, 1, 0, 1, 0, 1, 0, 1);
        Checks.due("isPassable() with each second one missing", twelve.isPassable(), true);
        PlankBridge last = Books.bridge("", "", 1, 1, 1, 1, 1, 1, 1, 1, 1, 1, 0, 0);
        Checks.due("isPassable() without the last two of twelve", last.isPassable(), false);
    }

    private static void crossing() {
        Sentences.says("A crossing is by one walker, or by two, from the side of the lamp to the other"
                + " one, and takes the minutes of the slower one.");
        PlankBridge x = Checks.taught(Books.people(1, 3, 1, 11, 1, 5) + Books.STRONG);
        x.crossAlone(2);
        Checks.due("behind one", Checks.state(x), "nnf f 55 0:5 30,30,30,30");
        x.crossAlone(2);
        Checks.due("behind one back", Checks.state(x), "nnn n 50 0:10 30,30,30,30");
        x.crossTogether(0, 1);
        Checks.due("behind two, the other one slower", Checks.state(x), "ffn f 39 0:21 30,30,30,30");
        x.crossTogether(1, 0);
        Checks.due("behind two back, the one slower", Checks.state(x), "nnn n 28 0:32 30,30,30,30");
    }

    private static void whenItCanBeMade() {
        Sentences.says("It can be made, if they stand on the side of the lamp,");
        PlankBridge x = Checks.taught(Books.people(1, 1, 1, 1, 1, 1, 1, 1) + Books.STRONG);
        x.crossTogether(0, 1);
        PlankBridge far = x;
        Checks.due("canCrossAlone(0), far", far.canCrossAlone(0), true);
        Checks.due("canCrossAlone(2), near", far.canCrossAlone(2), false);
        Checks.due("canCrossTogether(0, 1), far", far.canCrossTogether(0, 1), true);
        Checks.due("canCrossTogether(0, 2), apart", far.canCrossTogether(0, 2), false);
        Checks.due("canCrossTogether(2, 0), apart", far.canCrossTogether(2, 0), false);
        Checks.due("canCrossTogether(2, 3), near", far.canCrossTogether(2, 3), false);
        Checks.thrown("crossAlone(2), near", NOT_NOW, far, () -> far.crossAlone(2));
        Checks.thrown("crossTogether(0, 2), apart", NOT_NOW, far, () -> far.crossTogether(0, 2));
        Checks.thrown("crossTogether(2, 0), apart", NOT_NOW, far, () -> far.crossTogether(2, 0));
        x.crossAlone(0);
        Checks.due("canCrossAlone(1), far", x.canCrossAlone(1), false);
        Checks.due("canCrossAlone(2), near", x.canCrossAlone(2), true);
        Checks.due("canCrossTogether(1, 2), apart", x.canCrossTogether(1, 2), false);
        Sentences.says("the bridge can be passed,");
        PlankBridge broken = Books.bridge(Books.people(1, 1), "", 9, 0, 0, 9);
        Checks.due("canCrossAlone(0)", broken.canCrossAlone(0), false);
        Checks.thrown("crossAlone(0)", NOT_NOW, broken, () -> broken.crossAlone(0));
        broken.layPlank(1, 1);
        Checks.due("canCrossAlone(0) with a new plank", broken.canCrossAlone(0), true);
        Sentences.says("the lamp has oil for as many minutes,");
        PlankBridge oil = Checks.taught(Books.people(1, 20, 1, 19, 1, 1, 1, 2) + Books.STRONG);
        oil.crossAlone(0);
        oil.crossAlone(0);
        Checks.due("canCrossAlone(0) with oil for 20", oil.canCrossAlone(0), true);
        oil.crossTogether(1, 2);
        Checks.due("canCrossAlone(2) with oil for 1", oil.canCrossAlone(2), true);
        Checks.due("canCrossTogether(1, 2) with oil for 1", oil.canCrossTogether(1, 2), false);
        Checks.thrown("crossTogether(2, 1)", NOT_NOW, oil, () -> oil.crossTogether(2, 1));
        oil.crossAlone(2);
        Checks.due("oilLeft()", oil.oilLeft(), 0);
        Checks.thrown("crossAlone(2) without oil", NOT_NOW, oil, () -> oil.crossAlone(2));
        Sentences.says("and the night has them still (so it ends at the minute 120 at the latest).");
        PlankBridge late = Checks.taught(Books.people(1, 20, 1, 1) + Books.STRONG);
        late.rest(101);
        Checks.due("canCrossAlone(0) at the minute 101", late.canCrossAlone(0), false);
        Checks.due("canCrossTogether(1, 0) at the minute 101", late.canCrossTogether(1, 0), false);
        Checks.thrown("crossAlone(0) at the minute 101", NOT_NOW, late, () -> late.crossAlone(0));
        late.rest(18);
        Checks.due("crossAlone(1) at the minute 119", late.crossAlone(1), true);
        Checks.due("behind it", Checks.state(late), "nf f 60 1:0 30,30,30,30");
        late.crossAlone(1);
        late.rest(99);
        Checks.due("crossAlone(0) at the minute 100", late.crossAlone(0), true);
        Checks.due("behind it", Checks.state(late), "fn f 60 2:0 30r,30,30,30");
    }

    private static void theirWay() {
        Sentences.says("They come to the planks one behind the other, from the side of the lamp.");
        // The first two of the way break, and they fall there: the other two pairs stay.
        PlankBridge x = Books.bridge(Books.people(9, 1), "", 5, 5, 30, 6, 6);
        Checks.due("crossAlone(0) from near", x.crossAlone(0), false);
        Checks.due("behind it", Checks.strengths(x), "0,0,30,6,6");
        PlankBridge y = Books.bridge(Books.people(9, 1), "", 30, 30, 30, 30, 30);
        y.crossAlone(0);
        for (int plank : new int[] {0, 1, 3, 4}) {
            y.layPlank(plank, 5);
        }
        Checks.due("crossAlone(0) from far", y.crossAlone(0), false);
        Checks.due("behind it", Checks.strengths(y), "5,5,30,0,0");
    }

    private static void breaking() {
        Sentences.says("One that is not missing and bears less than what they weigh breaks: it is missing"
                + " then, and not rotten.");
        PlankBridge x = Books.bridge(Books.people(5, 1, 4, 1), "", 30, 8, 30, 9, 0, 19);
        Checks.due("crossTogether(0, 1), who weigh 9", x.crossTogether(0, 1), true);
        Checks.due("behind it", Checks.strengths(x), "30,0,30,8,0,19");
        PlankBridge y = Books.bridge(Books.people(5, 1, 4, 1), "", 30, 4, 30, 5, 30);
        y.crossAlone(0);
        Checks.due("behind one who weighs 5", Checks.strengths(y), "30,0,30,4,30");
        // Rotten at first: the plank 1 in the night 2, of which 1 is left a night later.
        PlankBridge z = Checks.taught(Books.people(5, 1) + "planks 30,2,30,30;");
        z.rest(240);
        Checks.due("ahead of it", Checks.strengths(z), "30,2r,30,30");
        z.crossAlone(0);
        Checks.due("a rotten one", Checks.strengths(z), "30,0,30,30");
        z.layPlank(1, 7);
        z.rest(120);
        Checks.due("another one in its place, in the night 3", Checks.strengths(z), "30,7,30,30");
    }

    private static void wearing() {
        Sentences.says("One that bears as much, but less than twice of it, has 1 strength less, but at"
                + " least 1.");
        PlankBridge x = Books.bridge(Books.people(5, 1), "", 5, 6, 9, 10, 11, 30);
        x.crossAlone(0);
        Checks.due("behind one who weighs 5", Checks.strengths(x), "4,5,8,10,11,30");
        PlankBridge two = Books.bridge(Books.people(5, 1, 4, 1), "", 9, 17, 18, 30);
        two.crossTogether(1, 0);
        Checks.due("behind two who weigh 9", Checks.strengths(two), "8,16,18,30");
        PlankBridge light = Books.bridge(Books.people(1, 1, 1, 1), "", 1, 2, 3, 4);
        light.crossAlone(0);
        Checks.due("behind one who weighs 1", Checks.strengths(light), "1,2,3,4");
        light.crossAlone(0);
        light.crossTogether(0, 1);
        Checks.due("behind two who weigh 2", Checks.strengths(light), "0,1,2,4");
        PlankBridge weak = Books.weakNight(Books.people(5, 1), "", 8, 12, 13, 30);
        weak.crossAlone(0);
        Checks.due("behind one who weighs 5, on a weak night", Checks.strengths(weak), "7,11,13,30");
        // The plank 3 is rotten in the night 2, and bears 5 in the night 3.
        PlankBridge rotten = Checks.taught(Books.people(4, 1) + "planks 30,7,9,6;");
        rotten.rest(360);
        rotten.crossAlone(0);
        Checks.due("a rotten one stays so", Checks.strengths(rotten), "30,6,9,4r");
    }

    private static void falling() {
        Sentences.says("If it is missing then, and the one ahead of it on their way is missing, too,"
                + " they fall: they are back where they were, and do not come to any more planks.");
        PlankBridge x = Books.bridge(Books.people(9, 7), "", 18, 5, 5, 30, 5, 17);
        Checks.due("crossAlone(0) where two break", x.crossAlone(0), false);
        Checks.due("behind it", Checks.state(x), "n n 53 18:7 18,0,0,30,5,17");
        PlankBridge y = Books.bridge(Books.people(9, 7, 1, 9), "", 18, 0, 5, 30, 5, 17);
        Checks.due("crossTogether(1, 0) where one breaks behind a missing one", y.crossTogether(1, 0), false);
        Checks.due("behind it", Checks.state(y), "nn n 51 18:9 17,0,0,30,5,17");
        PlankBridge z = Books.bridge(Books.people(9, 7), "", 18, 5, 0, 30, 5, 17);
        Checks.due("crossAlone(0) where one breaks ahead of a missing one", z.crossAlone(0), false);
        Checks.due("behind it", Checks.state(z), "n n 53 18:7 18,0,0,30,5,17");
        PlankBridge first = Books.bridge(Books.people(9, 7), "", 5, 5, 17, 17);
        Checks.due("crossAlone(0) where the first two break", first.crossAlone(0), false);
        Checks.due("behind it", Checks.state(first), "n n 53 12:7 0,0,17,17");
        PlankBridge last = Books.bridge(Books.people(9, 7), "", 17, 17, 5, 5);
        Checks.due("crossAlone(0) where the last two break", last.crossAlone(0), false);
        Checks.due("behind it", Checks.state(last), "n n 53 12:7 16,16,0,0");
        PlankBridge back = Books.bridge(Books.people(9, 7), "", 30, 30, 30, 30, 30);
        back.crossAlone(0);
        back.layPlank(0, 17);
        back.layPlank(2, 5);
        back.layPlank(3, 5);
        back.layPlank(4, 17);
        Checks.due("crossAlone(0) back, where two break", back.crossAlone(0), false);
        Checks.due("behind it", Checks.state(back), "f f 46 15:14 17,30,0,0,16");
        // A plank apart, or at both ends: nobody falls.
        PlankBridge apart = Books.bridge(Books.people(9, 7), "", 5, 30, 5, 30, 5);
        Checks.due("crossAlone(0) where each second one breaks", apart.crossAlone(0), true);
        Checks.due("behind it", Checks.state(apart), "f f 53 15:7 0,30,0,30,0");
        PlankBridge ends = Books.bridge(Books.people(9, 7), "", 5, 17, 17, 5);
        Checks.due("crossAlone(0) where both ends break", ends.crossAlone(0), true);
        Checks.due("behind it", Checks.state(ends), "f f 53 12:7 0,16,16,0");
    }

    private static void overAtLast() {
        Sentences.says("Otherwise they, and the lamp, are on the other side at last.");
        PlankBridge x = Books.bridge(Books.people(9, 7, 1, 1, 1, 1), "", 5, 30, 5, 30);
        x.crossTogether(0, 2);
        Checks.due("behind two", Checks.state(x).substring(0, 5), "fnf f");
        x.crossAlone(2);
        Checks.due("behind one back", Checks.state(x).substring(0, 5), "fnn n");
        Sentences.says("Then, in both cases, the lamp has oil for so many minutes less, and these go by.");
        Checks.due("behind 7 and 1", Checks.state(x), "fnn n 52 12:8 0,30,0,30");
        PlankBridge fall = Checks.taught(Books.people(9, 13) + "planks 1,1,9,9;");
        fall.rest(227);
        Checks.due("crossAlone(0)", fall.crossAlone(0), false);
        Checks.due("behind a fall at the end of the night 1", Checks.state(fall), "n n 60 2:0 0,0,9r,9");
        PlankBridge early = Checks.taught(Books.people(9, 13) + "planks 1,1,9,9;");
        early.crossAlone(0);
        Checks.due("behind a fall", Checks.state(early), "n n 47 0:13 0,0,9,9");
        early.rest(1);
        Checks.due("a minute later", Checks.state(early), "n n 47 0:14 0,0,9,9");
    }

    private static void minutesGoBy() {
        Sentences.says("Minutes go by: the minute is greater; if it is 120 or more then, it is 120 less,"
                + " and a new night begins: its number is 1 greater,");
        int[][] cases = {{119, 0, 119}, {120, 1, 0}, {121, 1, 1}, {239, 1, 119}, {240, 2, 0}, {241, 2, 1},
            {599, 4, 119}, {600, 5, 0}};
        for (int[] given : cases) {
            PlankBridge x = new PlankBridge();
            Checks.due("rest(" + given[0] + ")", x.rest(given[0]), given[1]);
            Checks.due("behind it", x.night() + ":" + x.minute(), given[1] + ":" + given[2]);
        }
        PlankBridge y = new PlankBridge();
        y.rest(119);
        Checks.due("rest(600) at the minute 119", y.rest(600), 5);
        Checks.due("behind it", y.night() + ":" + y.minute(), "5:119");
        Checks.due("rest(1)", y.rest(1), 1);
        Checks.due("behind it", y.night() + ":" + y.minute(), "6:0");
    }

    private static void oilAndRot() {
        Sentences.says("and the lamp has oil for 60 minutes;");
        PlankBridge x = Checks.taught(Books.people(1, 17) + Books.STRONG);
        x.crossAlone(0);
        x.rest(102);
        Checks.due("oilLeft() at the minute 119", x.oilLeft(), 43);
        x.rest(1);
        Checks.due("oilLeft() in the next night", x.oilLeft(), 60);
        x.rest(103);
        x.crossAlone(0);
        Checks.due("oilLeft() as a crossing ends the night", x.oilLeft(), 60);
        Sentences.says("each rotten plank has 1 strength less (with 0 it is missing, and not rotten any"
                + " more);");
        PlankBridge y = Checks.taught("planks 5,3,3,8;");
        String[] nights = {"5,3,3,8", "5,3,3,8", "5,3r,3,8", "5,2r,3,8", "5,1r,3,8", "5,0,3r,8",
            "5,0,2r,8", "5,0,1r,8", "5r,0,0,8", "4r,0,0,8", "3r,0,0,8", "2r,0,0,8r", "1r,0,0,7r",
            "0,0,0,6r", "0,0,0,5r", "0,0,0,4r", "0,0,0,3r", "0,0,0,2r", "0,0,0,1r", "0,0,0,0", "0,0,0,0"};
        for (int night = 0; night < nights.length; night++) {
            Checks.due("the planks in the night " + night, Checks.strengths(y), nights[night]);
            y.rest(120);
        }
        PlankBridge once = Checks.taught("planks 5,3,3,8;");
        for (int night = 5; night <= 20; night += 5) {
            once.rest(600);
            Checks.due("the planks behind five nights at once", Checks.strengths(once), nights[night]);
        }
    }

    private static void whichOneRots() {
        Sentences.says("and if it is a weak night, the weakest of the planks that are neither missing nor"
                + " rotten, of several the one with the smallest number, is rotten.");
        String[] books = {"9,8,7,6", "6,7,8,9", "5,5,5,5", "9,4,4,4", "30,30,30,30", "9,9,9,9,9,9,9,9,9,9,9,1"};
        String[] rotten = {"9,8,7,6r", "6r,7,8,9", "5r,5,5,5", "9,4r,4,4", "30r,30,30,30",
            "9,9,9,9,9,9,9,9,9,9,9,1r"};
        for (int i = 0; i < books.length; i++) {
            PlankBridge x = Checks.taught("planks " + books[i] + ";");
            x.rest(239);
            Checks.due("the planks ahead of the night 2", Checks.strengths(x), books[i]);
            x.rest(1);
            Checks.due("the planks in the night 2", Checks.strengths(x), rotten[i]);
            x.rest(119);
            Checks.due("the planks at its end", Checks.strengths(x), rotten[i]);
        }
        // The missing one and the rotten one are weaker, but do not count.
        PlankBridge y = Checks.taught("planks 2,9,30,30;");
        y.rest(600);
        Checks.due("the planks in the night 5", Checks.strengths(y), "0,9r,30,30");
        y.rest(360);
        Checks.due("the planks in the night 8", Checks.strengths(y), "0,6r,30r,30");
        PlankBridge z = Books.bridge("", "", 0, 0, 0, 7);
        z.rest(240);
        Checks.due("the only plank", Checks.strengths(z), "0,0,0,7r");
        z.rest(360);
        Checks.due("the only plank, which is rotten already", Checks.strengths(z), "0,0,0,4r");
        PlankBridge none = Books.bridge("", "", 0, 0, 0, 0);
        none.rest(240);
        Checks.due("no plank", Checks.strengths(none), "0,0,0,0");
    }
}
