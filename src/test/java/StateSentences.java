import java.util.function.BiConsumer;
import java.util.function.Supplier;

/** The promises 1 to 33, sentence by sentence. */
final class StateSentences {

    private static final Class<?> NO_SUCH = IndexOutOfBoundsException.class;
    private static final Class<?> ILLEGAL = IllegalArgumentException.class;
    private static final Class<?> NOT_NOW = IllegalStateException.class;
    private static final String NO_WALKER = "Throws `IndexOutOfBoundsException` if there is no such walker";
    private static final String NO_PLANK = "Throws `IndexOutOfBoundsException` if there is no such plank";
    private static final String NO_PLAN = "Throws `IndexOutOfBoundsException` if there is no such plan";
    private static final int BLANKS = 0x20202020;

    private StateSentences() {
    }

    static void check() {
        newObject();
        feed();
        trim();
        teach();
        errorAt();
        walkers();
        planks();
        plans();
        weightOf();
        minutesOf();
        isNear();
        walkersNear();
        strengthOf();
        bears();
        isRotten();
        missingPlanks();
        weakestPlank();
        isPassable();
        heaviestLoad();
        isLampNear();
        oilLeft();
        night();
        minute();
        isWeakNight();
        crossAlone();
        crossTogether();
        rest();
        layPlank();
        runPlan();
        crossings();
        falls();
        notes();
        noteOf();
    }

    /** The promise under this heading, with the head of its method. */
    static void promise(String heading, String head) {
        Sentences.under("Promise " + heading);
        Sentences.alsoSays("`" + head + "`:");
    }

    // ---- numbers of what is not there

    private static PlankBridge eightTwelveSix() {
        return Checks.taught(Books.walkers(8) + Books.planks(12) + Books.plans(6));
    }

    /** An object that had eight walkers, twelve planks and six plans in the book before. */
    private static PlankBridge oneFourOne() {
        PlankBridge x = eightTwelveSix();
        Checks.teach(x, Books.walkers(1) + Books.planks(4) + Books.plans(1));
        return x;
    }

    /** For a new object, one that has the most, one that had more, and a worn one. */
    private static void noSuch(String call, int[] counts, BiConsumer<PlankBridge, Integer> ask) {
        noSuchOf(call, PlankBridge::new, counts[0], ask);
        noSuchOf(call, StateSentences::eightTwelveSix, counts[1], ask);
        noSuchOf(call, StateSentences::oneFourOne, counts[2], ask);
        noSuchOf(call, Books::worn, counts[3], ask);
    }

    private static void noSuchOf(String call, Supplier<PlankBridge> make, int count,
            BiConsumer<PlankBridge, Integer> ask) {
        for (int number : new int[] {-1, count, count + 1, 12, 100, Integer.MAX_VALUE, Integer.MIN_VALUE}) {
            Checks.refused(call + " of " + number + " with " + count, NO_SUCH, make,
                    x -> ask.accept(x, number));
        }
        for (int number = 0; number < count; number++) {
            int there = number;
            String thrown = Checks.nameOfThrown(() -> ask.accept(make.get(), there));
            Checks.due(call + " of " + number + " with " + count + " is no such",
                    thrown.equals("IndexOutOfBoundsException"), false);
        }
    }

    static void noSuchWalker(String call, BiConsumer<PlankBridge, Integer> ask) {
        Sentences.says(NO_WALKER);
        noSuch(call, new int[] {0, 8, 1, 3}, ask);
    }

    private static void noSuchPlank(String call, BiConsumer<PlankBridge, Integer> ask) {
        Sentences.says(NO_PLANK);
        noSuch(call, new int[] {4, 12, 4, 6}, ask);
    }

    static void noSuchPlan(String call, BiConsumer<PlankBridge, Integer> ask) {
        Sentences.says(NO_PLAN);
        noSuch(call, new int[] {0, 6, 1, 2}, ask);
    }

    // ---- the book

    private static void newObject() {
        promise("1: A new object", "PlankBridge()");
        Sentences.says("Creates a bridge of four planks of the strength 10, without walkers and plans, at the"
                + " minute 0 of the night 0.");
        PlankBridge x = new PlankBridge();
        Checks.due("the planks", Checks.strengths(x), "10,10,10,10");
        Checks.due("planks()", x.planks(), 4);
        Checks.due("walkers() and plans()", x.walkers() + "," + x.plans(), "0,0");
        Checks.due("walkersNear()", x.walkersNear(), 0);
        Checks.due("the night and the minute", x.night() + ":" + x.minute(), "0:0");
        Checks.due("all that is counted", x.crossings() + x.falls() + x.notes(), 0);
        PlankBridge other = new PlankBridge();
        other.rest(600);
        other.layPlank(0, 3);
        Checks.due("the first one behind another one", Answers.of(x), Answers.of(new PlankBridge()));
    }

    /** So many bytes of blanks. */
    private static PlankBridge fed(int bytes) {
        PlankBridge x = new PlankBridge();
        for (int length = 0; length < bytes; length += 20) {
            x.feed(BLANKS, BLANKS, BLANKS, BLANKS, BLANKS);
        }
        x.trim(bytes);
        return x;
    }

    private static void feed() {
        promise("2: feed", "int feed(int a, int b, int c, int d, int e) throws IllegalStateException");
        Sentences.says("Appends twenty bytes to the tape: the four bytes of each number, the highest one"
                + " first.", "- `a`: bytes 1 to 4", "- `b`: bytes 5 to 8", "- `c`: bytes 9 to 12",
                "- `d`: bytes 13 to 16", "- `e`: bytes 17 to 20");
        PlankBridge x = new PlankBridge();
        // "planks 30,21,11,1;" and blanks; then another row of numbers for the same.
        x.feed(0x706c616e, 0x6b732033, 0x302c3231, 0x2c31312c, 0x313b2020);
        Checks.due("teach()", x.teach(), 0);
        Checks.due("the planks", Checks.strengths(x), "30,21,11,1");
        x.feed(BLANKS, BLANKS, BLANKS, BLANKS, 0x706c616e);
        x.feed(0x6b732033, 0x302c3231, 0x2c31312c, 0x323b200a, 0x0a0a0a0a);
        Checks.due("teach() of two feeds", x.teach(), 0);
        Checks.due("the planks", Checks.strengths(x), "30,21,11,2");
        for (int at = 0; at < 40; at++) {
            byte[] bytes = " ".repeat(40).getBytes();
            bytes[at] = (byte) (at % 2 == 0 ? 0xff : 0x80);
            Checks.feedBytes(x, bytes);
            Checks.due("teach() of the byte " + at, x.teach(), 1);
            Checks.due("errorAt() of the byte " + at, x.errorAt(), at);
        }
        Sentences.says("Returns the number of bytes of the tape.");
        PlankBridge y = new PlankBridge();
        for (int bytes = 20; bytes <= 1600; bytes += 20) {
            Checks.due("feed", y.feed(-1, Integer.MIN_VALUE, 0, 1, Integer.MAX_VALUE), bytes);
        }
        y.trim(1575);
        Checks.due("feed at 1575", y.feed(0, 0, 0, 0, 0), 1595);
        y.trim(0);
        Checks.due("feed at 0", y.feed(0, 0, 0, 0, 0), 20);
        Sentences.says("Throws `IllegalStateException` if there would be more than 1600");
        Checks.due("feed at 1580", fed(1580).feed(0, 0, 0, 0, 0), 1600);
        for (int bytes : new int[] {1581, 1582, 1590, 1599, 1600}) {
            Checks.refused("feed at " + bytes, NOT_NOW, () -> fed(bytes), z -> z.feed(-1, -1, -1, -1, -1));
        }
    }

    private static void trim() {
        promise("3: trim", "int trim(int bytes) throws IllegalArgumentException");
        Sentences.says("Shortens the tape to its first bytes.", "- `bytes`: how many are kept");
        PlankBridge x = new PlankBridge();
        Checks.feed(x, "planks 1,2,3,4;#,5; ".getBytes());
        x.trim(15);
        Checks.due("feed behind it", Checks.feed(x, "     plan p ()      ".getBytes()), 35);
        Checks.due("teach()", x.teach(), 0);
        Checks.due("the planks and plans", Checks.strengths(x) + " " + x.plans(), "1,2,3,4 1");
        Sentences.says("Returns bytes.");
        PlankBridge y = fed(1600);
        for (int bytes : new int[] {1600, 1599, 1599, 20, 1, 0, 0}) {
            Checks.due("trim(" + bytes + ")", y.trim(bytes), bytes);
        }
        Checks.due("trim(0) of a new object", new PlankBridge().trim(0), 0);
        Sentences.says("Throws `IllegalArgumentException` if bytes is not 0 to the number of bytes of the tape");
        for (int length : new int[] {0, 1, 20, 35, 1599, 1600}) {
            Checks.due("trim(" + length + ") of as many", fed(length).trim(length), length);
            for (int bytes : new int[] {-1, length + 1, 1601, Integer.MAX_VALUE, Integer.MIN_VALUE}) {
                Checks.refused("trim(" + bytes + ") of " + length, ILLEGAL, () -> fed(length),
                        z -> z.trim(bytes));
            }
        }
        // Behind a shorter tape there is nothing, though there was.
        Checks.refused("trim(16) behind trim(15)", ILLEGAL, () -> {
            PlankBridge z = fed(20);
            z.trim(15);
            return z;
        }, z -> z.trim(16));
    }

    private static void teach() {
        promise("4: teach", "int teach()");
        Sentences.says("Reads the tape as the book, in the place of the one before; all begins anew.");
        String[] books = {Books.FOUR, Books.people(9, 5) + "planks 30,5,5,30;plan p (note 7;)",
            Books.walkers(8) + Books.planks(12) + Books.plans(6), Books.fourHundred()};
        for (String book : books) {
            PlankBridge x = Books.worn();
            Answers.now(x);
            Checks.due("teach() of " + book, Checks.teach(x, book), 0);
            Checks.due("all that is answered", Answers.of(x), Answers.of(Checks.taught(book)));
            PlankBridge again = Checks.taught(book);
            again.rest(600);
            again.layPlank(2, 17);
            Checks.teach(again, book);
            Checks.due("all that is answered behind the same book", Answers.of(again),
                    Answers.of(Checks.taught(book)));
            PlankBridge often = Checks.taught(Books.walkers(8) + Books.planks(12) + Books.plans(6));
            for (String text : new String[] {Books.FOUR + "plan p (" + Books.acts(60) + ")", "#",
                Books.FOUR + "plan z (do z;)", Books.FOUR + "plan p (if 1=1 () else (note 1;))", book}) {
                Checks.teach(often, text);
            }
            Checks.due("all that is answered behind many books", Answers.of(often),
                    Answers.of(Checks.taught(book)));
        }
        PlankBridge rotten = Checks.taught("planks 1,9,9,9;");
        rotten.rest(240);
        Checks.teach(rotten, "planks 7,8,9,9;");
        rotten.rest(120);
        Checks.due("no plank is rotten behind it", Checks.strengths(rotten), "7,8,9,9");
        Sentences.says("If it has an error, all stays (but the tape is empty).");
        String[] wrong = {"", "#", Books.FOUR + ";", Books.people(1, 1, 2, 2).replace("b", "a") + Books.FOUR,
            Books.walkers(5) + Books.planks(7) + "plan p (send a;)", Books.planks(13),
            Books.walkers(8) + Books.planks(12) + "plan q (note 5;) plan o (note 100;)", "planks 1,2,3;",
            Books.FOUR + "plan p (" + Books.acts(61) + ")"};
        int[] errors = {1, 1, 1, 2, 3, 4, 5, 5, 4};
        for (int i = 0; i < wrong.length; i++) {
            PlankBridge x = Books.worn();
            Checks.due("teach() of " + wrong[i], Checks.teach(x, wrong[i]), errors[i]);
            Checks.due("trim(1)", Checks.nameOfThrown(() -> x.trim(1)), "IllegalArgumentException");
            PlankBridge other = Books.worn();
            other.trim(0);
            Checks.due("all that is answered, but for errorAt()", withoutErrorAt(x), withoutErrorAt(other));
        }
        Sentences.says("Returns 0, or the error, 1 to 5.");
        Checks.error(Books.FOUR, 0, -1);
        Checks.errorThere("planks 1,2,3,4|", 1);
        Checks.errorThere(Books.ONE + "plan |a ()", 2);
        Checks.errorThere(Books.ONE + "plan p (send |b;)", 3);
        Checks.errorThere(Books.planks(12).replace(";", ",|1;"), 4);
        Checks.errorThere("planks 1,2,3|;", 5);
    }

    private static String withoutErrorAt(PlankBridge x) {
        return Answers.of(x).replaceFirst("errorAt=\\S+ ", "");
    }

    private static void errorAt() {
        promise("5: errorAt", "int errorAt()");
        Sentences.says("Returns the position of the error of the latest teach(); -1 if it had none, or there"
                + " was none.");
        PlankBridge x = new PlankBridge();
        Checks.due("errorAt() of a new object", x.errorAt(), -1);
        x.rest(5);
        Checks.feedText(x, "planks 1,2,31,4;");
        Checks.due("errorAt() ahead of teach()", x.errorAt(), -1);
        x.teach();
        Checks.due("errorAt() of error 5", x.errorAt(), 11);
        x.rest(5);
        x.layPlank(1, 1);
        Checks.feedText(x, Books.FOUR);
        Checks.due("errorAt() ahead of the next teach()", x.errorAt(), 11);
        x.teach();
        Checks.due("errorAt() of no error", x.errorAt(), -1);
        Checks.teach(x, "");
        Checks.due("errorAt() of an empty tape", x.errorAt(), 0);
        Checks.teach(x, " ".repeat(1600));
        Checks.due("errorAt() of a full one", x.errorAt(), 1600);
        Checks.teach(x, Books.planks(12).replace(";", ",1;"));
        Checks.due("errorAt() of error 4", x.errorAt(), 31);
        Checks.teach(x, Books.FOUR + " plan p ()");
        Checks.due("errorAt() of no error", x.errorAt(), -1);
    }

    private static void walkers() {
        promise("6: walkers", "int walkers()");
        Sentences.says("Returns how many walkers there are.");
        Checks.due("walkers() of a new object", new PlankBridge().walkers(), 0);
        for (int number = 0; number <= 8; number++) {
            PlankBridge x = Checks.taught(Books.walkers(number) + Books.FOUR);
            if (number > 0) {
                x.crossAlone(0);
            }
            Checks.due("walkers()", x.walkers(), number);
        }
        Checks.due("walkers() of one behind eight", oneFourOne().walkers(), 1);
    }

    private static void planks() {
        promise("7: planks", "int planks()");
        Sentences.says("Returns how many planks there are, missing ones as well.");
        Checks.due("planks() of a new object", new PlankBridge().planks(), 4);
        for (int number = 4; number <= 12; number++) {
            Checks.due("planks()", Checks.taught(Books.planks(number)).planks(), number);
            Checks.due("planks(), all missing", Books.bridge("", "", new int[number]).planks(), number);
        }
        Checks.due("planks() of four behind twelve", oneFourOne().planks(), 4);
    }

    private static void plans() {
        promise("8: plans", "int plans()");
        Sentences.says("Returns how many plans there are.");
        Checks.due("plans() of a new object", new PlankBridge().plans(), 0);
        for (int number = 0; number <= 6; number++) {
            Checks.due("plans()", Checks.taught(Books.FOUR + Books.plans(number)).plans(), number);
        }
        Checks.due("plans() of one behind six", oneFourOne().plans(), 1);
    }

    // ---- walkers

    private static PlankBridge people() {
        return Checks.taught(Books.people(9, 1, 1, 20, 5, 7) + Books.STRONG);
    }

    private static void weightOf() {
        promise("9: weightOf", "int weightOf(int walker) throws IndexOutOfBoundsException");
        Sentences.says("- `walker`: a walker", "Returns what this one weighs.");
        Checks.due("the weights", people().weightOf(0) * 100 + people().weightOf(1) * 10 + people().weightOf(2),
                915);
        Checks.due("weightOf(7) of eight", eightTwelveSix().weightOf(7), 1);
        noSuchWalker("weightOf", (x, walker) -> x.weightOf(walker));
    }

    private static void minutesOf() {
        promise("10: minutesOf", "int minutesOf(int walker) throws IndexOutOfBoundsException");
        Sentences.says("- `walker`: a walker", "Returns how many minutes this one takes.");
        Checks.due("the minutes", people().minutesOf(0) * 1000 + people().minutesOf(1) * 10
                + people().minutesOf(2), 1207);
        Checks.due("minutesOf(7) of eight", eightTwelveSix().minutesOf(7), 1);
        noSuchWalker("minutesOf", (x, walker) -> x.minutesOf(walker));
    }

    private static void isNear() {
        promise("11: isNear", "boolean isNear(int walker) throws IndexOutOfBoundsException");
        Sentences.says("- `walker`: a walker", "Returns whether this one stands near.");
        PlankBridge x = Checks.taught(Books.walkers(8) + Books.STRONG);
        for (int i = 0; i < 8; i++) {
            x.crossAlone(i);
            for (int walker = 0; walker < 8; walker++) {
                Checks.due("isNear(" + walker + ") with " + i + " far", x.isNear(walker), walker != i);
            }
            x.crossAlone(i);
            Checks.due("isNear(" + i + ") back", x.isNear(i), true);
        }
        x.crossTogether(6, 7);
        Checks.due("isNear of the last two", x.isNear(6) || x.isNear(7), false);
        Checks.due("isNear(5)", x.isNear(5), true);
        noSuchWalker("isNear", (y, walker) -> y.isNear(walker));
    }

    private static void walkersNear() {
        promise("12: walkersNear", "int walkersNear()");
        Sentences.says("Returns how many walkers stand near.");
        Checks.due("walkersNear() of none", new PlankBridge().walkersNear(), 0);
        PlankBridge x = Checks.taught(Books.walkers(8) + Books.STRONG);
        for (int near = 8; near > 2; near--) {
            Checks.due("walkersNear()", x.walkersNear(), near);
            x.crossTogether(0, near - 1);
            Checks.due("walkersNear() with two fewer", x.walkersNear(), near - 2);
            x.crossAlone(0);
        }
        x.crossTogether(0, 1);
        Checks.due("walkersNear() of all far", x.walkersNear(), 0);
    }

    // ---- planks

    private static void strengthOf() {
        promise("13: strengthOf", "int strengthOf(int plank) throws IndexOutOfBoundsException");
        Sentences.says("- `plank`: a plank", "Returns its strength, 0 if it is missing.");
        PlankBridge x = Books.bridge("", "", 1, 30, 0, 7, 0);
        for (int plank = 0; plank < 5; plank++) {
            Checks.due("strengthOf(" + plank + ")", x.strengthOf(plank), new int[] {1, 30, 0, 7, 0}[plank]);
        }
        Checks.due("strengthOf(11) of twelve", eightTwelveSix().strengthOf(11), 1);
        noSuchPlank("strengthOf", (y, plank) -> y.strengthOf(plank));
    }

    private static void bears() {
        promise("14: bears", "int bears(int plank) throws IndexOutOfBoundsException");
        Sentences.says("- `plank`: a plank", "Returns what it bears in this night.");
        PlankBridge x = Books.weakNight("", "", 1, 2, 3, 4, 0, 30);
        int[] strengths = {1, 2, 3, 4, 0, 30};
        for (int plank = 0; plank < 6; plank++) {
            Checks.due("bears(" + plank + ") on a weak night", x.bears(plank),
                    Math.max(0, strengths[plank] - 3));
        }
        x.rest(120);
        for (int plank = 0; plank < 6; plank++) {
            Checks.due("bears(" + plank + ") a night later", x.bears(plank), strengths[plank]);
        }
        noSuchPlank("bears", (y, plank) -> y.bears(plank));
    }

    private static void isRotten() {
        promise("15: isRotten", "boolean isRotten(int plank) throws IndexOutOfBoundsException");
        Sentences.says("- `plank`: a plank", "Returns whether it is rotten.");
        PlankBridge x = Checks.taught("planks 9,2,9,1;");
        x.rest(240);
        for (int plank = 0; plank < 4; plank++) {
            Checks.due("isRotten(" + plank + ") in the night 2", x.isRotten(plank), plank == 3);
        }
        x.rest(360);
        for (int plank = 0; plank < 4; plank++) {
            Checks.due("isRotten(" + plank + ") in the night 5", x.isRotten(plank), plank == 1);
        }
        Checks.due("isRotten(0) of a new object", new PlankBridge().isRotten(0), false);
        noSuchPlank("isRotten", (y, plank) -> y.isRotten(plank));
    }

    private static void missingPlanks() {
        promise("16: missingPlanks", "int missingPlanks()");
        Sentences.says("Returns how many planks are missing.");
        Checks.due("missingPlanks() of a new object", new PlankBridge().missingPlanks(), 0);
        Checks.due("missingPlanks() of all", Books.bridge("", "", new int[12]).missingPlanks(), 12);
        Checks.due("missingPlanks() of 0,1,0,0,1", Books.bridge("", "", 0, 1, 0, 0, 1).missingPlanks(), 3);
        PlankBridge x = Checks.taught("planks 9,1,9,1;");
        x.rest(240);
        Checks.due("missingPlanks() with a rotten one", x.missingPlanks(), 0);
        x.rest(120);
        Checks.due("missingPlanks() a night later", x.missingPlanks(), 1);
        x.layPlank(1, 1);
        Checks.due("missingPlanks() with a new one", x.missingPlanks(), 0);
    }

    private static void weakestPlank() {
        promise("17: weakestPlank", "int weakestPlank() throws IllegalStateException");
        Sentences.says("Returns the weakest plank that is not missing, of several the one with the smallest"
                + " number.");
        Checks.due("weakestPlank() of 9,4,3,3,8", Checks.taught("planks 9,4,3,3,8;").weakestPlank(), 2);
        Checks.due("weakestPlank() of 9,8,8,1", Checks.taught("planks 9,8,8,1;").weakestPlank(), 3);
        Checks.due("weakestPlank() of 30s", Checks.taught(Books.STRONG).weakestPlank(), 0);
        Checks.due("weakestPlank() of 0,5,0,4", Books.bridge("", "", 0, 5, 0, 4).weakestPlank(), 3);
        Checks.due("weakestPlank() of 0,4,0,4", Books.bridge("", "", 0, 4, 0, 4).weakestPlank(), 1);
        Checks.due("weakestPlank() of one left", Books.bridge("", "", 0, 0, 0, 30).weakestPlank(), 3);
        Checks.due("weakestPlank() on a weak night, where 3 and 1 bear 0",
                Books.weakNight("", "", 3, 1, 2, 9).weakestPlank(), 1);
        PlankBridge rotten = Books.bridge("", "", 0, 5, 4, 0);
        rotten.rest(240);
        Checks.due("weakestPlank(), which is rotten", rotten.weakestPlank(), 2);
        Checks.due("weakestPlank() of one left, which is rotten", onlyRotten().weakestPlank(), 3);
        Sentences.says("Throws `IllegalStateException` if all are missing");
        Checks.refused("weakestPlank() of four missing", NOT_NOW, () -> Books.bridge("", "", 0, 0, 0, 0),
                x -> x.weakestPlank());
        Checks.refused("weakestPlank() of twelve missing", NOT_NOW, () -> Books.bridge("", "", new int[12]),
                x -> x.weakestPlank());
        Checks.due("weakestPlank() with one again", Books.bridge("", "", 0, 0, 1, 0).weakestPlank(), 2);
    }

    /** Only the last plank is left, of the strength 8, in a night that is not weak. */
    private static PlankBridge onlyRotten() {
        PlankBridge x = Books.bridge("", "", 0, 0, 0, 9);
        x.rest(360);
        return x;
    }

    private static void isPassable() {
        promise("18: isPassable", "boolean isPassable()");
        Sentences.says("Returns whether the bridge can be passed.");
        Checks.due("isPassable() of a new object", new PlankBridge().isPassable(), true);
        Checks.due("isPassable() of 0,5,4,0", Books.bridge("", "", 0, 5, 4, 0).isPassable(), true);
        Checks.due("isPassable() of 0,5,0,4", Books.bridge("", "", 0, 5, 0, 4).isPassable(), true);
        Checks.due("isPassable() of 0,0,5,4", Books.bridge("", "", 0, 0, 5, 4).isPassable(), false);
        Checks.due("isPassable() of 5,0,0,4", Books.bridge("", "", 5, 0, 0, 4).isPassable(), false);
        Checks.due("isPassable() of 5,4,0,0", Books.bridge("", "", 5, 4, 0, 0).isPassable(), false);
        Checks.due("isPassable() of 0,0,0,0", Books.bridge("", "", 0, 0, 0, 0).isPassable(), false);
    }

    private static void heaviestLoad() {
        promise("19: heaviestLoad", "int heaviestLoad() throws IllegalStateException");
        Sentences.says("Returns the greatest weight under which no plank would break in this night.");
        Checks.due("heaviestLoad() of a new object", new PlankBridge().heaviestLoad(), 10);
        Checks.due("heaviestLoad() of 9,4,30,5", Checks.taught("planks 9,4,30,5;").heaviestLoad(), 4);
        Checks.due("heaviestLoad() of 0,6,0,7", Books.bridge("", "", 0, 6, 0, 7).heaviestLoad(), 6);
        Checks.due("heaviestLoad() of one left, which is rotten", onlyRotten().heaviestLoad(), 8);
        PlankBridge rotten = Checks.taught("planks 9,8,8,9;");
        rotten.rest(360);
        Checks.due("heaviestLoad() of 9,7,8,9 with the 7 rotten", rotten.heaviestLoad(), 7);
        Checks.due("heaviestLoad() of 30s on a weak night",
                Books.weakNight("", "", 30, 30, 30, 30).heaviestLoad(), 27);
        Checks.due("heaviestLoad() of 4 on a weak night", Books.weakNight("", "", 9, 0, 4, 9).heaviestLoad(), 1);
        Checks.due("heaviestLoad() of 3 on a weak night", Books.weakNight("", "", 9, 0, 3, 9).heaviestLoad(), 0);
        Checks.due("heaviestLoad() of 1 on a weak night", Books.weakNight("", "", 9, 0, 1, 9).heaviestLoad(), 0);
        Sentences.says("Throws `IllegalStateException` if all are missing");
        Checks.refused("heaviestLoad() of four missing", NOT_NOW, () -> Books.bridge("", "", 0, 0, 0, 0),
                x -> x.heaviestLoad());
        Checks.refused("heaviestLoad() of twelve missing", NOT_NOW, () -> Books.bridge("", "", new int[12]),
                x -> x.heaviestLoad());
        Checks.due("heaviestLoad() with one again", Books.bridge("", "", 0, 0, 1, 0).heaviestLoad(), 1);
    }

    // ---- the lamp and the night

    private static void isLampNear() {
        promise("20: isLampNear", "boolean isLampNear()");
        Sentences.says("Returns whether the lamp stands near.");
        PlankBridge x = people();
        Checks.due("isLampNear() at first", x.isLampNear(), true);
        x.crossAlone(0);
        Checks.due("isLampNear() behind a crossing", x.isLampNear(), false);
        x.rest(600);
        Checks.due("isLampNear() behind a rest", x.isLampNear(), false);
        x.crossAlone(0);
        Checks.due("isLampNear() behind the way back", x.isLampNear(), true);
    }

    private static void oilLeft() {
        promise("21: oilLeft", "int oilLeft()");
        Sentences.says("Returns for how many minutes it has oil.");
        PlankBridge x = people();
        Checks.due("oilLeft() at first", x.oilLeft(), 60);
        x.crossTogether(1, 0);
        Checks.due("oilLeft() behind 20 minutes", x.oilLeft(), 40);
        x.crossTogether(1, 0);
        x.rest(20);
        x.crossTogether(1, 0);
        Checks.due("oilLeft() behind 60 minutes", x.oilLeft(), 0);
        x.rest(39);
        Checks.due("oilLeft() at the minute 119", x.oilLeft(), 0);
        x.rest(1);
        Checks.due("oilLeft() in a new night", x.oilLeft(), 60);
    }

    private static void night() {
        promise("22: night", "int night()");
        Sentences.says("Returns how many nights went by.");
        PlankBridge x = new PlankBridge();
        int[] minutes = {1, 118, 1, 119, 1, 600, 599, 1, 121};
        int[] nights = {0, 0, 1, 1, 2, 7, 11, 12, 13};
        for (int i = 0; i < minutes.length; i++) {
            x.rest(minutes[i]);
            Checks.due("night() behind rest(" + minutes[i] + ")", x.night(), nights[i]);
        }
    }

    private static void minute() {
        promise("23: minute", "int minute()");
        Sentences.says("Returns the minute of this night.");
        PlankBridge x = people();
        int[] minutes = {1, 118, 1, 119, 1, 600, 599, 1, 121};
        int[] left = {1, 119, 0, 119, 0, 0, 119, 0, 1};
        for (int i = 0; i < minutes.length; i++) {
            x.rest(minutes[i]);
            Checks.due("minute() behind rest(" + minutes[i] + ")", x.minute(), left[i]);
        }
        x.crossAlone(1);
        Checks.due("minute() behind 20 minutes", x.minute(), 21);
    }

    private static void isWeakNight() {
        promise("24: isWeakNight", "boolean isWeakNight()");
        Sentences.says("Returns whether this night is weak.");
        PlankBridge x = new PlankBridge();
        for (int night = 0; night < 12; night++) {
            Checks.due("isWeakNight() of " + night, x.isWeakNight(), night % 3 == 2);
            x.rest(119);
            Checks.due("isWeakNight() at the end of " + night, x.isWeakNight(), night % 3 == 2);
            x.rest(1);
        }
    }

    // ---- by hand

    private static void crossAlone() {
        promise("25: crossAlone",
                "boolean crossAlone(int walker) throws IndexOutOfBoundsException, IllegalStateException");
        Sentences.says("Lets a walker cross alone.", "- `walker`: the walker",
                "Returns whether this one is on the other side (otherwise this one fell).");
        PlankBridge x = Books.bridge(Books.people(9, 7, 1, 1), "", 30, 1, 30, 1, 1, 30);
        Checks.due("crossAlone(1)", x.crossAlone(1), true);
        Checks.due("behind it", Checks.state(x), "nf f 59 18:1 30,1,30,1,1,30");
        Checks.due("crossAlone(1) back", x.crossAlone(1), true);
        Checks.due("crossAlone(0)", x.crossAlone(0), false);
        Checks.due("behind it", Checks.state(x), "nn n 51 18:9 30,0,30,0,0,30");
        noSuchWalker("crossAlone", (y, walker) -> y.crossAlone(walker));
        Sentences.says("Throws `IllegalStateException` if this crossing cannot be made");
        Checks.refused("crossAlone(1) of one far", NOT_NOW, Books::worn, y -> y.crossAlone(1));
        Checks.refused("crossAlone(0) of one near", NOT_NOW, StateSentences::lampFar, y -> y.crossAlone(0));
        Checks.refused("crossAlone(0) over two missing ones", NOT_NOW,
                () -> Books.bridge(Books.people(1, 1), "", 5, 0, 0, 5), y -> y.crossAlone(0));
        Checks.refused("crossAlone(1) with oil for 18", NOT_NOW, StateSentences::eighteenLeft,
                y -> y.crossAlone(1));
        Checks.due("crossAlone(3) with oil for 18", eighteenLeft().crossAlone(3), true);
        Checks.refused("crossAlone(0) at the minute 101", NOT_NOW, () -> at(101), y -> y.crossAlone(0));
        Checks.due("crossAlone(0) at the minute 100", at(100).crossAlone(0), true);
    }

    /** A walker who takes 20 and one who takes 19 minutes stand near, one who takes 1 is far. */
    private static PlankBridge lampFar() {
        PlankBridge x = Checks.taught(Books.people(1, 20, 1, 19, 1, 1) + Books.STRONG);
        x.crossAlone(2);
        return x;
    }

    /** All near, who take 20, 19, 1 and 18 minutes, with oil for 18. */
    private static PlankBridge eighteenLeft() {
        PlankBridge x = Checks.taught(Books.people(1, 20, 1, 19, 1, 1, 1, 18) + Books.STRONG);
        x.crossAlone(0);
        x.crossAlone(0);
        x.crossAlone(2);
        x.crossAlone(2);
        return x;
    }

    private static PlankBridge at(int minute) {
        PlankBridge x = Checks.taught(Books.people(1, 20, 1, 19, 1, 1) + Books.STRONG);
        x.rest(minute);
        return x;
    }

    private static void crossTogether() {
        promise("26: crossTogether", "boolean crossTogether(int walker, int other) throws"
                + " IndexOutOfBoundsException, IllegalArgumentException, IllegalStateException");
        Sentences.says("Lets two walkers cross together.", "- `walker`: a walker", "- `other`: another one",
                "Returns whether they are on the other side (otherwise they fell).");
        PlankBridge x = Books.bridge(Books.people(9, 7, 1, 1, 2, 3), "", 30, 3, 30, 3, 3, 30);
        Checks.due("crossTogether(2, 1)", x.crossTogether(2, 1), true);
        Checks.due("behind it", Checks.state(x), "nff f 57 18:3 30,2,30,2,2,30");
        Checks.due("crossTogether(1, 2) falls", x.crossTogether(1, 2), false);
        Checks.due("behind it", Checks.state(x), "nff f 54 18:6 30,2,30,0,0,30");
        noSuchWalker("crossTogether with the other one", (y, walker) -> y.crossTogether(walker, 0));
        noSuchWalker("crossTogether with another one", (y, walker) -> y.crossTogether(0, walker));
        noSuchWalker("crossTogether of both", (y, walker) -> y.crossTogether(walker, walker));
        Sentences.says("Throws `IllegalArgumentException` if both are the same");
        for (int walker = 0; walker < 3; walker++) {
            int same = walker;
            Checks.refused("crossTogether(" + walker + ", " + walker + ")", ILLEGAL, Books::worn,
                    y -> y.crossTogether(same, same));
        }
        Checks.refused("crossTogether(7, 7)", ILLEGAL, StateSentences::eightTwelveSix,
                y -> y.crossTogether(7, 7));
        Sentences.says("Throws `IllegalStateException` if this crossing cannot be made");
        Checks.refused("crossTogether(0, 1), apart", NOT_NOW, Books::worn, y -> y.crossTogether(0, 1));
        Checks.refused("crossTogether(1, 0), apart", NOT_NOW, Books::worn, y -> y.crossTogether(1, 0));
        Checks.refused("crossTogether(0, 1), near without the lamp", NOT_NOW, StateSentences::lampFar,
                y -> y.crossTogether(0, 1));
        Checks.refused("crossTogether(0, 1) over two missing ones", NOT_NOW,
                () -> Books.bridge(Books.people(1, 1, 1, 1), "", 5, 5, 0, 0), y -> y.crossTogether(0, 1));
        Checks.refused("crossTogether(1, 2) with oil for 18", NOT_NOW, StateSentences::eighteenLeft,
                y -> y.crossTogether(1, 2));
        Checks.refused("crossTogether(3, 1) with oil for 18", NOT_NOW, StateSentences::eighteenLeft,
                y -> y.crossTogether(3, 1));
        Checks.due("crossTogether(2, 3) with oil for 18", eighteenLeft().crossTogether(2, 3), true);
        Checks.refused("crossTogether(0, 2) at the minute 101", NOT_NOW, () -> at(101),
                y -> y.crossTogether(0, 2));
        Checks.refused("crossTogether(2, 0) at the minute 101", NOT_NOW, () -> at(101),
                y -> y.crossTogether(2, 0));
        Checks.due("crossTogether(2, 1) at the minute 101", at(101).crossTogether(2, 1), true);
    }

    private static void rest() {
        promise("27: rest", "int rest(int minutes) throws IllegalArgumentException");
        Sentences.says("Lets minutes go by.", "- `minutes`: how many", "Returns how many nights begin in them.");
        for (int start : new int[] {0, 1, 59, 118, 119}) {
            for (int minutes : new int[] {1, 2, 61, 62, 119, 120, 121, 239, 240, 241, 359, 360, 599, 600}) {
                PlankBridge x = new PlankBridge();
                x.rest(240 + start);
                Checks.due("rest(" + minutes + ") at the minute " + start, x.rest(minutes),
                        (start + minutes) / 120);
                Checks.due("the night and the minute behind it", x.night() * 120 + x.minute(),
                        240 + start + minutes);
            }
        }
        Sentences.says("Throws `IllegalArgumentException` if minutes is not 1 to 600");
        for (int minutes : new int[] {0, -1, -120, 601, 720, Integer.MAX_VALUE, Integer.MIN_VALUE}) {
            Checks.refused("rest(" + minutes + ")", ILLEGAL, Books::worn, x -> x.rest(minutes));
            Checks.refused("rest(" + minutes + ")", ILLEGAL, PlankBridge::new, x -> x.rest(minutes));
        }
    }

    private static void layPlank() {
        promise("28: layPlank", "int layPlank(int plank, int strength) throws IndexOutOfBoundsException,"
                + " IllegalArgumentException");
        Sentences.says("Lays another plank in the place of one; it is not rotten.", "- `plank`: the plank",
                "- `strength`: the strength of the new one", "Returns that of the one before.");
        PlankBridge x = Books.bridge("", "", 5, 0, 3, 8);
        Checks.due("layPlank(0, 30)", x.layPlank(0, 30), 5);
        Checks.due("layPlank(0, 1)", x.layPlank(0, 1), 30);
        Checks.due("layPlank(3, 8) for the same", x.layPlank(3, 8), 8);
        Checks.due("layPlank(1, 2) for a missing one", x.layPlank(1, 2), 0);
        Checks.due("the planks", Checks.strengths(x), "1,2,3,8");
        x.rest(240);
        Checks.due("the planks on a weak night", Checks.strengths(x), "1r,2,3,8");
        Checks.due("layPlank(0, 1) for a rotten one", x.layPlank(0, 1), 1);
        Checks.due("the planks", Checks.strengths(x), "1,2,3,8");
        Checks.due("bears(0)", x.bears(0), 0);
        x.rest(120);
        Checks.due("the planks a night later", Checks.strengths(x), "1,2,3,8");
        noSuchPlank("layPlank", (y, plank) -> y.layPlank(plank, 5));
        noSuchPlank("layPlank of no strength", (y, plank) -> y.layPlank(plank, 0));
        Sentences.says("Throws `IllegalArgumentException` if strength is not 1 to 30");
        for (int strength : new int[] {0, -1, 31, 100, Integer.MAX_VALUE, Integer.MIN_VALUE}) {
            for (int plank = 0; plank < 6; plank++) {
                int there = plank;
                Checks.refused("layPlank(" + plank + ", " + strength + ")", ILLEGAL, Books::worn,
                        y -> y.layPlank(there, strength));
            }
        }
    }

    private static void runPlan() {
        promise("29: runPlan", "int runPlan(int plan) throws IndexOutOfBoundsException");
        Sentences.says("Runs a plan.", "- `plan`: the plan", "Returns how many acts are done.");
        PlankBridge x = Checks.taught(Books.people(3, 1, 4, 2) + Books.STRONG + "plan p ()"
                + "plan q (rest 10; send b with a; send a; mend 5; note 1;) plan r (while 1=1 (note oil;))");
        Checks.due("runPlan(0)", x.runPlan(0), 0);
        Checks.due("runPlan(1)", x.runPlan(1), 3);
        Checks.due("behind it", Checks.state(x), "nf n 57 0:13 30,30,30,30");
        Checks.due("runPlan(2)", x.runPlan(2), 100);
        Checks.due("the notes", x.notes() + ": " + Checks.notes(x), "50: 57 57 57 57 57 57 57 57 57 57");
        noSuchPlan("runPlan", (y, plan) -> y.runPlan(plan));
    }

    // ---- what is counted

    private static void crossings() {
        promise("30: crossings", "int crossings()");
        Sentences.says("Returns how many crossings led to the other side in all.");
        PlankBridge x = Checks.taught(Books.people(9, 1, 9, 2) + "planks 30,30,30,30;"
                + "plan p (send fastest; send fastest;)");
        Checks.due("crossings() at first", x.crossings(), 0);
        x.crossTogether(0, 1);
        Checks.due("crossings() of one by two", x.crossings(), 1);
        x.crossAlone(0);
        Checks.due("crossings() with one back", x.crossings(), 2);
        x.runPlan(0);
        Checks.due("crossings() with two by a plan", x.crossings(), 4);
        Checks.nameOfThrown(() -> x.crossAlone(1));
        x.canCrossAlone(0);
        x.minutesOfPlan(0);
        Checks.due("crossings() behind what was refused, and what would be", x.crossings(), 4);
        x.layPlank(1, 1);
        x.layPlank(2, 1);
        x.crossAlone(0);
        Checks.due("crossings() behind a fall", x.crossings(), 4);
    }

    private static void falls() {
        promise("31: falls", "int falls()");
        Sentences.says("Returns how often walkers fell in all.");
        PlankBridge x = Checks.taught(Books.people(9, 1, 9, 2) + "planks 30,1,1,30;plan p (send fastest;)");
        Checks.due("falls() at first", x.falls(), 0);
        x.canCrossAlone(0);
        x.canCrossTogether(0, 1);
        x.actsOfPlan(0);
        Checks.due("falls() behind what would be", x.falls(), 0);
        x.crossAlone(0);
        Checks.due("falls() of one", x.falls(), 1);
        Checks.nameOfThrown(() -> x.crossAlone(0));
        Checks.due("falls() behind what cannot be made", x.falls(), 1);
        x.layPlank(1, 1);
        x.crossTogether(0, 1);
        Checks.due("falls() of two at once", x.falls(), 2);
        x.layPlank(2, 1);
        Checks.due("runPlan(0)", x.runPlan(0), 1);
        Checks.due("falls() of one by a plan", x.falls(), 3);
        x.layPlank(1, 30);
        x.crossTogether(0, 1);
        Checks.due("falls() behind a crossing", x.falls(), 3);
    }

    private static PlankBridge noted(int notes) {
        PlankBridge x = Checks.taught(Books.FOUR + "plan p (note missing; while 1=1 (mend 1;)) plan q (note 1;)"
                + "plan r (note 2; note 3; note 4; note 5; note 6; note 7; note 8; note 9; note 10; note 11;)");
        for (int i = notes; i > 0; i -= i >= 10 ? 10 : 1) {
            x.runPlan(i >= 10 ? 2 : 1);
        }
        return x;
    }

    private static void notes() {
        promise("32: notes", "int notes()");
        Sentences.says("Returns how many notes were made in all.");
        for (int notes : new int[] {0, 1, 9, 10, 11, 12, 20, 21, 105}) {
            PlankBridge x = noted(notes);
            x.actsOfPlan(2);
            x.bestPlan();
            Checks.due("notes() of " + notes, x.notes(), notes);
        }
        PlankBridge cut = noted(0);
        cut.runPlan(0);
        Checks.due("notes() of a run that ends at an act", cut.notes(), 1);
    }

    private static void noteOf() {
        promise("33: noteOf", "int noteOf(int back) throws IndexOutOfBoundsException");
        Sentences.says("- `back`: which note: 0 the latest one, 1 that ahead of it, and so on, at most 9",
                "Returns what was noted.");
        PlankBridge x = noted(12);
        // Ten notes from 2 to 11, then the note 1 twice.
        int[] due = {1, 1, 11, 10, 9, 8, 7, 6, 5, 4};
        for (int back = 0; back < 10; back++) {
            Checks.due("noteOf(" + back + ") of 12", x.noteOf(back), due[back]);
        }
        PlankBridge y = noted(10);
        for (int back = 0; back < 10; back++) {
            Checks.due("noteOf(" + back + ") of 10", y.noteOf(back), 11 - back);
        }
        PlankBridge z = Checks.taught("planks 30,30,30,30;plan p (note 0; note 99;)");
        z.runPlan(0);
        z.actsOfPlan(0);
        Checks.due("noteOf(0) and (1)", z.noteOf(0) * 10 + z.noteOf(1), 990);
        Sentences.says("Throws `IndexOutOfBoundsException` if back is not 0 to 9, or not less than all notes");
        for (int notes : new int[] {0, 1, 2, 9, 10, 11, 12, 25}) {
            int kept = Math.min(notes, 10);
            for (int back : new int[] {-1, kept, kept + 1, 10, 11, Integer.MAX_VALUE, Integer.MIN_VALUE}) {
                Checks.refused("noteOf(" + back + ") of " + notes, NO_SUCH, () -> noted(notes),
                        v -> v.noteOf(back));
            }
            if (kept > 0) {
                Checks.due("noteOf(" + (kept - 1) + ") of " + notes,
                        Checks.nameOfThrown(() -> noted(notes).noteOf(kept - 1)), "nothing");
            }
        }
        Checks.refused("noteOf(0) behind another book", NO_SUCH, () -> {
            PlankBridge v = noted(12);
            Checks.teach(v, Books.FOUR);
            return v;
        }, v -> v.noteOf(0));
    }
}
