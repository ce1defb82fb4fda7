/** The heading "3. Plans", sentence by sentence. */
final class PlanSentences {

    private static final String THREE = Books.people(3, 1, 4, 2, 6, 5);

    private PlanSentences() {
    }

    static void check() {
        Sentences.under("3. Plans");
        order();
        endOfTheRun();
        counting();
        send();
        choices();
        cannotBeSent();
        rest();
        noteAndMend();
        doActs();
        whiles();
        ifs();
        compares();
        measures();
        refusals();
        Sentences.alsoSays(
                "Ahead of the calls `feed`, `trim`, `teach`, `errorAt`, `walkers`, `planks`, `plans` the"
                        + " interface says: ---- the book.",
                "Ahead of the calls `weightOf`, `minutesOf`, `isNear`, `walkersNear` the interface says:"
                        + " ---- walkers.",
                "Ahead of the calls `strengthOf`, `bears`, `isRotten`, `missingPlanks`, `weakestPlank`,"
                        + " `isPassable`, `heaviestLoad` the interface says: ---- planks.",
                "Ahead of the calls `isLampNear`, `oilLeft`, `night`, `minute`, `isWeakNight` the"
                        + " interface says: ---- the lamp and the night.",
                "Ahead of the calls `crossAlone`, `crossTogether`, `rest`, `layPlank`, `runPlan` the"
                        + " interface says: ---- by hand.",
                "Ahead of the calls `crossings`, `falls`, `notes`, `noteOf` the interface says: ---- what"
                        + " is counted.",
                "Ahead of the calls `canCrossAlone`, `canCrossTogether`, `fewestMinutes`, `firstToCross`,"
                        + " `secondToCross`, `actsOfPlan`, `farBehindPlan`, `minutesOfPlan`, `bestPlan`,"
                        + " `meanStrength`, `digest` the interface says: ---- what would be.");
    }

    private static PlankBridge with(String plans) {
        return Checks.taught(THREE + Books.STRONG + plans);
    }

    /** The last plan of a new bridge with three walkers: how many acts it does, and what it notes. */
    private static void run(String plans, int acts, String notes) {
        PlankBridge x = with(plans);
        int last = x.plans() - 1;
        Checks.due("actsOfPlan() of " + plans, x.actsOfPlan(last), acts);
        Checks.due("runPlan() of " + plans, x.runPlan(last), acts);
        Checks.due("the notes of " + plans, Checks.notes(x), notes);
    }

    private static void order() {
        Sentences.says("A plan is run: the acts of its block are done, one behind the other.");
        run("plan p (note 1; note 2; rest 5; note minute; send a; note far; note minute;)", 7, "1 2 5 1 6");
        run("plan o (note 8;) plan p (note 9;)", 1, "9");
        run("plan p ()", 0, "");
    }

    private static void endOfTheRun() {
        Sentences.says("The run ends behind the last one;");
        run("plan p (note 1;) plan q (note 2;)", 1, "2");
        PlankBridge first = with("plan p (note 1;) plan q (note 2;)");
        Checks.due("runPlan(0)", first.runPlan(0), 1);
        Checks.due("its notes", Checks.notes(first), "1");
        run("plan p (" + "note 1;".repeat(60) + ")", 60, "1 1 1 1 1 1 1 1 1 1");
        Sentences.says("at an act that cannot be done;");
        run("plan p (note 1; mend 5; note 2;)", 1, "1");
        run("plan p (note 1; send a; send b; note 2;)", 2, "1");
        run("plan p (mend 5; note 2;)", 0, "");
        run("plan p (if 1=1 (while 1=1 (note 1; mend 5; note 2;) note 3;) note 4;)", 3, "1");
        run("plan o (note 1; mend 5;) plan p (note 2; do o; note 3;)", 3, "2 1");
        // Nothing of such a run is left for the next one.
        PlankBridge next = with("plan o (note 1; mend 5;) plan p (note 2; do o; note 3;) plan q (note 4;)");
        Checks.due("runPlan(1)", next.runPlan(1), 3);
        Checks.due("runPlan(2)", next.runPlan(2), 1);
        Checks.due("the notes", Checks.notes(next), "2 1 4");
        Sentences.says("or as 100 acts were done.");
        // A look and a note by turns, so that the 100th act is a note; then a look.
        run("plan p (while 1=1 (note oil;))", 100, "60 60 60 60 60 60 60 60 60 60");
        PlankBridge x = with("plan p (while 1=1 (note 5;))");
        x.runPlan(0);
        Checks.due("notes() of 100 acts", x.notes(), 50);
        PlankBridge y = with("plan p (note 1; while 1=1 (note 5;))");
        Checks.due("runPlan(0) with a look at last", y.runPlan(0), 100);
        Checks.due("notes() of 100 acts, one ahead", y.notes(), 50);
        // Each do of o, with its acts, is ten of them.
        String ten = "plan o (note 1;note 2;note 3;note 4;note 5;note 6;note 7;note 8;note 9;)";
        run(ten + "plan p (" + "do o;".repeat(10) + ")", 100, "9 1 2 3 4 5 6 7 8 9");
        run(ten + "plan p (" + "do o;".repeat(10) + "note 20;)", 100, "9 1 2 3 4 5 6 7 8 9");
        run(ten + "plan p (" + "do o;".repeat(9) + "note 20;)", 91, "1 2 3 4 5 6 7 8 9 20");
        run(ten + "plan p (note 20;" + "do o;".repeat(20) + ")", 100, "8 9 1 2 3 4 5 6 7 8");
        run("plan p (while 1=1 ())", 100, "");
    }

    private static void counting() {
        Sentences.says("Each act counts as it is done, do, while and if as they begin, while each time that"
                + " its compares are looked at.");
        run("plan o () plan p (do o;)", 1, "");
        run("plan o (note 1;) plan p (do o; do o;)", 4, "1 1");
        run("plan p (while 1=2 ())", 1, "");
        run("plan p (while far<1 (send a;))", 3, "");
        run("plan p (while minute<3 (rest 1;))", 7, "");
        run("plan p (if 1=1 () if 1=2 () if 1=2 () else ())", 3, "");
        run("plan p (if 1=1 (note 1;) else (note 2; note 3;))", 2, "1");
        run("plan p (send a; rest 1; note 1;)", 3, "1");
        // What cannot be done does not count, but the acts around it do.
        run("plan o (mend 1;) plan p (do o;)", 1, "");
        run("plan p (if 1=1 (while 1=1 (mend 1;)))", 2, "");
    }

    private static void send() {
        Sentences.says("send: a crossing, by hand as it were; it is done also if they fall.");
        PlankBridge x = with("plan p (send b; send b with c;) plan q (send b with c;)");
        Checks.due("runPlan(0), where the second one cannot be made", x.runPlan(0), 1);
        Checks.due("behind it", Checks.state(x), "nfn f 58 0:2 30,30,30,30");
        x.crossAlone(1);
        Checks.due("runPlan(1)", x.runPlan(1), 1);
        Checks.due("behind it", Checks.state(x), "nff f 51 0:9 30,30,30,30");
        Checks.due("crossings()", x.crossings(), 3);
        PlankBridge fall = Checks.taught(Books.people(9, 4) + "planks 19,1,1,9;"
                + "plan p (send a; note minute; note far; note missing; send a; note 9;)");
        Checks.due("runPlan(0) with a fall", fall.runPlan(0), 4);
        Checks.due("behind it", Checks.state(fall), "n n 56 0:4 19,0,0,9");
        Checks.due("its notes", Checks.notes(fall), "4 0 2");
        Checks.due("falls() and crossings()", fall.falls() * 10 + fall.crossings(), 10);
    }

    private static void choices() {
        Sentences.says("fastest, slowest: of the walkers on the side of the lamp (behind with: of the others"
                + " there) the one who takes the fewest, or the most minutes; lightest, heaviest likewise by"
                + " weights;");
        // From the fastest to the slowest c, d, a, b; from the lightest to the heaviest d, b, c, a.
        String four = Books.people(9, 5, 4, 9, 5, 2, 2, 4) + Books.STRONG;
        chosen(four, "fastest", "nnfn", "nnff", "nnnf");
        chosen(four, "slowest", "nfnn", "ffnn", "fnnn");
        chosen(four, "lightest", "nnnf", "nfnf", "nfnn");
        chosen(four, "heaviest", "fnnn", "fnfn", "nnfn");
        // Of those on the side of the lamp: the one who is the least so of all is alone there.
        String[] words = {"fastest", "slowest", "lightest", "heaviest"};
        for (int i = 0; i < 4; i++) {
            PlankBridge z = Checks.taught(four + "plan p (send " + words[i] + ";)");
            z.crossAlone(new int[] {1, 2, 0, 3}[i]);
            Checks.due("runPlan(0), the " + words[i] + " of one", z.runPlan(0), 1);
            Checks.due("behind it", Checks.state(z).substring(0, 6), "nnnn n");
        }
        // Behind with, of the others: the one sent first is left out.
        PlankBridge x = Checks.taught(four + "plan p (send c with fastest;) plan q (send c with slowest;)"
                + "plan r (send fastest with c;) plan s (send slowest with c;)");
        Checks.due("runPlan(2), of which both are c", x.runPlan(2), 0);
        x.runPlan(0);
        Checks.due("behind c with the fastest other one", Checks.state(x).substring(0, 4), "nnff");
        PlankBridge y = Checks.taught(four + "plan p (send c with slowest;) plan q (send slowest with c;)");
        y.runPlan(0);
        Checks.due("behind c with the slowest one", Checks.state(y).substring(0, 4), "nffn");
        y.runPlan(1);
        Checks.due("behind the slowest one there with c", Checks.state(y).substring(0, 4), "nnnn");
        Sentences.says("of several the one with the smallest number.");
        String equal = Books.people(3, 3, 3, 3, 3, 3) + Books.STRONG;
        for (String word : "fastest slowest lightest heaviest".split(" ")) {
            chosen(equal, word, "fnn", "ffn", "nfn");
        }
        chosen(Books.people(9, 9, 2, 2, 2, 2, 9, 9) + Books.STRONG, "fastest", "nfnn", "nffn", "nnfn");
        chosen(Books.people(2, 2, 9, 9, 9, 9, 2, 2) + Books.STRONG, "heaviest", "nfnn", "nffn", "nnfn");
    }

    /** Who is near behind the one of this sort; or behind two of them; and then, behind one back. */
    private static void chosen(String book, String word, String one, String two, String back) {
        String plans = "plan p (send " + word + ";) plan q (send " + word + " with " + word + ";)";
        PlankBridge x = Checks.taught(book + plans);
        x.runPlan(0);
        Checks.due("behind the " + word, Checks.state(x).substring(0, one.length()), one);
        PlankBridge y = Checks.taught(book + plans);
        y.runPlan(1);
        Checks.due("behind two of the " + word, Checks.state(y).substring(0, one.length()), two);
        y.runPlan(0);
        Checks.due("behind the " + word + " of these back", Checks.state(y).substring(0, one.length()),
                back);
    }

    private static void cannotBeSent() {
        Sentences.says("It cannot be done, if there is nobody,");
        PlankBridge none = Checks.taught(Books.STRONG + "plan p (note 1; send fastest;)"
                + "plan q (send slowest with slowest;)");
        Checks.due("runPlan(0) without walkers", none.runPlan(0), 1);
        Checks.due("runPlan(1) without walkers", none.runPlan(1), 0);
        PlankBridge one = Checks.taught(Books.people(1, 1) + Books.STRONG
                + "plan p (send fastest with fastest;) plan q (send a with slowest;)"
                + "plan r (send a; send a with lightest;)");
        Checks.due("runPlan(0), with no other one", one.runPlan(0), 0);
        Checks.due("runPlan(1), with no other one", one.runPlan(1), 0);
        Checks.due("runPlan(2), with no other one far", one.runPlan(2), 1);
        Sentences.says("both are the same,");
        run("plan p (note 1; send a with a; note 2;)", 1, "1");
        run("plan p (note 1; send fastest with a; note 2;)", 1, "1");
        run("plan p (note 1; send heaviest with c; note 2;)", 1, "1");
        run("plan p (note 1; send lightest with b; note 2;)", 3, "1 2");
        Sentences.says("or the crossing cannot be made.");
        run("plan p (send a; note 1; send b; note 2;)", 2, "1");
        run("plan p (send a; note 1; send a with b; note 2;)", 2, "1");
        run("plan p (send a; note 1; send b with a; note 2;)", 2, "1");
        run("plan p (send a; note 1; send b with fastest; note 2;)", 2, "1");
        run("plan p (rest 99; rest 16; note minute; send c; rest 99; rest 17; note minute; send c; note 9;)",
                7, "115 116");
        PlankBridge oil = Checks.taught(Books.people(1, 20, 1, 1) + Books.STRONG
                + "plan p (send a; send a; send a; note oil; send a; note 9;)");
        Checks.due("runPlan(0) with oil for three", oil.runPlan(0), 4);
        PlankBridge broken = Books.bridge(Books.people(1, 1), "plan p (send a;)", 9, 0, 0, 9);
        Checks.due("runPlan(0) over two missing planks", broken.runPlan(0), 0);
        Checks.due("behind it", Checks.state(broken), "n n 60 12:0 9,0,0,9");
    }

    private static void rest() {
        Sentences.says("rest: so many minutes go by, none for 0 or less, and 120 for more.");
        run("plan p (rest 0; rest minute; rest far; rest night; note minute;)", 5, "0");
        run("plan p (rest 1; note minute; rest minute; note minute; rest 99; note minute;)", 6, "1 2 101");
        run("plan p (rest 99; rest 21; note night; note minute; rest 99; rest minute; note night;"
                + "note minute;)", 8, "1 0 2 78");
        for (int night : new int[] {99, 119, 120, 121, 240}) {
            PlankBridge x = with("plan p (rest night;)");
            for (int left = night; left > 0; left -= 5) {
                x.rest(left < 5 ? left * 120 : 600);
            }
            x.rest(60);
            Checks.due("runPlan(0) in the night " + night, x.runPlan(0), 1);
            Checks.due("how many minutes went by", (x.night() - night) * 120 + x.minute() - 60,
                    Math.min(night, 120));
        }
    }

    private static void noteAndMend() {
        Sentences.says("note: the value is noted.");
        run("plan p (note 0; note 99; note 007; note near; note oil; note weakest;)", 6, "0 99 7 3 60 30");
        Sentences.says("mend: the missing plank with the smallest number gets this strength, and is not"
                + " rotten;");
        String plans = "plan p (mend 30;) plan q (mend 1;) plan r (mend 31;) plan s (mend 0;)"
                + "plan t (mend night;) plan u (while missing>0 (mend missing;))";
        PlankBridge x = Books.bridge("", plans, 7, 0, 8, 0, 0, 9);
        Checks.due("runPlan(0)", x.runPlan(0), 1);
        Checks.due("behind it", Checks.strengths(x), "7,30,8,0,0,9");
        Checks.due("runPlan(1)", x.runPlan(1), 1);
        Checks.due("behind it", Checks.strengths(x), "7,30,8,1,0,9");
        Checks.due("runPlan(5)", x.runPlan(5), 3);
        Checks.due("behind it", Checks.strengths(x), "7,30,8,1,1,9");
        PlankBridge first = Books.bridge("", plans, 0, 7, 0, 8);
        Checks.due("runPlan(0)", first.runPlan(0), 1);
        Checks.due("behind it", Checks.strengths(first), "30,7,0,8");
        PlankBridge last = Books.bridge("", plans, 9, 7, 9, 0);
        Checks.due("runPlan(0)", last.runPlan(0), 1);
        Checks.due("behind it", Checks.strengths(last), "9,7,9,30");
        PlankBridge rotten = Checks.taught("planks 9,1,9,9; plan p (mend 5;)");
        rotten.rest(360);
        Checks.due("a rotten one is missing", Checks.strengths(rotten), "9,0,9,9");
        rotten.runPlan(0);
        Checks.due("it is mended", Checks.strengths(rotten), "9,5,9,9");
        rotten.rest(120);
        Checks.due("and not rotten", Checks.strengths(rotten), "9,5,9,9");
        Sentences.says("it cannot be done, if none is missing, or the value is not 1 to 30.");
        PlankBridge whole = Books.bridge("", plans, 7, 8, 9, 30);
        for (int plan = 0; plan < 5; plan++) {
            Checks.due("runPlan(" + plan + ") of " + plans + " with no plank missing", whole.runPlan(plan), 0);
        }
        Checks.due("behind it", Checks.strengths(whole), "7,8,9,30");
        PlankBridge missing = Books.bridge("", plans, 7, 0, 9, 30, 30, 30, 30, 30, 30, 30);
        Checks.due("mend 31", missing.runPlan(2), 0);
        Checks.due("mend 0", missing.runPlan(3), 0);
        Checks.due("behind it", missing.strengthOf(1), 0);
        Checks.due("mend 30 in the night 30", missing.runPlan(4), 1);
        Checks.due("behind it", missing.strengthOf(1), 30);
        PlankBridge later = Books.bridge("", plans, 7, 0, 9, 30, 30, 30, 30, 30, 30, 30);
        later.rest(120);
        Checks.due("mend 31 in the night 31", later.runPlan(4), 0);
        Checks.due("behind it", later.strengthOf(1), 0);
    }

    private static void doActs() {
        Sentences.says("do: the acts of the block of that plan are done, then those behind it.");
        run("plan o (note 1; note 2;) plan p (note 3; do o; note 4; do o;)", 8, "3 1 2 4 1 2");
        run("plan n (note 7;) plan o (do n; note 1;) plan p (do o; do n; note 4;)", 7, "7 1 7 4");
        run("plan o () plan p (do o; note 1;)", 2, "1");
        run("plan l (note 1;) plan m (do l;) plan n (do m; note 2;) plan o (do n;) plan p (do o; note 3;)"
                + "plan q (do p; note 4; do l;)", 11, "1 2 3 4 1");
        run("plan o (note minute;) plan p (while minute<2 (do o; rest 1; if minute=1 (do o;)) do o;)",
                7 + 5 + 3, "0 1 1 2");
    }

    private static void whiles() {
        Sentences.says("while: if its compares are so, the acts of its block are done, then it is done"
                + " again; otherwise those behind it.");
        run("plan p (while minute<3 (rest 1; note minute;) note 9;)", 4 + 6 + 1, "1 2 3 9");
        run("plan p (while minute>3 (rest 1;) note 9;)", 2, "9");
        run("plan p (while minute<2 (while oil<9 () rest 1;) note 9;)", 3 + 2 * 2 + 1, "9");
        run("plan p (while minute<4 (rest 1; while minute=2 (note 2; rest 1;)))", 13, "2");
        run("plan p (while minute<2 (if minute=1 (rest 1;) else (rest 1; note 1;)) note 9;)", 9, "1 9");
        run("plan p (while near>0 (send fastest with slowest; if near>0 (send fastest;)))", 8, "");
    }

    private static void ifs() {
        Sentences.says("if: if they are so, the acts of the first block are done, otherwise those of the block"
                + " behind else, if there is one; then those behind it.");
        run("plan p (if 1=1 (note 1;) else (note 2;) note 3;)", 3, "1 3");
        run("plan p (if 1=2 (note 1;) else (note 2;) note 3;)", 3, "2 3");
        run("plan p (if 1=1 (note 1;) note 3;)", 3, "1 3");
        run("plan p (if 1=2 (note 1;) note 3;)", 2, "3");
        run("plan p (if 1=1 () else (note 2;) note 3;)", 2, "3");
        run("plan p (if 1=2 (note 1;) else () note 3;)", 2, "3");
        run("plan p (if 1=2 (note 1;) else (if 1=2 (note 2;) else (note 3;)) note 4;)", 4, "3 4");
        run("plan p (if 1=1 (if 1=2 (note 1;) else (note 2;)) else (note 3;) note 4;)", 4, "2 4");
        run("plan p (if 1=1 (if 1=2 (note 1;)) else (note 3;))", 2, "");
    }

    private static void compares() {
        Sentences.says("All compares have to be so.");
        run("plan p (if 1=1 and 2=2 and 3=3 (note 1;) else (note 2;))", 2, "1");
        run("plan p (if 1=2 and 2=2 and 3=3 (note 1;) else (note 2;))", 2, "2");
        run("plan p (if 1=1 and 2=3 and 3=3 (note 1;) else (note 2;))", 2, "2");
        run("plan p (if 1=1 and 2=2 and 3=4 (note 1;) else (note 2;))", 2, "2");
        run("plan p (while near=3 and minute<2 (rest 1;) note minute;)", 6, "2");
        run("plan p (if 1<2 (note 1;) if 2<2 (note 2;) if 3<2 (note 3;))", 4, "1");
        run("plan p (if 1>2 (note 1;) if 2>2 (note 2;) if 3>2 (note 3;))", 4, "3");
        run("plan p (if 1=2 (note 1;) if 2=2 (note 2;) if 3=2 (note 3;))", 4, "2");
        run("plan p (if near>far and 4>near and far<1 (note far;))", 2, "0");
    }

    private static void measures() {
        Sentences.says("Measures: near and far, how many walkers stand there; oil, the minutes for which the"
                + " lamp has oil; minute; night; missing, how many planks are missing; weakest, the strength"
                + " of the weakest plank that is not missing, 0 if all are.");
        String plan = "plan p (note near;note far;note oil;note minute;note night;note missing;note weakest;)";
        PlankBridge x = Checks.taught(Books.people(4, 7, 1, 1, 1, 1) + "planks 20,3,9,2,8;" + plan);
        x.runPlan(0);
        Checks.due("the notes", Checks.notes(x), "3 0 60 0 0 0 2");
        x.crossAlone(0);
        x.rest(10);
        x.runPlan(0);
        Checks.due("the notes behind a crossing", Checks.notes(x).substring(6), "2 1 53 17 0 2 8");
        x.rest(342);
        x.runPlan(0);
        Checks.due("the notes on a weak night", Checks.notes(x).substring(6), "2 1 60 119 2 2 8");
        x.rest(1);
        x.runPlan(0);
        Checks.due("the notes a night later", Checks.notes(x).substring(6), "2 1 60 0 3 2 7");
        PlankBridge none = Books.bridge("", plan, 0, 0, 0, 0);
        none.runPlan(0);
        Checks.due("the notes without walkers and planks", Checks.notes(none), "0 0 60 0 12 4 0");
        PlankBridge far = Checks.taught(Books.people(1, 20) + Books.STRONG + "plan p (send a; send a; send a;"
                + "note near; note far; note oil; note minute;)");
        far.runPlan(0);
        Checks.due("the notes with all far, and no oil", Checks.notes(far), "0 1 0 60");
    }

    private static void refusals() {
        Sentences.says("A method that throws an exception changes nothing.");
        Class<?> noSuch = IndexOutOfBoundsException.class;
        Class<?> illegal = IllegalArgumentException.class;
        Class<?> notNow = IllegalStateException.class;
        Checks.refused("trim(21)", illegal, Books::worn, x -> x.trim(21));
        Checks.refused("trim(-1)", illegal, Books::worn, x -> x.trim(-1));
        Checks.refused("weightOf(3)", noSuch, Books::worn, x -> x.weightOf(3));
        Checks.refused("minutesOf(3)", noSuch, Books::worn, x -> x.minutesOf(3));
        Checks.refused("isNear(3)", noSuch, Books::worn, x -> x.isNear(3));
        Checks.refused("strengthOf(6)", noSuch, Books::worn, x -> x.strengthOf(6));
        Checks.refused("bears(6)", noSuch, Books::worn, x -> x.bears(6));
        Checks.refused("isRotten(6)", noSuch, Books::worn, x -> x.isRotten(6));
        Checks.refused("crossAlone(3)", noSuch, Books::worn, x -> x.crossAlone(3));
        Checks.refused("crossAlone(1), far", notNow, Books::worn, x -> x.crossAlone(1));
        Checks.refused("crossTogether(0, 3)", noSuch, Books::worn, x -> x.crossTogether(0, 3));
        Checks.refused("crossTogether(0, 0)", illegal, Books::worn, x -> x.crossTogether(0, 0));
        Checks.refused("crossTogether(0, 1), apart", notNow, Books::worn, x -> x.crossTogether(0, 1));
        Checks.refused("rest(0)", illegal, Books::worn, x -> x.rest(0));
        Checks.refused("rest(601)", illegal, Books::worn, x -> x.rest(601));
        Checks.refused("layPlank(6, 5)", noSuch, Books::worn, x -> x.layPlank(6, 5));
        Checks.refused("layPlank(1, 31)", illegal, Books::worn, x -> x.layPlank(1, 31));
        Checks.refused("runPlan(2)", noSuch, Books::worn, x -> x.runPlan(2));
        Checks.refused("noteOf(10)", noSuch, Books::worn, x -> x.noteOf(10));
        Checks.refused("canCrossAlone(3)", noSuch, Books::worn, x -> x.canCrossAlone(3));
        Checks.refused("canCrossTogether(3, 0)", noSuch, Books::worn, x -> x.canCrossTogether(3, 0));
        Checks.refused("canCrossTogether(2, 2)", illegal, Books::worn, x -> x.canCrossTogether(2, 2));
        Checks.refused("actsOfPlan(2)", noSuch, Books::worn, x -> x.actsOfPlan(2));
        Checks.refused("farBehindPlan(2)", noSuch, Books::worn, x -> x.farBehindPlan(2));
        Checks.refused("minutesOfPlan(2)", noSuch, Books::worn, x -> x.minutesOfPlan(2));
        Sentences.says("If several exceptions apply, the one that is named first is thrown.");
        Checks.refused("crossTogether(3, 3)", noSuch, Books::worn, x -> x.crossTogether(3, 3));
        Checks.refused("crossTogether(-1, -1)", noSuch, Books::worn, x -> x.crossTogether(-1, -1));
        Checks.refused("crossTogether(1, 3), of whom one is far", noSuch, Books::worn,
                x -> x.crossTogether(1, 3));
        Checks.refused("crossTogether(3, 1), of whom one is far", noSuch, Books::worn,
                x -> x.crossTogether(3, 1));
        Checks.refused("crossTogether(1, 1), who is far", illegal, Books::worn, x -> x.crossTogether(1, 1));
        Checks.refused("crossAlone(3) over two missing planks", noSuch, PlanSentences::broken,
                x -> x.crossAlone(3));
        Checks.refused("crossTogether(0, 3) over two missing planks", noSuch, PlanSentences::broken,
                x -> x.crossTogether(0, 3));
        Checks.refused("crossTogether(0, 0) over two missing planks", illegal, PlanSentences::broken,
                x -> x.crossTogether(0, 0));
        Checks.refused("crossTogether(0, 1) over two missing planks", notNow, PlanSentences::broken,
                x -> x.crossTogether(0, 1));
        Checks.refused("layPlank(6, 0)", noSuch, Books::worn, x -> x.layPlank(6, 0));
        Checks.refused("layPlank(-1, 31)", noSuch, Books::worn, x -> x.layPlank(-1, 31));
        Checks.refused("canCrossTogether(3, 3)", noSuch, Books::worn, x -> x.canCrossTogether(3, 3));
        Checks.refused("canCrossTogether(-1, -1)", noSuch, Books::worn, x -> x.canCrossTogether(-1, -1));
    }

    private static PlankBridge broken() {
        return Books.bridge(THREE, "", 9, 0, 0, 9);
    }
}
