/** Promises 2 to 8: the tape, the book that it tells, and its errors. */
public final class BookTest {

    private static final String FOUR = Books.FOUR;
    private static final String ONE = Books.ONE;
    private static final int BLANKS = 0x20202020;

    public static void main(String[] args) {
        feed();
        trim();
        teach();
        errorAt();
        whatIsThere();
        tokens();
        firstErrors();
        blocksInBlocks();
        manyTokens();
        namesTwice();
        namesUnknown();
        tooMany();
        numbersOutside();
        whichErrorFirst();
        Checks.end();
    }

    // ---- promises 2 to 5

    private static void feed() {
        Checks.promise(2, "feed");
        PlankBridge x = new PlankBridge();
        // "planks 1,2,3,4;" and blanks: the highest byte of each number is the first one.
        Checks.due("feed", x.feed(0x706c616e, 0x6b732031, 0x2c322c33, 0x2c343b20, 0x20202020), 20);
        Checks.due("teach()", x.teach(), 0);
        Checks.due("the planks", Checks.strengths(x), "1,2,3,4");
        for (int bytes = 20; bytes <= 1600; bytes += 20) {
            Checks.due("feed", x.feed(BLANKS, BLANKS, BLANKS, BLANKS, BLANKS), bytes);
        }
        Checks.thrown("feed at 1600", IllegalStateException.class, x, () -> x.feed(1, 2, 3, 4, 5));
        Checks.due("trim(1600) behind it", x.trim(1600), 1600);
        x.trim(1581);
        Checks.thrown("feed at 1581", IllegalStateException.class, x, () -> x.feed(1, 2, 3, 4, 5));
        Checks.due("trim(1581) behind it", x.trim(1581), 1581);
        x.trim(1580);
        Checks.due("feed at 1580",
                x.feed(BLANKS, BLANKS, 0x706c616e, 0x6b732031, 0x2c322c33), 1600);
        Checks.due("teach() of 1600 bytes without an end", x.teach(), 1);
        Checks.due("errorAt() of 1600 bytes without an end", x.errorAt(), 1600);
        x.feed(0x20202020, 0x20ff2020, 0, 0, 0);
        Checks.due("teach() of the byte 255", x.teach(), 1);
        Checks.due("errorAt() of the byte 255", x.errorAt(), 5);
        x.feed(-1, -1, -1, -1, -1);
        Checks.due("teach() of -1", x.teach(), 1);
        Checks.due("errorAt() of -1", x.errorAt(), 0);
    }

    private static void trim() {
        Checks.promise(3, "trim");
        PlankBridge x = new PlankBridge();
        Checks.due("trim(0)", x.trim(0), 0);
        Checks.thrown("trim(1) of none", IllegalArgumentException.class, x, () -> x.trim(1));
        Checks.feed(x, "planks 1,2,3,4;#####".getBytes());
        Checks.thrown("trim(21)", IllegalArgumentException.class, x, () -> x.trim(21));
        Checks.thrown("trim(-1)", IllegalArgumentException.class, x, () -> x.trim(-1));
        Checks.due("trim(20)", x.trim(20), 20);
        Checks.due("trim(15)", x.trim(15), 15);
        Checks.thrown("trim(16)", IllegalArgumentException.class, x, () -> x.trim(16));
        Checks.due("feed behind", x.feed(BLANKS, BLANKS, BLANKS, BLANKS, BLANKS), 35);
        Checks.due("teach()", x.teach(), 0);
        Checks.due("the planks", Checks.strengths(x), "1,2,3,4");
    }

    private static void teach() {
        Checks.promise(4, "teach");
        String before = "walker a weighs 9 takes 5;planks 30,5,5,30;plan p (note 7;)";
        PlankBridge x = Checks.taught(before);
        x.rest(240);
        x.layPlank(1, 20);
        x.layPlank(2, 20);
        x.crossAlone(0);
        x.layPlank(1, 1);
        x.layPlank(2, 1);
        x.crossAlone(0);
        x.runPlan(0);
        long digest = x.digest();
        Checks.due("teach() of an empty tape", x.teach(), 1);
        Checks.due("digest() behind an error", x.digest(), digest);
        Checks.due("teach() with an error 5", Checks.teach(x, "planks 1,2,3;"), 5);
        Checks.due("digest() behind an error", x.digest(), digest);
        Checks.due("runPlan(0) behind an error", x.runPlan(0), 1);
        Checks.due("the tape behind an error", x.trim(0), 0);
        Checks.feed(x, "planks ,            ".getBytes());
        Checks.due("teach()", x.teach(), 1);
        Checks.due("feed behind an error", Checks.feed(x, "planks 1,2,3,4;     ".getBytes()), 20);
        x.trim(0);
        Checks.due("teach() anew", Checks.teach(x, before), 0);
        Checks.due("feed behind it", Checks.feed(x, "planks 1,2,3,4;     ".getBytes()), 20);
        Checks.due("digest() anew", x.digest(), Checks.taught(before).digest());
        Checks.due("the night and the minute", x.night() * 120 + x.minute(), 0);
        Checks.due("what is counted", x.crossings() + x.falls() + x.notes(), 0);
        Checks.due("isLampNear() and isNear(0)", x.isLampNear() && x.isNear(0), true);
        Checks.due("oilLeft()", x.oilLeft(), 60);
        Checks.due("the planks", Checks.strengths(x), "30,5,5,30");
        x.rest(240);
        Checks.due("the planks in night 2", Checks.strengths(x), "30,5r,5,30");
        x.layPlank(0, 1);
        x.rest(360);
        Checks.due("the planks in night 5", Checks.strengths(x), "1r,2r,5,30");
        x.trim(0);
        Checks.due("teach() of another book", Checks.teach(x, FOUR), 0);
        Checks.due("walkers(), planks(), plans()", x.walkers() * 100 + x.planks() * 10 + x.plans(), 40);
        Checks.due("the planks", Checks.strengths(x), "1,2,3,4");
        Checks.due("fewestMinutes()", x.fewestMinutes(), 0);
        for (int i = 0; i < 5; i++) {
            Checks.due("teach() of 60 acts again",
                    Checks.teach(x, FOUR + "plan p (" + Books.acts(60) + ")"), 0);
            Checks.due("runPlan(0) of these", x.runPlan(0), 60);
        }
        Checks.due("teach() of a plan with else", Checks.teach(x, FOUR
                + "plan p (if 1=2 (rest 1;) else (rest 2;) rest 3;)"), 0);
        Checks.due("runPlan(0) of it", x.runPlan(0), 3);
        for (int i = 0; i < 2; i++) {
            Checks.due("teach() of plans with less", Checks.teach(x, FOUR
                    + "plan p (if 1=2 (rest 1;) rest 3;)"), 0);
            Checks.due("runPlan(0) of these", x.runPlan(0), 2);
        }
    }

    private static void errorAt() {
        Checks.promise(5, "errorAt");
        PlankBridge x = new PlankBridge();
        Checks.due("errorAt() of a new object", x.errorAt(), -1);
        Checks.teach(x, FOUR);
        Checks.due("errorAt() without an error", x.errorAt(), -1);
        Checks.teach(x, "planks 1,2,31,4;");
        Checks.due("errorAt() of error 5", x.errorAt(), 11);
        Checks.feedText(x, FOUR);
        x.trim(3);
        x.rest(1);
        Checks.due("errorAt() behind other calls", x.errorAt(), 11);
        Checks.due("teach() of pla", x.teach(), 1);
        Checks.due("errorAt() of a word that is none", x.errorAt(), 0);
        Checks.teach(x, FOUR);
        Checks.due("errorAt() behind a good one", x.errorAt(), -1);
        Checks.error("\n planks 1,2,3,4,\n,;", 1, 18);
    }

    // ---- promises 6 to 8

    private static void whatIsThere() {
        StringBuilder all = new StringBuilder();
        for (int i = 0; i < 8; i++) {
            all.append("walker w").append("abcdefgh".charAt(i)).append(" weighs ").append(i + 1)
                    .append(" takes ").append(20 - i).append(";");
        }
        all.append("planks 1,2,3,4,5,6,7,8,9,10,11,12;");
        for (int i = 0; i < 6; i++) {
            all.append("plan p").append("abcdef".charAt(i)).append("(note ").append(i).append(";)");
        }
        PlankBridge x = Checks.taught(all.toString());
        Checks.promise(6, "walkers");
        Checks.due("walkers()", x.walkers(), 8);
        Checks.due("weightOf(7)", x.weightOf(7), 8);
        Checks.due("walkers() of one", Checks.taught(ONE).walkers(), 1);
        Checks.due("walkers() of none", Checks.taught(FOUR).walkers(), 0);
        Checks.promise(7, "planks");
        Checks.due("planks()", x.planks(), 12);
        Checks.due("the planks", Checks.strengths(x), "1,2,3,4,5,6,7,8,9,10,11,12");
        x.rest(360);
        Checks.due("missingPlanks()", x.missingPlanks(), 1);
        Checks.due("planks() with a missing one", x.planks(), 12);
        Checks.due("planks() of four", Checks.taught(FOUR).planks(), 4);
        Checks.promise(8, "plans");
        Checks.due("plans()", x.plans(), 6);
        x.runPlan(5);
        Checks.due("noteOf(0) behind plan 5", x.noteOf(0), 5);
        Checks.due("plans() of none", Checks.taught(ONE).plans(), 0);
        Checks.due("plans() of two", Checks.taught(FOUR + "plan a()plan b()").plans(), 2);
    }

    // ---- promise 4, the errors

    private static void good(String text) {
        Checks.error(text, 0, -1);
    }

    private static void tokens() {
        Checks.promise(4, "teach, tokens");
        good("walker a weighs3takes4;planks1,2,3,4;plan p(rest 5;while 1=1and 2=2(send a with a;)"
                + "if near<far()else())");
        good("\n\n walker\na\n weighs 3 takes 4 ; planks 1 ,2\n, 3,4 ;\nplan p ( )  \n");
        good("walker abcdefgh weighs 1 takes 1;planks 001,02,3,030;");
        good("walker zaz weighs 1 takes 1;walker za weighs 1 takes 1;planks 9,09,009,19;");
        good("walker senx weighs 1 takes 1;walker sendx weighs 1 takes 1;" + FOUR);
        Checks.errorThere("walker |abcdefghi weighs 1 takes 1;" + FOUR, 1);
        Checks.errorThere("planks |0001,2,3,4;", 1);
        Checks.errorThere("planks |1234,2,3,4;", 1);
        Checks.errorThere("planks 1 |2,3,4,5;", 1);
        Checks.errorThere("|planksa 1,2,3,4;", 1);
        Checks.errorThere("|walkera weighs 1 takes 1;" + FOUR, 1);
        Checks.errorThere("|walkers weighs 1 takes 1;" + FOUR, 1);
        Checks.errorThere("planks 1,2,3,4|.", 1);
        Checks.errorThere("planks|\t1,2,3,4;", 1);
        Checks.errorThere("planks 1,2,3,4;|\r\n", 1);
        Checks.errorThere("planks 1,2,3,4;|\u0000", 1);
        Checks.errorThere("planks 1,2,3,4;|\u00e9", 1);
        Checks.errorThere("planks 1,2,3,4;|\u00a0", 1);
        Checks.errorThere("|Planks 1,2,3,4;", 1);
        Checks.errorThere("planks |-1,2,3,4;", 1);
        Checks.errorThere("walker |Ann weighs 1 takes 1;" + FOUR, 1);
        Checks.errorThere(FOUR + "plan p (while near|{far ())", 1);
        Checks.errorThere(FOUR + "plan p (while near|`far ())", 1);
        Checks.errorThere("planks 1,2,3,4|:", 1);
        Checks.errorThere("planks 1,2,3,|/4;", 1);
        for (String keyword : Books.KEYWORDS) {
            Checks.errorThere("walker |" + keyword + " weighs 1 takes 1;" + FOUR, 1);
            Checks.errorThere(FOUR + "plan |" + keyword + " ()", 1);
        }
    }

    private static void firstErrors() {
        Checks.promise(4, "teach, error 1");
        Checks.error("", 1, 0);
        Checks.error("  \n", 1, 3);
        Checks.error("planks 1,2,3,4", 1, 14);
        Checks.error("planks 1,2,3,4 \n ", 1, 17);
        Checks.error("walker a weighs 1 takes 1;", 1, 26);
        Checks.error(FOUR + "plan p (note 1; ", 1, 31);
        String[] there = {
            "|;", "|plan p ()", "|7", "walker a|;", "walker a |takes 1 weighs 1;", "walker |7 weighs",
            "walker a weighs |a", "walker a weighs 1|;", "walker a weighs 1 takes |;",
            "walker a weighs 1 takes 1 |planks", "planks |;", "planks 1|a", "planks 1,|;",
            "planks 1,2,3,4,|,5;", "planks 1,2,3,4,|", "planks 1,2,3,4,|plan p ()",
            "planks |", "planks |plan p ()", "walker a weighs 1 takes 1;|plan p ()",
            "planks 1,2,3,4;|;", "planks 1,2,3,4; |planks 1,2,3,4;",
            "planks 1,2,3,4;|walker a weighs 1 takes 1;", "planks 1,2,3,4;plan |(",
            "planks 1,2,3,4;plan p |note 1;", "planks 1,2,3,4;plan p ()|;",
            "planks 1,2,3,4;plan p ()|)", "planks 1,2,3,4;|a", "planks 1,2,3,4;plan p (|("};
        for (String text : there) {
            Checks.errorThere(text, 1);
        }
        String[] acts = {
            "|a", "|7;", "|;", "|with a;", "|else ()", "|and", "|near", "|fastest;", "|plan q ()",
            "|<", "send |;", "send |7;", "send |near;", "send a |b;", "send a with |;", "send a with |7;",
            "send a |and b;", "send a with a |with a;", "send a|)", "rest |;", "rest |a;",
            "rest |fastest;", "rest 1|)", "rest 1 |2;", "note |(", "note oil|,", "mend |a;",
            "mend 1 |note 1;", "do |;", "do |7;", "do |fastest;", "do p|)", "while |()",
            "while near |()", "while near>|()", "while near>|<1()", "while near>|a()",
            "while |a>1()", "while |fastest>1()", "while near>0|;", "while near>0 and |()",
            "while near>0 |note 1;", "while near>0 () |else ()", "if |()", "if near >0 () else |note 1;",
            "if 1=1 () else () |else ()", "if 1=1 |else ()", "if 1=1 and |and 1=1()",
            "if 1=1 () |and 2=2 ()"};
        for (String act : acts) {
            Checks.errorThere("walker a weighs 1 takes 1;" + FOUR + "plan p (" + act, 1);
        }
    }

    private static void blocksInBlocks() {
        Checks.promise(4, "teach, blocks in blocks");
        good(FOUR + "plan p (while 1=1 (if 1=1 ()))");
        good(FOUR + "plan p (if 1=1 (if 1=1 () else ()) else (if 1=1 () else ()))");
        Checks.errorThere(FOUR + "plan p (while 1=1 (while 1=1 (while 1=1 |())))", 1);
        Checks.errorThere(FOUR + "plan p (if 1=1 (if 1=1 (if 1=1 |())))", 1);
        Checks.errorThere(FOUR + "plan p (if 1=1 () else (if 1=1 () else (if 1=1 |())))", 1);
        Checks.errorThere(FOUR + "plan p (if 1=1 (if 1=1 () else (note 1; while 1=1 |())))", 1);
        // The block is the error, not the word ahead of it, and not what is missing behind it.
        Checks.errorThere(FOUR + "plan p (if 1=1 (if 1=1 (if 1=1 |;", 1);
    }

    private static void manyTokens() {
        Checks.promise(4, "teach, 400 tokens");
        String book = Books.fourHundred();
        good(book);
        good(book + "   ");
        Checks.error(book + " plan r ()", 1, book.length() + 1);
        Checks.error(book + " #", 1, book.length() + 1);
        String cut = book.substring(0, book.length() - 1);
        Checks.error(cut, 1, cut.length());
        Checks.error(cut + " note 1;)", 1, cut.length() + 6);
        // Two tokens more in the middle: the last but one is the 401st.
        Checks.errorThere(book.replace("planks 1,2", "planks 1,2,2").replace("q ()", "q |()"), 1);
        // Error 1 at the 401st token hides an error 5 ahead of it.
        Checks.error(book.replace("planks 1", "planks 0") + ")", 1, book.length());
        StringBuilder wide = new StringBuilder(FOUR);
        while (wide.length() < 1600) {
            wide.append('\n');
        }
        good(wide.toString());
        good(wide.substring(FOUR.length()) + FOUR);
    }

    private static void namesTwice() {
        Checks.promise(4, "teach, error 2");
        Checks.errorThere("walker a weighs 1 takes 1;walker |a weighs 1 takes 1;" + FOUR, 2);
        Checks.errorThere(ONE + "plan |a ()", 2);
        Checks.errorThere(FOUR + "plan p () plan q () plan |p ()", 2);
        good("walker a weighs 1 takes 1;walker b weighs 1 takes 1;" + FOUR + "plan ab () plan ba ()");
        good("walker aaaaaaaa weighs 1 takes 1;walker aaaaaaab weighs 1 takes 1;"
                + "walker baaaaaaa weighs 1 takes 1;walker aaaaaaa weighs 1 takes 1;" + FOUR);
    }

    private static void namesUnknown() {
        Checks.promise(4, "teach, error 3");
        Checks.errorThere(ONE + "plan p (send |b;)", 3);
        Checks.errorThere(ONE + "plan p (send a with |b;)", 3);
        Checks.errorThere(ONE + "plan p (send fastest with |aa;)", 3);
        Checks.errorThere(ONE + "plan p (send |p;)", 3);
        Checks.errorThere(ONE + "plan p () plan q (send |p;)", 3);
        Checks.errorThere(ONE + "plan p (do |a;)", 3);
        Checks.errorThere(ONE + "plan p (do |p;)", 3);
        Checks.errorThere(ONE + "plan p (if 1=1 (do |p;))", 3);
        Checks.errorThere(ONE + "plan p (do |q;) plan q ()", 3);
        Checks.errorThere(FOUR + "plan p (send |a;)", 3);
        good(ONE + "plan p (send a with a;) plan q (do p; do p;) plan r (do p; do q;)");
    }

    private static void tooMany() {
        Checks.promise(4, "teach, error 4");
        good(Books.walkers(8) + FOUR);
        Checks.errorThere(Books.walkers(8) + "walker |x weighs 1 takes 1;" + FOUR, 4);
        Checks.errorThere(Books.walkers(8) + "walker |x weighs 1 takes 1;walker y weighs 1 takes 1;" + FOUR, 4);
        good(FOUR + Books.plans(6));
        Checks.errorThere(FOUR + Books.plans(6) + "plan |x ()", 4);
        good("planks 1,2,3,4,5,6,7,8,9,10,11,12;");
        Checks.errorThere("planks 1,2,3,4,5,6,7,8,9,10,11,12,|13;", 4);
        Checks.errorThere("planks 1,2,3,4,5,6,7,8,9,10,11,12,|13,14,15;", 4);
        good(FOUR + "plan p (" + Books.acts(60) + ")");
        Checks.errorThere(FOUR + "plan p (" + Books.acts(60) + "|rest 1;)", 4);
        Checks.errorThere(FOUR + "plan p (" + Books.acts(30) + ")plan q (" + Books.acts(30) + "|rest 1;)", 4);
        Checks.errorThere(FOUR + "plan p (while 1=1 and 1=1 (if 1=1 () else (" + Books.acts(58) + "|rest 1;)))", 4);
        good(FOUR + "plan p (while 1=1 and 1=1 (if 1=1 () else (" + Books.acts(58) + ")))");
        Checks.errorThere(FOUR + "plan p (" + Books.acts(60) + ")plan q(|while 1=1 (rest 1;))", 4);
        Checks.errorThere(FOUR + "plan p (" + Books.acts(60) + ")plan q(|if 1=1 (rest 1;))", 4);
        Checks.errorThere(ONE + "plan p (" + Books.acts(60) + ")plan q(|send a;)", 4);
        Checks.errorThere(ONE + "plan p (" + Books.acts(60) + ")plan q(|do p;)", 4);
        Checks.errorThere(ONE + "plan p (" + Books.acts(60) + "|mend 1;)", 4);
        Checks.errorThere(ONE + "plan p (" + Books.acts(60) + "|note 1;)", 4);
    }

    private static void numbersOutside() {
        Checks.promise(4, "teach, error 5");
        for (String weight : "1 9 01".split(" ")) {
            good("walker a weighs " + weight + " takes 1;" + FOUR);
        }
        for (String weight : "0 10 000 100 999".split(" ")) {
            Checks.errorThere("walker a weighs |" + weight + " takes 1;" + FOUR, 5);
        }
        for (String minutes : "1 20 020".split(" ")) {
            good("walker a weighs 1 takes " + minutes + ";" + FOUR);
        }
        for (String minutes : "0 21 120".split(" ")) {
            Checks.errorThere("walker a weighs 1 takes |" + minutes + ";" + FOUR, 5);
        }
        good("planks 30,1,30,01;");
        Checks.errorThere("planks |0,1,30,1;", 5);
        Checks.errorThere("planks 30,1,|31,1;", 5);
        Checks.errorThere("planks 30,1,30,|100;", 5);
        for (String act : "rest note mend".split(" ")) {
            good(FOUR + "plan p (" + act + " 0;" + act + " 99; " + act + " 099;)");
            Checks.errorThere(FOUR + "plan p (" + act + " |100;)", 5);
        }
        good(FOUR + "plan p (while 0<99 and 99>0 () if 0=99 ())");
        Checks.errorThere(FOUR + "plan p (while |100<9 ())", 5);
        Checks.errorThere(FOUR + "plan p (if 1<|100 ())", 5);
        Checks.errorThere(FOUR + "plan p (if 1<2 and oil=|999 ())", 5);
        Checks.errorThere("planks 1,2,3|;", 5);
        Checks.errorThere("planks 1|;plan p ()", 5);
        Checks.errorThere("planks 1,2\n|;", 5);
        good(FOUR);
    }

    private static void whichErrorFirst() {
        Checks.promise(4, "teach, which error");
        // At one token the smallest number.
        Checks.errorThere(Books.walkers(8) + "walker |wa weighs 1 takes 1;" + FOUR, 2);
        Checks.errorThere(FOUR + Books.plans(6) + "plan |pa ()", 2);
        Checks.errorThere("planks 1,2,3,4,5,6,7,8,9,10,11,12,|31;", 4);
        // From left to right otherwise.
        Checks.errorThere("walker a weighs |0 takes 0;walker a weighs 1 takes 1;planks 1;", 5);
        Checks.errorThere("planks 1,|0,2;plan p (send x;)", 5);
        Checks.errorThere("planks 1,2|;plan p (send x;)", 5);
        Checks.errorThere(FOUR + "plan p (send |x; rest 100;) plan p ()", 3);
        Checks.errorThere(FOUR + "plan p (rest |100; send x;) plan p ()", 5);
        Checks.errorThere(Books.walkers(8) + "walker |x weighs 0 takes 0;planks 0;", 4);
        // Error 1 ahead of all, though it stands behind them.
        Checks.errorThere("walker a weighs 0 takes 0;walker a weighs 1 takes 1;planks 1|", 1);
        Checks.errorThere("planks 1,2,3,4;plan p (send x; do p; rest 100; |", 1);
        Checks.errorThere("planks 1,2;|#", 1);
    }
}
