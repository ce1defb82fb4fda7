import java.util.Arrays;

/** The headings "Terms" and "1. The book", sentence by sentence. */
final class BookSentences {

    private static final String FOUR = Books.FOUR;
    private static final String ONE = Books.ONE;
    private static final Class<?> ILLEGAL = IllegalArgumentException.class;
    private static final Class<?> NOT_NOW = IllegalStateException.class;

    private BookSentences() {
    }

    static void check() {
        terms();
        Sentences.under("1. The book");
        tape();
        tokens();
        signsAndLongestToken();
        book();
        walkerAndBridge();
        planAndBlock();
        act();
        compares();
        whoAndValue();
        repeated();
        names();
        errorOne();
        blocksInBlocks();
        manyTokens();
        leftToRight();
        errorTwo();
        errorThree();
        errorFour();
        errorFive();
        order();
    }

    private static void good(String text) {
        Checks.error(text, 0, -1);
    }

    private static void there(String text, int error) {
        Checks.errorThere(text, error);
    }

    /**
     * The tokens of a rule: each of them is needed there, so that another one in its place, or the
     * end of the tape, is error 1.
     */
    private static void strict(String ahead, String rule, String behind, String wrong) {
        String[] tokens = rule.split(" ");
        good(ahead + " " + rule + " " + behind);
        for (int i = 0; i < tokens.length; i++) {
            String begun = ahead + String.join(" ", Arrays.copyOf(tokens, i)) + " ";
            there(begun + "|" + wrong, 1);
            if (i > 0) {
                there(begun + "|", 1);
            }
        }
    }

    // ---- Terms

    private static void terms() {
        Sentences.under("Terms");
        // All of this is told once more under the headings 1 to 3, and tested there.
        Sentences.alsoSays("A book tells walkers, planks, and plans of crossings; walkers cross alone"
                + " or by twos with the only lamp, as fast as the slower one; planks wear, break and"
                + " rot, on weak nights they bear less, and over two that are missing side by side"
                + " nobody comes; and one can ask who stands where, what each plank bears, how heavy a"
                + " load can be, who can cross, in how few minutes all could be over, who crosses"
                + " first then, and how each plan would go.", "All numbers are whole.");
        Sentences.says("Time is told in minutes: a night has 120 of them, 0 to 119;"
                + " nights are counted from 0.");
        PlankBridge x = new PlankBridge();
        Checks.due("the first minute", x.night() + ":" + x.minute(), "0:0");
        x.rest(119);
        Checks.due("the last minute of the night", x.night() + ":" + x.minute(), "0:119");
        x.rest(1);
        Checks.due("a minute later", x.night() + ":" + x.minute(), "1:0");
        x.rest(120);
        Checks.due("a night later", x.night() + ":" + x.minute(), "2:0");
    }

    // ---- the tape and its tokens

    private static PlankBridge fed(int bytes) {
        PlankBridge x = new PlankBridge();
        for (int length = 0; length < bytes; length += 20) {
            x.feed(0x20202020, 0x20202020, 0x20202020, 0x20202020, 0x20202020);
        }
        x.trim(bytes);
        return x;
    }

    private static void tape() {
        Sentences.says("The tape is a row of at most 1600 bytes, at first empty, which feed and trim"
                + " fill;");
        Checks.refused("trim(1) of a new object", ILLEGAL, PlankBridge::new, x -> x.trim(1));
        Checks.due("feed of a new object", new PlankBridge().feed(0, 0, 0, 0, 0), 20);
        Checks.due("feed at 1580", fed(1580).feed(0, 0, 0, 0, 0), 1600);
        for (int bytes : new int[] {1581, 1599, 1600}) {
            Checks.refused("feed at " + bytes, NOT_NOW, () -> fed(bytes), x -> x.feed(0, 0, 0, 0, 0));
        }
        Sentences.says("teach reads it as a book, and it is empty behind it.");
        String[] books = {"", FOUR, FOUR + " ".repeat(1585), "planks 1,2,3;", "planks 1,2,3,4", "#"};
        int[] errors = {1, 0, 0, 5, 1, 1};
        for (int i = 0; i < books.length; i++) {
            PlankBridge x = new PlankBridge();
            Checks.due("teach() of " + books[i].strip(), Checks.teach(x, books[i]), errors[i]);
            Checks.due("trim(1) behind it", Checks.nameOfThrown(() -> x.trim(1)),
                    "IllegalArgumentException");
            Checks.due("feed behind it", x.feed(0, 0, 0, 0, 0), 20);
        }
        Sentences.says("Its positions are counted from 0, in bytes.");
        there("|;", 1);
        there(FOUR + " ".repeat(1584) + "|;", 1);
        there(" ".repeat(1599) + "|;", 1);
        there(" ".repeat(1600) + "|", 1);
        there("planks\n1,\n2,3,\n\n|31;", 5);
    }

    private static void tokens() {
        Sentences.says("It is a row of tokens.", "Blanks (32) and line ends (10) can stand anywhere"
                + " between tokens, and have to stand between two tokens that would otherwise be read"
                + " as one.");
        good("walker a weighs3takes4;planks1,2,3,4;plan p(rest 5;while 1=1and 2=2(send a with a;)"
                + "if near<far()else())");
        good("\n\n walker\na\n weighs\n 3\ntakes 4 ; planks 1 ,2\n, 3,  4 ;\nplan p ( ) \n\n plan q(\n)\n ");
        there("|walkera weighs 1 takes 1;" + FOUR, 1);
        there("walker aweighs |1 takes 1;" + FOUR, 1);
        good("walker aweighs weighs 1 takes 1;" + FOUR);
        good("planks 1,2,3,25;");
        there("planks 1,2,3,2 |5;", 1);
        there("planks 1,2,3,2\n|5;", 1);
        there("|plan ks 1,2,3,4;", 1);
        there("walker a |wei ghs 1 takes 1;" + FOUR, 1);
        everyByte();

        Sentences.says("A word: letters a to z, at most 8.");
        good("walker abcdefgh weighs 1 takes 1;walker zyxwvuts weighs 1 takes 1;walker q weighs 1 takes 1;"
                + FOUR);
        there("walker |abcdefghi weighs 1 takes 1;" + FOUR, 1);
        there("walker |" + "a".repeat(100) + " weighs 1 takes 1;" + FOUR, 1);
        there("walker a|2 weighs 1 takes 1;" + FOUR, 1);
        there("walker |A weighs 1 takes 1;" + FOUR, 1);
        there("|PLANKS 1,2,3,4;", 1);
        Sentences.says("A number: digits, at most 3.");
        good("walker a weighs 009 takes 020;planks 001,02,3,030;plan p (note 099;)");
        there("planks |0001,2,3,4;", 1);
        there("planks |1234,2,3,4;", 1);
        there("planks 1,2,3,|" + "0".repeat(100) + "4;", 1);
        there("planks |-1,2,3,4;", 1);
        there("planks |+1,2,3,4;", 1);
        there("planks 1|.0,2,3,4;", 1);
    }

    /** Each of the 256 bytes behind the last plank. */
    private static void everyByte() {
        for (int b = 0; b < 256; b++) {
            String book = "planks 1,2,3,4" + (char) b + ";";
            if (b == ' ' || b == '\n') {
                good(book);
            } else if (b >= '0' && b <= '9') {
                Checks.error(book, 5, 13);
            } else {
                Checks.error(book, 1, b == ',' || b == ';' ? 15 : 14);
            }
        }
    }

    private static void signsAndLongestToken() {
        Sentences.says("The signs ( ) ; , < > = are tokens by themselves.");
        good(ONE + "plan p(if near<far(while near>far()if near=far())else())plan q()");
        there(ONE + "plan p(note 1;|;)", 1);
        there(ONE + "plan p(if 1<|=2())", 1);
        there(ONE + "plan p(if 1=|=2())", 1);
        there(ONE + "plan p(if 1>|=2())", 1);
        there(ONE + "plan p()|)", 1);
        there(ONE + "plan p(|()", 1);
        there("planks 1,|,2,3,4;", 1);
        Sentences.says("The longest possible token is always read.");
        there("|plan p ();planks 1,2,3,4;", 1);
        there("|planksp 1,2,3,4;", 1);
        good("walker senda weighs 1 takes 1;planks 11,2,3,4;plan plans (send senda;)");
        there(ONE + "plan p (|senda;)", 1);
        there(FOUR + "plan p ( |dop;)", 1);
        there(FOUR + "plan p (|whilenear>0())", 1);
        there(FOUR + "plan p (|ifnear>0())", 1);
        good(FOUR + "plan planning ()");
        Checks.due("the planks of 12 and so on",
                Checks.strengths(Checks.taught("planks 12,1,21,007;")), "12,1,21,7");
    }

    // ---- the grammar

    private static void book() {
        Sentences.says("book = { walker } bridge { plan }");
        good(FOUR);
        good(ONE);
        good(Books.walkers(8) + FOUR + Books.plans(6));
        there("|", 1);
        there("walker a weighs 1 takes 1;|", 1);
        there("|plan p ()", 1);
        there("walker a weighs 1 takes 1;|plan p ()", 1);
        there(FOUR + "|planks 1,2,3,4;", 1);
        there(FOUR + "|walker a weighs 1 takes 1;", 1);
        there(FOUR + "plan p ()|planks 1,2,3,4;", 1);
        there(FOUR + "plan p ()|walker a weighs 1 takes 1;", 1);
        there(FOUR + "|;", 1);
        there(FOUR + "plan p ()|;", 1);
        there("|()", 1);
    }

    private static void walkerAndBridge() {
        Sentences.says("walker = walker name weighs number takes number ;");
        strict("", "walker a weighs 1 takes 1 ;", FOUR, "plan");
        strict(Books.walkers(1), "walker a weighs 1 takes 1 ;", FOUR, "plan");
        there("walker a |takes 1 weighs 1;", 1);
        there("walker |7 weighs 1 takes 1;", 1);
        there("walker a weighs |b takes 1;", 1);
        there("walker a weighs 1 takes |near;", 1);
        Sentences.says("bridge = planks number { , number } ;");
        strict("", "planks 1 , 2 , 3 , 4 ;", "", "plan");
        there("planks |;", 1);
        there("planks |,1,2,3,4;", 1);
        there("planks 1,2,3,4,|;", 1);
        there("planks 1 |2 3 4;", 1);
        there("planks 1,2,3,|a;", 1);
        there("planks 1|;", 5);
    }

    private static void planAndBlock() {
        Sentences.says("plan = plan name block");
        strict(FOUR, "plan p ( )", "", "planks");
        strict(FOUR + Books.plans(1), "plan p ( )", "plan q ()", "planks");
        there(FOUR + "plan p |note 1;", 1);
        there(FOUR + "plan |7 ()", 1);
        Sentences.says("block = ( { act } )");
        good(FOUR + "plan p ()");
        good(FOUR + "plan p (note 1;)");
        good(FOUR + "plan p (note 1; note 2; if 1=1 () note 3;)");
        there(FOUR + "plan p (note 1;|", 1);
        there(FOUR + "plan p (|plan q ()", 1);
        there(FOUR + "plan p (|;)", 1);
        there(FOUR + "plan p (|())", 1);
    }

    private static void act() {
        Sentences.says("act = send who [ with who ] ; or rest value ; or note value ; or mend value ;"
                + " or do name ; or while compares block, or if compares block [ else block ]");
        String ahead = ONE + "plan o () plan p ( ";
        for (String act : new String[] {"send a ;", "send a with a ;", "send fastest with slowest ;",
            "rest 5 ;", "rest oil ;", "note 5 ;", "note near ;", "mend 5 ;", "mend weakest ;", "do o ;",
            "while near < 3 ( )", "while near < 3 and 1 = 2 ( note 1 ; )", "if 1 > 2 ( )",
            "if 1 > 2 and far = 0 ( rest 1 ; ) else ( note 1 ; )"}) {
            strict(ahead, act, ")", "takes");
            strict(ahead + "note 1; while 1=1 (", act, "))", "takes");
        }
        for (String act : new String[] {"|a;", "|7;", "|with a;", "|else ()", "|and 1=1 ()", "|near;",
            "|fastest;", "|walker b weighs 1 takes 1;", "|planks 1,2,3,4;", "send a|, b;",
            "send a |and a;", "send a |a;", "rest 1 |2;", "do |1;", "do |near;", "while near |()",
            "while near>0 |;", "while near>0 () |else ()", "while near>0 ()|;", "if near>0 |note 1;",
            "if 1=1 () else |note 1;", "if 1=1 |else ()", "if 1=1 ()|;", "if 1=1 () else ()|;"}) {
            there(ahead + act, 1);
        }
    }

    private static void compares() {
        Sentences.says("compares = compare { and compare }");
        good(FOUR + "plan p (if 1=1 () if 1=1 and 2=2 () if 1=1 and 2=2 and 3<4 () while 1=2 and near>0 ())");
        there(FOUR + "plan p (if 1=1 and |()", 1);
        there(FOUR + "plan p (if |and 1=1 ()", 1);
        there(FOUR + "plan p (if 1=1 and |and 1=1 ()", 1);
        there(FOUR + "plan p (if 1=1 |2=2 ()", 1);
        there(FOUR + "plan p (if 1=1|, 2=2 ()", 1);
        Sentences.says("compare = value sign value, with one of the signs < > =");
        good(FOUR + "plan p (if 1<2 () if 1>2 () if 1=2 ())");
        for (String sign : new String[] {"(", ")", ";", ",", "and", "with", "1", "a"}) {
            there(FOUR + "plan p (if 1 |" + sign + " 2 ()", 1);
        }
        there(FOUR + "plan p (if 1<|()", 1);
        there(FOUR + "plan p (if |<1 ()", 1);
        there(FOUR + "plan p (if 1<2|<3 ()", 1);
        there(FOUR + "plan p (if 1|!2 ()", 1);
    }

    private static void whoAndValue() {
        Sentences.says("who = a name, or one of fastest slowest lightest heaviest");
        good(ONE + "plan p (send a; send a with a;)");
        for (String word : Books.KEYWORDS) {
            if (Books.CHOICES.contains(" " + word + " ")) {
                good(ONE + "plan p (send " + word + "; send a with " + word + ";)");
            } else {
                there(ONE + "plan p (send |" + word + ";)", 1);
                there(ONE + "plan p (send a with |" + word + ";)", 1);
            }
        }
        there(ONE + "plan p (send |1;)", 1);
        Sentences.says("value = a number, or one of the measures near far oil minute night missing"
                + " weakest");
        good(ONE + "plan p (rest 1; note 1; mend 1; if 1<1 ())");
        for (String word : Books.KEYWORDS) {
            if (Books.MEASURES.contains(" " + word + " ")) {
                good(ONE + "plan p (rest " + word + ";note " + word + ";mend " + word + ";if " + word
                        + "<" + word + "())");
            } else {
                there(ONE + "plan p (rest |" + word + ";)", 1);
                there(ONE + "plan p (note |" + word + ";)", 1);
                there(ONE + "plan p (mend |" + word + ";)", 1);
                there(ONE + "plan p (if |" + word + "<1 ())", 1);
                there(ONE + "plan p (if 1<|" + word + " ())", 1);
            }
        }
        there(ONE + "plan p (note |a;)", 1);
        there(ONE + "plan p (note |p;)", 1);
    }

    private static void repeated() {
        Sentences.says("What stands in { } can stand there any number of times, also none; what stands"
                + " in [ ] once or not at all.");
        good(FOUR);
        good(Books.walkers(8) + Books.planks(12) + Books.plans(5) + "plan q (" + Books.acts(60) + ")");
        good(FOUR + "plan p (if 1=1" + " and 1=1".repeat(90) + " ())");
        good(ONE + "plan p (send a; send a with a; if 1=1 () if 1=1 () else ())");
        there(ONE + "plan p (send a with a |with a;)", 1);
        there(ONE + "plan p (if 1=1 () else () |else ())", 1);
    }

    private static void names() {
        Sentences.says("A name is a word that is none of these: walker weighs takes planks plan send"
                + " with rest note mend do while if else and fastest slowest lightest heaviest near far"
                + " oil minute night missing weakest.");
        for (String word : Books.KEYWORDS) {
            there("walker |" + word + " weighs 1 takes 1;" + FOUR, 1);
            there(FOUR + "plan |" + word + " ()", 1);
            there(FOUR + "plan p (do |" + word + ";)", 1);
            if (word.length() < 8) {
                good("walker " + word + "s weighs 1 takes 1;walker s" + word + " weighs 1 takes 1;" + FOUR);
            }
            String shorter = word.substring(1);
            good("walker " + shorter + " weighs 1 takes 1;" + FOUR + "plan x" + shorter + " (send " + shorter
                    + ";)");
        }
        for (String word : "book bridge block act compares compare who value sign name number measures or one"
                .split(" ")) {
            good("walker " + word + " weighs 1 takes 1;" + FOUR + "plan p (send " + word + ";)");
        }
    }

    // ---- errors

    private static void errorOne() {
        Sentences.says("Errors.", "Error 1: the first token with which the tokens so far are not the"
                + " beginning of a book.");
        there("planks 1,2,3,4 |plan p () plan ;", 1);
        there("planks 1,2,|;3,4;;", 1);
        there("planks |weighs takes", 1);
        there(FOUR + "plan p (note 1; |plan q #", 1);
        there("walker a weighs 1 takes 1; walker b weighs |;", 1);
        Sentences.says("This includes a byte with which no token begins,");
        for (int b = 0; b < 256; b++) {
            boolean begins = b >= 'a' && b <= 'z' || b >= '0' && b <= '9' || " \n();,<>=".indexOf(b) >= 0;
            if (!begins) {
                there("|" + (char) b + FOUR, 1);
                there(FOUR + "plan p (rest |" + (char) b + "5;)", 1);
                there(FOUR + "plan p ()|" + (char) b, 1);
            }
        }
        there("planks 1,2,3|#", 1);
        Sentences.says("a word or a number that is too long,");
        there("walker |abcdefghi", 1);
        there("planks 1,2,|1000,4;", 1);
        there(FOUR + "|planksplan", 1);
        there(FOUR + "plan p (note |0000;)", 1);
        there(ONE + "plan p (send |aaaaaaaaa;)", 1);
        Sentences.says("the end of the tape (at its length),");
        there("|", 1);
        there("  \n|", 1);
        there("planks 1,2,3,4|", 1);
        there("planks 1,2,3,4  \n |", 1);
        there("planks 1,2,3,4," + " ".repeat(1585) + "|", 1);
        there(FOUR + "plan|", 1);
    }

    private static void blocksInBlocks() {
        Sentences.says("the sign ( of a block that would lie in three others,");
        good(FOUR + "plan p (while 1=1 (if 1=1 ()))");
        good(FOUR + "plan p (if 1=1 (if 1=1 () else ()) else (if 1=1 () else ()))");
        good(FOUR + "plan p (if 1=1 (if 1=1 () if 1=1 ()) while 1=1 (while 1=1 ())) plan q (if 1=1 ())");
        there(FOUR + "plan p (while 1=1 (while 1=1 (while 1=1 |())))", 1);
        there(FOUR + "plan p (if 1=1 (if 1=1 (if 1=1 |())))", 1);
        there(FOUR + "plan p (if 1=1 (if 1=1 () else (if 1=1 |())))", 1);
        there(FOUR + "plan p (if 1=1 () else (if 1=1 () else (if 1=1 |())))", 1);
        there(FOUR + "plan p () plan q (while 1=1 (if 1=1 (note 1; while 1=1 |())))", 1);
        there(FOUR + "plan p (if 1=1 (if 1=1 (if 1=1 |(#", 1);
    }

    private static void manyTokens() {
        Sentences.says("and the token that would be the 401st (the end of the tape is not counted).");
        String book = Books.fourHundred();
        good(book);
        good(book + " \n ");
        there(book + " |plan r ()", 1);
        there(book + "|;", 1);
        there(book + "|#", 1);
        there(book + "\n|1234", 1);
        String cut = book.substring(0, book.length() - 1);
        there(cut + "|", 1);
        there(cut + " |;", 1);
        there(cut + "note |1;)", 1);
        there(book.replace("planks 1", "planks 0") + "|)", 1);
        there(book.replace("planks 1,2", "planks 1,2,2").replace("q ()", "q |()"), 1);
        Sentences.says("The position is that of its first byte.");
        there("walker |abcdefghijk weighs 1 takes 1;", 1);
        there("planks 1,2,3,|4567;", 1);
        there("planks 1,2,3,4 |planks", 1);
        there(FOUR + "plan p (note 1; note |weighs;)", 1);
    }

    private static void leftToRight() {
        Sentences.says("Only if there is no error 1,");
        there("walker a weighs 0 takes 0;walker a weighs 1 takes 1;planks 1|", 1);
        there(FOUR + "plan p (send x; do p; rest 100;|", 1);
        there("planks 1,2;|#", 1);
        there(Books.walkers(9) + "planks |;", 1);
        there(FOUR + Books.plans(7) + "|;", 1);
        there(Books.planks(13) + "|;", 1);
        there(FOUR + "plan p (" + Books.acts(61) + "|", 1);
        Sentences.says("the tokens are looked at from left to right, and the first error is told, at"
                + " its token;");
        there("walker a weighs |0 takes 0;walker a weighs 1 takes 1;planks 1;", 5);
        there("walker a weighs 1 takes 1;walker |a weighs 0 takes 1;planks 1;", 2);
        there(Books.walkers(8) + "walker |x weighs 0 takes 0;walker x weighs 1 takes 1;planks 0;", 4);
        there("planks 1,|0,2;plan p (send x;)", 5);
        there("planks 1,2|;plan p (send x;) plan p ()", 5);
        there(FOUR + "plan p (send |x; rest 100;) plan p ()", 3);
        there(FOUR + "plan p (rest |100; send x;) plan p ()", 5);
        there(FOUR + "plan p () plan |p (rest 100; send x;)", 2);
        there(FOUR + "plan p (" + Books.acts(60) + "|send x;)", 4);
        there(FOUR + "plan p (" + Books.acts(59) + "send |x; rest 1;)", 3);
        there(Books.planks(12).replace(";", ",|1") + ",0;plan p (do p;)", 4);
        Sentences.says("of errors at one token the one with the smallest number.");
        there(Books.walkers(8) + "walker |wa weighs 1 takes 1;" + FOUR, 2);
        there(Books.walkers(1) + FOUR + Books.plans(6) + "plan |pa ()", 2);
        there(Books.walkers(1) + FOUR + Books.plans(6) + "plan |wa ()", 2);
        there(Books.planks(12).replace(";", ",|31;"), 4);
        there(Books.planks(12).replace(";", ",|0;"), 4);
    }

    private static void errorTwo() {
        Sentences.says("Error 2: a walker or plan gets a name that a walker or plan ahead of it has.");
        there("walker a weighs 1 takes 1;walker |a weighs 1 takes 1;" + FOUR, 2);
        there(Books.walkers(7) + "walker |wg weighs 1 takes 1;" + FOUR, 2);
        there(Books.walkers(8) + FOUR + "plan |wh ()", 2);
        there(ONE + "plan |a ()", 2);
        there(FOUR + "plan p () plan |p ()", 2);
        there(FOUR + Books.plans(5) + "plan |pe ()", 2);
        good("walker aaaaaaaa weighs 1 takes 1;walker aaaaaaab weighs 1 takes 1;"
                + "walker baaaaaaa weighs 1 takes 1;walker aaaaaaa weighs 1 takes 1;" + FOUR
                + "plan aaaaaa () plan aaaaaaba () plan b ()");
        // Names of the book before do not count.
        PlankBridge x = Checks.taught(ONE + "plan p ()");
        Checks.due("teach() of the same names", Checks.teach(x, ONE + "plan p ()"), 0);
        Checks.due("teach() of a plan a", Checks.teach(x, FOUR + "plan a ()"), 0);
    }

    private static void errorThree() {
        Sentences.says("Error 3: a name that stands for who is not that of a walker,");
        there(ONE + "plan p (send |b;)", 3);
        there(ONE + "plan p (send a with |b;)", 3);
        there(ONE + "plan p (send fastest with |aa;)", 3);
        there(ONE + "plan p (send |p;)", 3);
        there(ONE + "plan q () plan p (send |q;)", 3);
        there(FOUR + "plan p (while 1=1 (send |a;))", 3);
        good(Books.walkers(8) + FOUR + "plan p (send wa with wh;)");
        PlankBridge x = Checks.taught(ONE);
        Checks.due("teach() with the walker of the book before",
                Checks.teach(x, FOUR + "plan p (send a;)"), 3);
        Sentences.says("or a name behind do is not that of a plan of which the block has ended ahead of"
                + " it.");
        there(ONE + "plan p (do |a;)", 3);
        there(ONE + "plan p (do |p;)", 3);
        there(ONE + "plan p (if 1=1 (do |p;))", 3);
        there(ONE + "plan p (do |q;) plan q ()", 3);
        there(ONE + "plan q () plan p (do q; do |p;)", 3);
        good(ONE + "plan p () plan q (do p;) plan r (do p; do q;) plan s (do r;)");
        good(ONE + Books.plans(5) + "plan q (do pa; if 1=1 (do pe;))");
    }

    private static void errorFour() {
        Sentences.says("Error 4: the name of the 9th walker,");
        good(Books.walkers(8) + FOUR);
        there(Books.walkers(8) + "walker |x weighs 1 takes 1;" + FOUR, 4);
        there(Books.walkers(8) + "walker |x weighs 1 takes 1;walker y weighs 1 takes 1;" + FOUR, 4);
        Sentences.says("or of the 7th plan,");
        good(FOUR + Books.plans(6));
        there(FOUR + Books.plans(6) + "plan |x ()", 4);
        there(FOUR + Books.plans(6) + "plan |x () plan y (send z;)", 4);
        Sentences.says("the number of the 13th plank,");
        good(Books.planks(12));
        there(Books.planks(12).replace(";", ",|1;"), 4);
        there(Books.planks(12).replace(";", ",|1,1,1;"), 4);
        Sentences.says("or the first word of the 61st act (all acts of the book are counted, those in"
                + " blocks of others as well).");
        good(FOUR + "plan p (" + Books.acts(60) + ")");
        good(FOUR + "plan p (" + Books.acts(30) + ")plan q (" + Books.acts(30) + ")");
        good(FOUR + "plan p (while 1=1 and 1=1 (if 1=1 () else (" + Books.acts(58) + ")))");
        there(FOUR + "plan p (" + Books.acts(60) + "|rest 1;)", 4);
        there(FOUR + "plan p (" + Books.acts(30) + ")plan q (" + Books.acts(30) + "|rest 1;)", 4);
        there(FOUR + "plan p (while 1=1 (if 1=1 () else (" + Books.acts(58) + "|rest 1;)))", 4);
        there(FOUR + "plan p (while 1=1 (if 1=1 () else (" + Books.acts(58) + ")) |rest 1;)", 4);
        for (String act : new String[] {"|send a;", "|rest 1;", "|note 1;", "|mend 1;", "|do p;",
            "|while 1=1 ()", "|if 1=1 (rest 1;)"}) {
            there(ONE + "plan p (" + Books.acts(60) + ") plan q (" + act + ")", 4);
        }
    }

    private static void errorFive() {
        Sentences.says("Error 5: the number behind weighs is not 1 to 9,");
        number("walker a weighs # takes 1;" + FOUR, "1 5 9 01 009", "0 10 000 99 100 999");
        Sentences.says("that behind takes not 1 to 20,");
        number("walker a weighs 1 takes #;" + FOUR, "1 9 10 20 020", "0 00 21 99 120 999");
        Sentences.says("that of a plank not 1 to 30,");
        number("planks #,1,1,1;", "1 9 10 30 030", "0 000 31 99 130 999");
        number("planks 1,1,1,#;", "1 30", "0 31");
        number(Books.planks(11).replace(";", ",#;"), "1 30", "0 31");
        Sentences.says("a number that is a value not 0 to 99;");
        for (String act : new String[] {"rest #;", "note #;", "mend #;", "while #<1 ()", "while 1>#()",
            "if #=1 ()", "if 1<2 and 3=# ()", "if 1=1 () else (note #;)", "if 1=1 (if 1=1 (note #;))"}) {
            number(FOUR + "plan p (" + act + ")", "0 1 99 000 099", "100 101 999");
        }
        Sentences.says("or the ; behind the planks, if there are fewer than 4.");
        there("planks 1|;", 5);
        there("planks 1,1|;", 5);
        there("planks 1,1,1 \n|;plan p ()", 5);
        good(Books.planks(4));
        good(Books.planks(5));
    }

    /** Numbers in the place of the sign #, those that are good, and those that are error 5. */
    private static void number(String text, String good, String wrong) {
        for (String number : good.split(" ")) {
            good(text.replace("#", number));
        }
        for (String number : wrong.split(" ")) {
            there(text.replace("#", "|" + number), 5);
        }
    }

    private static void order() {
        Sentences.says("Walkers, planks and plans are numbered from 0 in the order in which the book has"
                + " them.");
        PlankBridge x = Checks.taught(Books.people(9, 1, 2, 20, 5, 7) + "planks 4,30,1,17,9;"
                + "plan z (note 7;) plan d (note 8;) plan m (note 9;)");
        for (int i = 0; i < 3; i++) {
            Checks.due("weightOf(" + i + ")", x.weightOf(i), new int[] {9, 2, 5}[i]);
            Checks.due("minutesOf(" + i + ")", x.minutesOf(i), new int[] {1, 20, 7}[i]);
            x.runPlan(i);
            Checks.due("the note of plan " + i, x.noteOf(0), 7 + i);
        }
        Checks.due("the planks", Checks.strengths(x), "4,30,1,17,9");
    }
}
