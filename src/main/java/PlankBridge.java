import java.util.Arrays;

/**
 * A bridge of planks that is crossed by night. The document's numbered promises say what each call
 * answers; the comments here use its words: "ahead" is earlier, "behind" is later.
 */
public final class PlankBridge {

    private static final int NONE = -1;

    private static final int MOST_BYTES = 1600;
    private static final int MOST_TOKENS = 400;
    private static final int MOST_LETTERS = 8;
    private static final int MOST_DIGITS = 3;

    private static final int MOST_WALKERS = 8;
    private static final int MOST_PLANS = 6;
    private static final int MOST_PLANKS = 12;
    private static final int FEWEST_PLANKS = 4;
    private static final int MOST_ACTS = 60;
    private static final int MOST_BLOCKS = 3;

    private static final int MOST_WEIGHT = 9;
    private static final int MOST_MINUTES = 20;
    private static final int MOST_STRENGTH = 30;
    private static final int MOST_VALUE = 99;
    private static final int FIRST_STRENGTH = 10;

    private static final int NIGHT_MINUTES = 120;
    private static final int FULL_OIL = 60;
    private static final int WEAK_NIGHT_LOSS = 3;
    private static final int LONGEST_REST = 600;

    private static final int MOST_ACTS_DONE = 100;
    private static final int KEPT_NOTES = 10;

    private final Tape tape;
    private final Reader reader;
    private final Bridge bridge;
    private final Bridge trial;
    private final Run run;
    private final Ways ways;
    private Book book;
    private Book spare;
    private int errorPosition;

    public PlankBridge() {
        tape = new Tape();
        book = new Book();
        spare = new Book();
        reader = new Reader(spare);
        bridge = new Bridge();
        trial = new Bridge();
        run = new Run(book, bridge);
        ways = new Ways(bridge);
        errorPosition = NONE;
        book.becomeFirst();
        bridge.begin(book);
    }

    // ---- the book

    public int feed(int a, int b, int c, int d, int e) throws IllegalStateException {
        if (!tape.hasRoomFor(20)) {
            throw new IllegalStateException("the tape has at most 1600 bytes");
        }
        tape.append(a);
        tape.append(b);
        tape.append(c);
        tape.append(d);
        tape.append(e);
        return tape.length;
    }

    public int trim(int bytes) throws IllegalArgumentException {
        if (bytes < 0 || bytes > tape.length) {
            throw new IllegalArgumentException("the tape has fewer bytes");
        }
        tape.length = bytes;
        return bytes;
    }

    public int teach() {
        reader.open(tape, spare);
        boolean fits = reader.readWalkers() && reader.readPlanks() && reader.readPlans();
        int error = reader.close(fits);
        errorPosition = reader.errorPosition();
        tape.length = 0;
        if (error == 0) {
            Book before = book;
            book = spare;
            spare = before;
            bridge.begin(book);
            ways.forget();
        }
        return error;
    }

    public int errorAt() {
        return errorPosition;
    }

    public int walkers() {
        return bridge.walkers;
    }

    public int planks() {
        return bridge.planks;
    }

    public int plans() {
        return book.plans;
    }

    // ---- walkers

    public int weightOf(int walker) throws IndexOutOfBoundsException {
        requireWalker(walker);
        return bridge.weights[walker];
    }

    public int minutesOf(int walker) throws IndexOutOfBoundsException {
        requireWalker(walker);
        return bridge.paces[walker];
    }

    public boolean isNear(int walker) throws IndexOutOfBoundsException {
        requireWalker(walker);
        return bridge.standsNear(walker);
    }

    public int walkersNear() {
        return bridge.countNear();
    }

    // ---- planks

    public int strengthOf(int plank) throws IndexOutOfBoundsException {
        requirePlank(plank);
        return bridge.strengths[plank];
    }

    public int bears(int plank) throws IndexOutOfBoundsException {
        requirePlank(plank);
        return bridge.loadOf(plank);
    }

    public boolean isRotten(int plank) throws IndexOutOfBoundsException {
        requirePlank(plank);
        return bridge.rotten[plank];
    }

    public int missingPlanks() {
        return bridge.countMissing();
    }

    public int weakestPlank() throws IllegalStateException {
        requireSomePlank();
        return bridge.findWeakest(true);
    }

    public boolean isPassable() {
        return bridge.canBePassed();
    }

    public int heaviestLoad() throws IllegalStateException {
        requireSomePlank();
        return bridge.loadOf(bridge.findWeakest(true));
    }

    // ---- the lamp and the night

    public boolean isLampNear() {
        return bridge.lampNear;
    }

    public int oilLeft() {
        return bridge.oil;
    }

    public int night() {
        return bridge.night;
    }

    public int minute() {
        return bridge.minute;
    }

    public boolean isWeakNight() {
        return bridge.nightIsWeak();
    }

    // ---- by hand

    public boolean crossAlone(int walker) throws IndexOutOfBoundsException, IllegalStateException {
        requireWalker(walker);
        return crossNow(walker, NONE);
    }

    public boolean crossTogether(int walker, int other)
            throws IndexOutOfBoundsException, IllegalArgumentException, IllegalStateException {
        requireTwo(walker, other);
        return crossNow(walker, other);
    }

    public int rest(int minutes) throws IllegalArgumentException {
        if (minutes < 1 || minutes > LONGEST_REST) {
            throw new IllegalArgumentException("a rest has 1 to 600 minutes");
        }
        return bridge.letGoBy(minutes);
    }

    public int layPlank(int plank, int strength)
            throws IndexOutOfBoundsException, IllegalArgumentException {
        requirePlank(plank);
        if (strength < 1 || strength > MOST_STRENGTH) {
            throw new IllegalArgumentException("a strength is 1 to 30");
        }
        int before = bridge.strengths[plank];
        bridge.lay(plank, strength);
        return before;
    }

    public int runPlan(int plan) throws IndexOutOfBoundsException {
        requirePlan(plan);
        return run.perform(book, bridge, plan);
    }

    // ---- what is counted

    public int crossings() {
        return bridge.crossings;
    }

    public int falls() {
        return bridge.falls;
    }

    public int notes() {
        return bridge.notes;
    }

    public int noteOf(int back) throws IndexOutOfBoundsException {
        if (back < 0 || back >= KEPT_NOTES || back >= bridge.notes) {
            throw new IndexOutOfBoundsException("no such note");
        }
        return bridge.readNote(back);
    }

    // ---- what would be

    public boolean canCrossAlone(int walker) throws IndexOutOfBoundsException {
        requireWalker(walker);
        return wouldCross(walker, NONE);
    }

    public boolean canCrossTogether(int walker, int other)
            throws IndexOutOfBoundsException, IllegalArgumentException {
        requireTwo(walker, other);
        return wouldCross(walker, other);
    }

    public int fewestMinutes() {
        return ways.minutesLeft();
    }

    public int firstToCross() throws IllegalStateException {
        requireSomebodyNear();
        return ways.findFirst();
    }

    public int secondToCross() throws IllegalStateException {
        requireSomebodyNear();
        return ways.findSecond(ways.findFirst());
    }

    public int actsOfPlan(int plan) throws IndexOutOfBoundsException {
        requirePlan(plan);
        trial.copyFrom(bridge);
        return run.perform(book, trial, plan);
    }

    public int farBehindPlan(int plan) throws IndexOutOfBoundsException {
        requirePlan(plan);
        trial.copyFrom(bridge);
        run.perform(book, trial, plan);
        return trial.countFar();
    }

    public int minutesOfPlan(int plan) throws IndexOutOfBoundsException {
        requirePlan(plan);
        trial.copyFrom(bridge);
        run.perform(book, trial, plan);
        return trial.minutesInAll() - bridge.minutesInAll();
    }

    public int bestPlan() throws IllegalStateException {
        if (book.plans == 0) {
            throw new IllegalStateException("there are no plans");
        }
        int best = 0;
        int bestFar = NONE;
        int bestMinutes = 0;
        for (int plan = 0; plan < book.plans; plan++) {
            trial.copyFrom(bridge);
            run.perform(book, trial, plan);
            int far = trial.countFar();
            int minutes = trial.minutesInAll() - bridge.minutesInAll();
            if (far > bestFar || far == bestFar && minutes < bestMinutes) {
                best = plan;
                bestFar = far;
                bestMinutes = minutes;
            }
        }
        return best;
    }

    public double meanStrength() {
        int sum = 0;
        for (int plank = 0; plank < bridge.planks; plank++) {
            sum += bridge.strengths[plank];
        }
        return bridge.planks > 0 ? (double) sum / bridge.planks : 0.0;
    }

    public long digest() {
        long d = 1889;
        d = d * 31 + bridge.walkers;
        d = d * 31 + bridge.planks;
        d = d * 31 + book.plans;
        d = d * 31 + oneIf(bridge.lampNear);
        d = d * 31 + bridge.oil;
        d = d * 31 + bridge.night;
        d = d * 31 + bridge.minute;
        d = d * 31 + bridge.crossings;
        d = d * 31 + bridge.falls;
        d = d * 31 + bridge.notes;
        d = d * 31 + bridge.countMissing();
        d = d * 31 + oneIf(bridge.canBePassed());
        d = d * 31 + ways.minutesLeft();
        return digestRows(d);
    }

    private long digestRows(long start) {
        long d = start;
        for (int walker = 0; walker < bridge.walkers; walker++) {
            d = d * 31 + bridge.weights[walker];
            d = d * 31 + bridge.paces[walker];
            d = d * 31 + oneIf(bridge.standsNear(walker));
        }
        for (int plank = 0; plank < bridge.planks; plank++) {
            d = d * 31 + bridge.strengths[plank];
            d = d * 31 + bridge.loadOf(plank);
            d = d * 31 + oneIf(bridge.rotten[plank]);
        }
        for (int back = 0; back < KEPT_NOTES && back < bridge.notes; back++) {
            d = d * 31 + bridge.readNote(back);
        }
        return d;
    }

    private static int oneIf(boolean so) {
        return so ? 1 : 0;
    }

    private boolean crossNow(int walker, int other) {
        if (!bridge.canGo(walker, other)) {
            throw new IllegalStateException("this crossing cannot be made");
        }
        return bridge.go(walker, other);
    }

    private boolean wouldCross(int walker, int other) {
        if (!bridge.canGo(walker, other)) {
            return false;
        }
        trial.copyFrom(bridge);
        return trial.go(walker, other);
    }

    private void requireWalker(int walker) {
        if (walker < 0 || walker >= bridge.walkers) {
            throw new IndexOutOfBoundsException("no such walker");
        }
    }

    private void requireTwo(int walker, int other) {
        requireWalker(walker);
        requireWalker(other);
        if (walker == other) {
            throw new IllegalArgumentException("both are the same");
        }
    }

    private void requirePlank(int plank) {
        if (plank < 0 || plank >= bridge.planks) {
            throw new IndexOutOfBoundsException("no such plank");
        }
    }

    private void requireSomePlank() {
        if (bridge.findWeakest(true) == NONE) {
            throw new IllegalStateException("all planks are missing");
        }
    }

    private void requirePlan(int plan) {
        if (plan < 0 || plan >= book.plans) {
            throw new IndexOutOfBoundsException("no such plan");
        }
    }

    private void requireSomebodyNear() {
        if (bridge.near == 0) {
            throw new IllegalStateException("all are far");
        }
    }

    /** What a token is. BAD stands for what can't be one, and ends the row of tokens as END does. */
    private enum Kind {
        END(""), BAD(""), NAME(""), NUMBER(""),
        OPEN("("), CLOSE(")"), SEMICOLON(";"), COMMA(","), LESS("<"), EQUAL("="), GREATER(">"),
        WALKER("walker"), WEIGHS("weighs"), TAKES("takes"), PLANKS("planks"), PLAN("plan"),
        SEND("send"), WITH("with"), REST("rest"), NOTE("note"), MEND("mend"), DO("do"),
        WHILE("while"), IF("if"), ELSE("else"), AND("and"),
        FASTEST("fastest"), SLOWEST("slowest"), LIGHTEST("lightest"), HEAVIEST("heaviest"),
        NEAR("near"), FAR("far"), OIL("oil"), MINUTE("minute"), NIGHT("night"),
        MISSING("missing"), WEAKEST("weakest");

        private static final Kind[] ALL = values();
        // A one ahead of the signs keeps the byte 0 apart from a kind without a text.
        private static final long START = 1;

        private final long code;

        Kind(String text) {
            long sum = START;
            for (int i = 0; i < text.length(); i++) {
                sum = withSign(sum, text.charAt(i));
            }
            code = sum;
        }

        /** The code of a text and one more sign: eight letters of 7 bits still fit a long. */
        static long withSign(long code, int sign) {
            return code * 128 + sign;
        }

        static Kind spelled(long code, Kind otherwise) {
            for (int i = 0; i < ALL.length; i++) {
                if (ALL[i].code == code) {
                    return ALL[i];
                }
            }
            return otherwise;
        }

        boolean isChoice() {
            return this == FASTEST || this == SLOWEST || this == LIGHTEST || this == HEAVIEST;
        }

        boolean isMeasure() {
            return this == NEAR || this == FAR || this == OIL || this == MINUTE || this == NIGHT
                    || this == MISSING || this == WEAKEST;
        }

        boolean isComparison() {
            return this == LESS || this == EQUAL || this == GREATER;
        }
    }

    /** The bytes that wait to be read as a book. */
    private static final class Tape {
        private final byte[] bytes = new byte[MOST_BYTES];
        private int length;

        boolean hasRoomFor(int more) {
            return length + more <= MOST_BYTES;
        }

        void append(int number) {
            for (int shift = 24; shift >= 0; shift -= 8) {
                if (length >= 0 && length < MOST_BYTES) {
                    bytes[length] = (byte) (number >>> shift);
                    length++;
                }
            }
        }

        /** The byte there, 0 to 255, or NONE at the end of the tape. */
        int byteAt(int position) {
            return position >= 0 && position < length ? bytes[position] & 255 : NONE;
        }
    }

    /** The tokens of a tape; the last one of them is END or BAD. */
    private static final class Tokens {
        private final Kind[] kinds = new Kind[MOST_TOKENS + 1];
        private final int[] positions = new int[MOST_TOKENS + 1];
        private final int[] numbers = new int[MOST_TOKENS + 1];
        private final long[] words = new long[MOST_TOKENS + 1];
        private int count;

        void scan(Tape tape) {
            count = 0;
            int position = 0;
            Kind kind = Kind.NAME;
            for (int i = 0; i <= MOST_TOKENS && kind != Kind.END && kind != Kind.BAD; i++) {
                position = skipBlanks(tape, position);
                int behind = findEnd(tape, position);
                kind = i < MOST_TOKENS || position >= tape.length
                        ? kindOf(tape, position, behind) : Kind.BAD;
                kinds[i] = kind;
                positions[i] = position;
                numbers[i] = kind == Kind.NUMBER ? valueOf(tape, position, behind) : 0;
                words[i] = kind == Kind.NAME ? codeOf(tape, position, behind) : 0;
                count = i + 1;
                position = behind;
            }
        }

        Kind kindAt(int token) {
            if (token < 0 || token >= count) {
                return Kind.BAD;
            }
            Kind kind = kinds[token];
            return kind == null ? Kind.BAD : kind;
        }

        int positionAt(int token) {
            return token >= 0 && token < count ? positions[token] : NONE;
        }

        int numberAt(int token) {
            return token >= 0 && token < count ? numbers[token] : 0;
        }

        long wordAt(int token) {
            return token >= 0 && token < count ? words[token] : 0;
        }

        /** Keeps whom or what the name at this token means, in the place of a number. */
        void resolve(int token, int number) {
            if (token >= 0 && token < count) {
                numbers[token] = number;
            }
        }

        private static int skipBlanks(Tape tape, int from) {
            int position = from;
            while (position < tape.length
                    && (tape.byteAt(position) == 32 || tape.byteAt(position) == 10)) {
                position++;
            }
            return position;
        }

        private static int findEnd(Tape tape, int from) {
            int first = tape.byteAt(from);
            int position = from + 1;
            if (isLetter(first)) {
                while (position < tape.length && isLetter(tape.byteAt(position))) {
                    position++;
                }
            } else if (isDigit(first)) {
                while (position < tape.length && isDigit(tape.byteAt(position))) {
                    position++;
                }
            }
            return position;
        }

        private static Kind kindOf(Tape tape, int from, int behind) {
            if (from >= tape.length) {
                return Kind.END;
            }
            int first = tape.byteAt(from);
            int size = behind - from;
            if (isLetter(first)) {
                return size > MOST_LETTERS
                        ? Kind.BAD : Kind.spelled(codeOf(tape, from, behind), Kind.NAME);
            }
            if (isDigit(first)) {
                return size > MOST_DIGITS ? Kind.BAD : Kind.NUMBER;
            }
            return Kind.spelled(codeOf(tape, from, behind), Kind.BAD);
        }

        private static long codeOf(Tape tape, int from, int behind) {
            long code = Kind.START;
            for (int position = from; position < behind; position++) {
                code = Kind.withSign(code, tape.byteAt(position));
            }
            return code;
        }

        private static int valueOf(Tape tape, int from, int behind) {
            int value = 0;
            for (int position = from; position < behind; position++) {
                value = value * 10 + tape.byteAt(position) - '0';
            }
            return value;
        }

        private static boolean isLetter(int sign) {
            return sign >= 'a' && sign <= 'z';
        }

        private static boolean isDigit(int sign) {
            return sign >= '0' && sign <= '9';
        }
    }

    /**
     * What a tape told: walkers, planks and plans. The acts of all plans stand in the order of
     * their first words; each knows that word's token, by which a run reads what it needs.
     */
    private static final class Book {
        private final Tokens tokens = new Tokens();
        private final long[] walkerNames = new long[MOST_WALKERS];
        private final int[] weights = new int[MOST_WALKERS];
        private final int[] paces = new int[MOST_WALKERS];
        private int walkers;
        private final int[] strengths = new int[MOST_PLANKS];
        private int planks;
        private final long[] planNames = new long[MOST_PLANS];
        private final int[] planActs = new int[MOST_PLANS];
        private int plans;
        private final int[] actTokens = new int[MOST_ACTS];
        private final int[] outerActs = new int[MOST_ACTS];
        private final int[] nextActs = new int[MOST_ACTS];
        private final int[] innerActs = new int[MOST_ACTS];
        private final int[] elseActs = new int[MOST_ACTS];
        private int acts;

        void clear() {
            walkers = 0;
            planks = 0;
            plans = 0;
            acts = 0;
        }

        void becomeFirst() {
            clear();
            for (int i = 0; i < FEWEST_PLANKS; i++) {
                addPlank(FIRST_STRENGTH);
            }
        }

        void addWalker(long name, int weight, int pace) {
            if (walkers < MOST_WALKERS) {
                walkerNames[walkers] = name;
                weights[walkers] = weight;
                paces[walkers] = pace;
                walkers++;
            }
        }

        void addPlank(int strength) {
            if (planks < MOST_PLANKS) {
                strengths[planks] = strength;
                planks++;
            }
        }

        void addPlan(long name, int firstAct) {
            if (plans < MOST_PLANS) {
                planNames[plans] = name;
                planActs[plans] = firstAct;
                plans++;
            }
        }

        /** The number of a new act, or NONE if there are too many. */
        int addAct(int token, int outer) {
            if (acts >= MOST_ACTS) {
                return NONE;
            }
            actTokens[acts] = token;
            outerActs[acts] = outer;
            nextActs[acts] = NONE;
            innerActs[acts] = NONE;
            elseActs[acts] = NONE;
            acts++;
            return acts - 1;
        }

        /** The act that a block begun with so many acts has first, or NONE if it is empty. */
        int firstSince(int actsBefore) {
            return acts > actsBefore ? actsBefore : NONE;
        }

        boolean hasAct(int act) {
            return act >= 0 && act < acts;
        }

        int findWalker(long name) {
            for (int i = 0; i < walkers; i++) {
                if (walkerNames[i] == name) {
                    return i;
                }
            }
            return NONE;
        }

        int findPlan(long name) {
            for (int i = 0; i < plans; i++) {
                if (planNames[i] == name) {
                    return i;
                }
            }
            return NONE;
        }

        int firstActOf(int plan) {
            return plan >= 0 && plan < plans ? planActs[plan] : NONE;
        }

        /** The act that a run comes to behind this one and all its blocks, or NONE. */
        int actBehind(int act) {
            int last = act;
            for (int level = 0; level <= MOST_BLOCKS && hasAct(last); level++) {
                if (nextActs[last] != NONE) {
                    return nextActs[last];
                }
                last = outerActs[last];
                if (hasAct(last) && tokens.kindAt(actTokens[last]) == Kind.WHILE) {
                    return last;
                }
            }
            return NONE;
        }
    }

    /**
     * Reads tokens as a book. A method that answers false has met error 1 at the token that the
     * reader stands at; of the errors 2 to 5 the first one is kept, as tokens are met in order.
     */
    private static final class Reader {
        private Tokens tokens;
        private Book book;
        private int at;
        private Kind kind;
        private int error;
        private int errorToken;

        Reader(Book book) {
            this.book = book;
            tokens = book.tokens;
            kind = Kind.BAD;
            errorToken = NONE;
        }

        void open(Tape tape, Book target) {
            book = target;
            tokens = target.tokens;
            book.clear();
            tokens.scan(tape);
            at = 0;
            kind = tokens.kindAt(0);
            error = 0;
            errorToken = NONE;
        }

        /** The error in all, or 0, when the tokens did fit as far as they were read, or did not. */
        int close(boolean fits) {
            if (!fits || kind != Kind.END) {
                error = 1;
                errorToken = at;
            }
            return error;
        }

        int errorPosition() {
            return tokens.positionAt(errorToken);
        }

        boolean readWalkers() {
            for (int i = 0; i < MOST_TOKENS && kind == Kind.WALKER; i++) {
                int first = at;
                boolean fits = take(Kind.WALKER) && takeNewName(book.walkers >= MOST_WALKERS)
                        && take(Kind.WEIGHS) && takeNumber(1, MOST_WEIGHT)
                        && take(Kind.TAKES) && takeNumber(1, MOST_MINUTES)
                        && take(Kind.SEMICOLON);
                if (!fits) {
                    return false;
                }
                book.addWalker(tokens.wordAt(first + 1), tokens.numberAt(first + 3),
                        tokens.numberAt(first + 5));
            }
            return true;
        }

        boolean readPlanks() {
            if (!take(Kind.PLANKS) || !takePlank()) {
                return false;
            }
            for (int i = 0; i < MOST_TOKENS && kind == Kind.COMMA; i++) {
                if (!take(Kind.COMMA) || !takePlank()) {
                    return false;
                }
            }
            if (book.planks < FEWEST_PLANKS) {
                mark(5);
            }
            return take(Kind.SEMICOLON);
        }

        boolean readPlans() {
            for (int i = 0; i < MOST_TOKENS && kind == Kind.PLAN; i++) {
                int name = at + 1;
                int actsBefore = book.acts;
                boolean fits = take(Kind.PLAN) && takeNewName(book.plans >= MOST_PLANS)
                        && readBlock(NONE, 1);
                if (!fits) {
                    return false;
                }
                // Only now, so that a block can't do the plan that it belongs to.
                book.addPlan(tokens.wordAt(name), book.firstSince(actsBefore));
            }
            return true;
        }

        private boolean readBlock(int outer, int depth) {
            if (depth > MOST_BLOCKS || !take(Kind.OPEN)) {
                return false;
            }
            int last = NONE;
            for (int i = 0; i < MOST_TOKENS && kind != Kind.CLOSE; i++) {
                int act = book.addAct(at, outer);
                if (act == NONE) {
                    mark(4);
                }
                if (book.hasAct(last)) {
                    book.nextActs[last] = act;
                }
                last = act;
                if (!readAct(act, depth)) {
                    return false;
                }
            }
            return take(Kind.CLOSE);
        }

        private boolean readAct(int act, int depth) {
            Kind first = kind;
            switch (first) {
                case SEND:
                    return take(first) && takeWho()
                            && (kind != Kind.WITH || take(Kind.WITH) && takeWho())
                            && take(Kind.SEMICOLON);
                case REST:
                case NOTE:
                case MEND:
                    return take(first) && takeValue() && take(Kind.SEMICOLON);
                case DO:
                    return take(first) && takePlanName() && take(Kind.SEMICOLON);
                case WHILE:
                    return take(first) && takeCompares() && readBlockOf(act, depth, book.innerActs);
                case IF:
                    return take(first) && takeCompares() && readBlockOf(act, depth, book.innerActs)
                            && (kind != Kind.ELSE
                            || take(Kind.ELSE) && readBlockOf(act, depth, book.elseActs));
                default:
                    return false;
            }
        }

        /** Reads a block of this act, and keeps in the row which act it has first. */
        private boolean readBlockOf(int act, int depth, int[] firstActs) {
            int actsBefore = book.acts;
            boolean fits = readBlock(act, depth + 1);
            if (act >= 0 && act < firstActs.length) {
                firstActs[act] = book.firstSince(actsBefore);
            }
            return fits;
        }

        private boolean takeCompares() {
            for (int i = 0; i < MOST_TOKENS; i++) {
                if (!takeValue() || !kind.isComparison() || !take(kind) || !takeValue()) {
                    return false;
                }
                if (kind != Kind.AND) {
                    return true;
                }
                take(Kind.AND);
            }
            return false;
        }

        private boolean takeValue() {
            if (kind.isMeasure()) {
                return take(kind);
            }
            markOutside(0, MOST_VALUE);
            return take(Kind.NUMBER);
        }

        private boolean takeWho() {
            if (kind.isChoice()) {
                return take(kind);
            }
            int walker = book.findWalker(tokens.wordAt(at));
            if (walker == NONE) {
                mark(3);
            }
            tokens.resolve(at, walker);
            return take(Kind.NAME);
        }

        private boolean takePlanName() {
            int plan = book.findPlan(tokens.wordAt(at));
            if (plan == NONE) {
                mark(3);
            }
            tokens.resolve(at, plan);
            return take(Kind.NAME);
        }

        private boolean takeNewName(boolean tooMany) {
            long name = tokens.wordAt(at);
            if (book.findWalker(name) != NONE || book.findPlan(name) != NONE) {
                mark(2);
            } else if (tooMany) {
                mark(4);
            }
            return take(Kind.NAME);
        }

        private boolean takePlank() {
            if (book.planks >= MOST_PLANKS) {
                mark(4);
            }
            book.addPlank(tokens.numberAt(at));
            return takeNumber(1, MOST_STRENGTH);
        }

        private boolean takeNumber(int least, int most) {
            markOutside(least, most);
            return take(Kind.NUMBER);
        }

        private void markOutside(int least, int most) {
            int number = tokens.numberAt(at);
            if (number < least || number > most) {
                mark(5);
            }
        }

        private boolean take(Kind due) {
            if (kind != due) {
                return false;
            }
            at++;
            kind = tokens.kindAt(at);
            return true;
        }

        private void mark(int number) {
            if (error == 0) {
                error = number;
                errorToken = at;
            }
        }
    }

    /** Where all stand, and in what state the planks, the lamp and the night are. */
    private static final class Bridge {
        private int walkers;
        private final int[] weights = new int[MOST_WALKERS];
        private final int[] paces = new int[MOST_WALKERS];
        // The walkers who stand near, one bit each.
        private int near;
        private int planks;
        private final int[] strengths = new int[MOST_PLANKS];
        private final boolean[] rotten = new boolean[MOST_PLANKS];
        private boolean lampNear;
        private int oil;
        private int night;
        private int minute;
        private int crossings;
        private int falls;
        private int notes;
        // The latest notes; the note with the number n has the place n % KEPT_NOTES.
        private final int[] kept = new int[KEPT_NOTES];

        void begin(Book book) {
            walkers = book.walkers;
            System.arraycopy(book.weights, 0, weights, 0, MOST_WALKERS);
            System.arraycopy(book.paces, 0, paces, 0, MOST_WALKERS);
            near = (1 << walkers) - 1;
            planks = book.planks;
            System.arraycopy(book.strengths, 0, strengths, 0, MOST_PLANKS);
            for (int plank = 0; plank < MOST_PLANKS; plank++) {
                rotten[plank] = false;
            }
            lampNear = true;
            oil = FULL_OIL;
            night = 0;
            minute = 0;
            crossings = 0;
            falls = 0;
            notes = 0;
        }

        void copyFrom(Bridge other) {
            walkers = other.walkers;
            System.arraycopy(other.weights, 0, weights, 0, MOST_WALKERS);
            System.arraycopy(other.paces, 0, paces, 0, MOST_WALKERS);
            near = other.near;
            planks = other.planks;
            System.arraycopy(other.strengths, 0, strengths, 0, MOST_PLANKS);
            for (int plank = 0; plank < MOST_PLANKS; plank++) {
                rotten[plank] = other.rotten[plank];
            }
            lampNear = other.lampNear;
            oil = other.oil;
            night = other.night;
            minute = other.minute;
            crossings = other.crossings;
            falls = other.falls;
            notes = other.notes;
            System.arraycopy(other.kept, 0, kept, 0, KEPT_NOTES);
        }

        boolean hasWalker(int walker) {
            return walker >= 0 && walker < walkers;
        }

        boolean standsNear(int walker) {
            return (near >>> walker & 1) == 1;
        }

        int countNear() {
            return Integer.bitCount(near);
        }

        int countFar() {
            return walkers - Integer.bitCount(near);
        }

        boolean nightIsWeak() {
            return night % 3 == 2;
        }

        int minutesInAll() {
            return night * NIGHT_MINUTES + minute;
        }

        int loadOf(int plank) {
            if (plank < 0 || plank >= planks) {
                return 0;
            }
            int load = nightIsWeak() ? strengths[plank] - WEAK_NIGHT_LOSS : strengths[plank];
            return load > 0 ? load : 0;
        }

        int countMissing() {
            int missing = 0;
            for (int plank = 0; plank < planks; plank++) {
                if (strengths[plank] == 0) {
                    missing++;
                }
            }
            return missing;
        }

        boolean canBePassed() {
            for (int plank = 1; plank < planks; plank++) {
                if (strengths[plank] == 0 && strengths[plank - 1] == 0) {
                    return false;
                }
            }
            return true;
        }

        /** The weakest plank that is not missing, or NONE; rotten ones are looked at if so told. */
        int findWeakest(boolean rottenToo) {
            int weakest = NONE;
            int least = MOST_STRENGTH + 1;
            for (int plank = 0; plank < planks; plank++) {
                int strength = strengths[plank];
                if (strength > 0 && strength < least && (rottenToo || !rotten[plank])) {
                    weakest = plank;
                    least = strength;
                }
            }
            return weakest;
        }

        /** How many minutes the slower one of both takes; the other one is NONE for one alone. */
        int minutesFor(int walker, int other) {
            int minutes = hasWalker(walker) ? paces[walker] : 0;
            return hasWalker(other) && paces[other] > minutes ? paces[other] : minutes;
        }

        private int weightFor(int walker, int other) {
            int weight = hasWalker(walker) ? weights[walker] : 0;
            return hasWalker(other) ? weight + weights[other] : weight;
        }

        boolean canGo(int walker, int other) {
            int minutes = minutesFor(walker, other);
            return hasWalker(walker) && standsNear(walker) == lampNear
                    && (other == NONE || hasWalker(other) && standsNear(other) == lampNear)
                    && canBePassed() && minutes <= oil && minute + minutes <= NIGHT_MINUTES;
        }

        /** Makes a crossing that can be made; whether it leads to the other side. */
        boolean go(int walker, int other) {
            boolean over = treadAll(weightFor(walker, other));
            if (over) {
                near ^= 1 << walker;
                near ^= other == NONE ? 0 : 1 << other;
                lampNear = !lampNear;
                crossings++;
            } else {
                falls++;
            }
            int minutes = minutesFor(walker, other);
            oil -= minutes;
            letGoBy(minutes);
            return over;
        }

        /** Whether they come over all planks, which wear and break under this weight. */
        private boolean treadAll(int weight) {
            boolean missingBefore = false;
            for (int i = 0; i < planks; i++) {
                int plank = lampNear ? i : planks - 1 - i;
                int load = loadOf(plank);
                if (strengths[plank] > 0 && load < weight) {
                    lay(plank, 0);
                } else if (strengths[plank] > 1 && load < 2 * weight) {
                    strengths[plank]--;
                }
                boolean missing = strengths[plank] == 0;
                if (missing && missingBefore) {
                    return false;
                }
                missingBefore = missing;
            }
            return true;
        }

        /** How many nights begin in these minutes. */
        int letGoBy(int minutes) {
            minute += minutes;
            int nights = 0;
            while (minute >= NIGHT_MINUTES && nights <= LONGEST_REST) {
                minute -= NIGHT_MINUTES;
                beginNight();
                nights++;
            }
            return nights;
        }

        private void beginNight() {
            night++;
            oil = FULL_OIL;
            for (int plank = 0; plank < planks; plank++) {
                if (rotten[plank]) {
                    strengths[plank]--;
                    rotten[plank] = strengths[plank] > 0;
                }
            }
            if (nightIsWeak()) {
                int weakest = findWeakest(false);
                if (weakest != NONE) {
                    rotten[weakest] = true;
                }
            }
        }

        void lay(int plank, int strength) {
            if (plank >= 0 && plank < planks) {
                strengths[plank] = strength;
                rotten[plank] = false;
            }
        }

        /** Whether the first missing plank could be mended with this strength; then it is. */
        boolean mendFirst(int strength) {
            if (strength < 1 || strength > MOST_STRENGTH) {
                return false;
            }
            for (int plank = 0; plank < planks; plank++) {
                if (strengths[plank] == 0) {
                    lay(plank, strength);
                    return true;
                }
            }
            return false;
        }

        void writeNote(int value) {
            int place = notes % KEPT_NOTES;
            if (place >= 0) {
                kept[place] = value;
            }
            notes++;
        }

        int readNote(int back) {
            int place = (notes - 1 - back) % KEPT_NOTES;
            return place >= 0 ? kept[place] : 0;
        }

        /** The first of the walkers at the lamp, but for one, who is so most of all; or NONE. */
        int choose(Kind how, int besides) {
            int chosen = NONE;
            int best = 0;
            for (int walker = 0; walker < walkers; walker++) {
                if (walker != besides && standsNear(walker) == lampNear) {
                    int rank = rankOf(how, walker);
                    if (chosen == NONE || rank > best) {
                        chosen = walker;
                        best = rank;
                    }
                }
            }
            return chosen;
        }

        private int rankOf(Kind how, int walker) {
            if (!hasWalker(walker)) {
                return 0;
            }
            switch (how) {
                case FASTEST:
                    return -paces[walker];
                case SLOWEST:
                    return paces[walker];
                case LIGHTEST:
                    return -weights[walker];
                default:
                    return weights[walker];
            }
        }

        int measure(Kind what) {
            switch (what) {
                case NEAR:
                    return countNear();
                case FAR:
                    return countFar();
                case OIL:
                    return oil;
                case MINUTE:
                    return minute;
                case NIGHT:
                    return night;
                case MISSING:
                    return countMissing();
                default:
                    int weakest = findWeakest(true);
                    return weakest == NONE ? 0 : strengths[weakest];
            }
        }
    }

    /** Runs plans: on the bridge itself, or on a copy to see what would be. */
    private static final class Run {
        // Far above the steps of any run: at most 100 acts, and one step back for each do of them.
        private static final int MOST_STEPS = 1000;

        private Book book;
        private Bridge bridge;
        // The do acts of which the plans are still being done.
        private final int[] opened = new int[MOST_PLANS];
        private int depth;
        private int at;

        Run(Book book, Bridge bridge) {
            this.book = book;
            this.bridge = bridge;
        }

        /** Runs a plan of this book there; how many acts were done. */
        int perform(Book plans, Bridge there, int plan) {
            book = plans;
            bridge = there;
            depth = 0;
            at = book.firstActOf(plan);
            int done = 0;
            for (int step = 0; step < MOST_STEPS && done < MOST_ACTS_DONE; step++) {
                if (book.hasAct(at)) {
                    if (!act(at)) {
                        return done;
                    }
                    done++;
                } else if (depth > 0) {
                    depth--;
                    at = book.actBehind(opened[depth]);
                } else {
                    return done;
                }
            }
            return done;
        }

        /** Does one act, and goes to the one behind it; false if it can't be done. */
        private boolean act(int act) {
            int token = book.actTokens[act];
            boolean done = true;
            at = book.actBehind(act);
            switch (book.tokens.kindAt(token)) {
                case SEND:
                    done = send(token);
                    break;
                case REST:
                    restFor(valueAt(token + 1));
                    break;
                case NOTE:
                    bridge.writeNote(valueAt(token + 1));
                    break;
                case MEND:
                    done = bridge.mendFirst(valueAt(token + 1));
                    break;
                case DO:
                    enterPlan(act, book.tokens.numberAt(token + 1));
                    break;
                case WHILE:
                    if (holds(token + 1)) {
                        at = book.innerActs[act] == NONE ? act : book.innerActs[act];
                    }
                    break;
                default:
                    int first = holds(token + 1) ? book.innerActs[act] : book.elseActs[act];
                    at = first == NONE ? at : first;
                    break;
            }
            return done;
        }

        private boolean send(int token) {
            int walker = whoAt(token + 1, NONE);
            int other = NONE;
            if (book.tokens.kindAt(token + 2) == Kind.WITH) {
                other = whoAt(token + 3, walker);
                if (other == NONE || other == walker) {
                    return false;
                }
            }
            if (walker == NONE || !bridge.canGo(walker, other)) {
                return false;
            }
            bridge.go(walker, other);
            return true;
        }

        private int whoAt(int token, int besides) {
            Kind how = book.tokens.kindAt(token);
            return how == Kind.NAME ? book.tokens.numberAt(token) : bridge.choose(how, besides);
        }

        private void restFor(int minutes) {
            if (minutes > 0) {
                bridge.letGoBy(minutes < NIGHT_MINUTES ? minutes : NIGHT_MINUTES);
            }
        }

        private void enterPlan(int act, int plan) {
            // A plan does only plans ahead of it, so the row is long enough.
            if (depth < MOST_PLANS) {
                opened[depth] = act;
                depth++;
                at = book.firstActOf(plan);
            }
        }

        /** Whether all compares are so, of which the first one begins at this token. */
        private boolean holds(int first) {
            for (int token = first; token < MOST_TOKENS; token += 4) {
                int left = valueAt(token);
                int right = valueAt(token + 2);
                Kind sign = book.tokens.kindAt(token + 1);
                boolean so = sign == Kind.LESS ? left < right
                        : sign == Kind.GREATER ? left > right : left == right;
                if (!so) {
                    return false;
                }
                if (book.tokens.kindAt(token + 3) != Kind.AND) {
                    return true;
                }
            }
            return true;
        }

        private int valueAt(int token) {
            Kind what = book.tokens.kindAt(token);
            return what == Kind.NUMBER ? book.tokens.numberAt(token) : bridge.measure(what);
        }
    }

    /**
     * In how few minutes all could be far, for each set of walkers near and each side of the lamp.
     * It depends only on how many minutes the walkers take, so it is worked out once for a book.
     */
    private static final class Ways {
        private static final int UNKNOWN = 1000000;
        private static final int STATES = 2 << MOST_WALKERS;

        private final Bridge bridge;
        // Twice the set of walkers near, and one more if the lamp is near.
        private final int[] fewest = new int[STATES];
        private boolean ready;

        Ways(Bridge bridge) {
            this.bridge = bridge;
        }

        void forget() {
            ready = false;
        }

        int minutesLeft() {
            prepare();
            return known(bridge.near, bridge.lampNear);
        }

        /** The smallest number of a walker in a crossing with which the best order can begin. */
        int findFirst() {
            prepare();
            int least = known(bridge.near, bridge.lampNear);
            for (int walker = 0; walker < bridge.walkers; walker++) {
                for (int other = walker; other < bridge.walkers; other++) {
                    if (through(bridge.near, bridge.lampNear, walker, other) == least) {
                        return walker;
                    }
                }
            }
            return NONE;
        }

        /** With whom the first one crosses in such an order; NONE if alone. */
        int findSecond(int first) {
            int least = known(bridge.near, bridge.lampNear);
            if (through(bridge.near, bridge.lampNear, first, first) == least) {
                return NONE;
            }
            for (int other = 0; other < bridge.walkers; other++) {
                if (through(bridge.near, bridge.lampNear, first, other) == least) {
                    return other;
                }
            }
            return NONE;
        }

        private void prepare() {
            if (ready) {
                return;
            }
            Arrays.fill(fewest, UNKNOWN);
            fewest[0] = 0;
            fewest[1] = 0;
            boolean better = true;
            // A way without a state twice has fewer steps than there are states.
            for (int round = 0; round < STATES && better; round++) {
                better = improveAll();
            }
            ready = true;
        }

        /** One round; few walkers near come first, so that a second round mostly finds nothing. */
        private boolean improveAll() {
            boolean better = false;
            int sets = 1 << bridge.walkers;
            for (int count = 1; count <= bridge.walkers; count++) {
                for (int near = 1; near < sets; near++) {
                    if (Integer.bitCount(near) == count) {
                        better |= improve(near, true);
                    }
                }
                for (int near = 1; near < sets; near++) {
                    if (Integer.bitCount(near) == count - 1) {
                        better |= improve(near, false);
                    }
                }
            }
            return better;
        }

        private boolean improve(int near, boolean lampNear) {
            int least = known(near, lampNear);
            boolean better = false;
            for (int walker = 0; walker < bridge.walkers; walker++) {
                for (int other = walker; other < bridge.walkers; other++) {
                    int minutes = through(near, lampNear, walker, other);
                    if (minutes < least) {
                        least = minutes;
                        better = true;
                    }
                }
            }
            int state = lampNear ? near * 2 + 1 : near * 2;
            if (better && state >= 0 && state < STATES) {
                fewest[state] = least;
            }
            return better;
        }

        /** The fewest minutes if these two (or one, if they are the same) cross at once. */
        private int through(int near, boolean lampNear, int walker, int other) {
            int both = 1 << walker | 1 << other;
            int there = lampNear ? near : ~near;
            if ((there & both) != both) {
                return UNKNOWN;
            }
            return bridge.minutesFor(walker, other) + known(near ^ both, !lampNear);
        }

        private int known(int near, boolean lampNear) {
            int state = lampNear ? near * 2 + 1 : near * 2;
            return state >= 0 && state < STATES ? fewest[state] : UNKNOWN;
        }
    }
}
