import java.util.ArrayList;
import java.util.List;
import java.util.Random;

/** Random books and calls (the same ones each time): the class has to answer as PlainModel does. */
public final class RandomTest {

    private static final String[] NAMES =
            {"a", "b", "cat", "dog", "eel", "fox", "gnu", "hen", "i", "jj", "kkkkkkkk"};
    private static final String[] PLANS = {"p", "q", "over", "slow", "back", "mendall", "z", "y"};
    private static final String[] CHOICES = {"fastest", "slowest", "lightest", "heaviest"};
    private static final String[] MEASURES =
            {"near", "far", "oil", "minute", "night", "missing", "weakest"};
    private static final String[] ANY = {"walker", "weighs", "takes", "planks", "plan", "send",
        "with", "rest", "note", "mend", "do", "while", "if", "else", "and", "fastest", "oil", "far",
        "a", "p", "nobody", "toolongword", "0", "7", "100", "1234", "(", ")", ";", ",", "<", "=",
        ">", "#", "\u0000", "\u00e9", "A"};

    private final Random random;
    private final List<String> text = new ArrayList<>();
    private int walkers;
    private int plans;
    private int actsLeft;

    private RandomTest(long seed) {
        random = new Random(seed);
    }

    public static void main(String[] args) {
        Checks.about("random books");
        for (int seed = 0; seed < 6000; seed++) {
            new RandomTest(seed).compareErrors(seed);
        }
        Checks.about("random calls");
        for (int seed = 0; seed < 2500; seed++) {
            new RandomTest(1000000 + seed).compareCalls(seed);
        }
        Checks.end();
    }

    // ---- books

    private String oneOf(String[] words) {
        return words[random.nextInt(words.length)];
    }

    private int between(int least, int most) {
        return least + random.nextInt(most - least + 1);
    }

    private void add(String... tokens) {
        for (String token : tokens) {
            text.add(token);
        }
    }

    /** A book without an error, or nearly so: it may be too large. */
    private void makeBook(int mostWalkers, int mostPlanks, int mostPlans, int mostActs) {
        text.clear();
        walkers = random.nextInt(mostWalkers + 1);
        for (int i = 0; i < walkers; i++) {
            add("walker", NAMES[i], "weighs", "" + between(1, 9), "takes",
                    "" + between(1, random.nextBoolean() ? 20 : 5), ";");
        }
        int planks = between(4, mostPlanks);
        int strongest = random.nextBoolean() ? 30 : between(1, 12);
        for (int i = 0; i < planks; i++) {
            add(i == 0 ? "planks" : ",", "" + between(1, strongest));
        }
        add(";");
        int number = random.nextInt(mostPlans + 1);
        actsLeft = mostActs;
        for (plans = 0; plans < number; plans++) {
            add("plan", PLANS[plans]);
            addBlock(1, between(0, 7));
        }
    }

    private void addBlock(int depth, int acts) {
        add("(");
        for (int i = 0; i < acts && actsLeft > 0; i++) {
            actsLeft--;
            addAct(depth);
        }
        add(")");
    }

    private void addAct(int depth) {
        int kind = random.nextInt(12);
        if (kind < 5) {
            add("send", who());
            if (random.nextInt(5) < 3) {
                add("with", who());
            }
            add(";");
        } else if (kind < 8) {
            add(new String[] {"rest", "note", "mend"}[kind - 5], value(), ";");
        } else if (kind == 8 && plans > 0) {
            add("do", PLANS[random.nextInt(plans)], ";");
        } else if (kind > 8 && depth < 3) {
            add(kind == 9 ? "while" : "if");
            addCompare();
            while (random.nextInt(3) == 0) {
                add("and");
                addCompare();
            }
            addBlock(depth + 1, between(0, 4));
            if (kind > 9 && random.nextBoolean()) {
                add("else");
                addBlock(depth + 1, between(0, 4));
            }
        } else {
            add("note", value(), ";");
        }
    }

    private void addCompare() {
        add(value(), oneOf(new String[] {"<", "=", ">", ">"}), value());
    }

    private String who() {
        return walkers == 0 || random.nextInt(3) > 0 ? oneOf(CHOICES) : NAMES[random.nextInt(walkers)];
    }

    private String value() {
        return random.nextBoolean() ? oneOf(MEASURES)
                : "" + (random.nextBoolean() ? between(0, 9) : between(0, 99));
    }

    private void spoil() {
        int at = random.nextInt(text.size() + 1);
        int how = random.nextInt(6);
        if (how == 0 && at < text.size()) {
            text.remove(at);
        } else if (how == 1) {
            text.add(at, oneOf(ANY));
        } else if (how == 2 && at < text.size()) {
            text.set(at, oneOf(ANY));
        } else if (at < text.size()) {
            // Another token of the same sort, which the grammar takes: for the errors 2 to 5.
            String token = text.get(at);
            if (token.matches("[0-9]+")) {
                text.set(at, oneOf(new String[] {"0", "1", "9", "10", "20", "21", "30", "31", "99",
                    "100", "007", "999"}));
            } else if (token.matches("[a-z]+") && !String.join(" ", ANY).contains(token)) {
                text.set(at, oneOf(random.nextBoolean() ? NAMES : PLANS));
            } else if (token.equals(",")) {
                text.set(at, ", 5 ,");
            }
        }
    }

    private String join() {
        StringBuilder all = new StringBuilder();
        boolean airy = random.nextInt(4) == 0;
        for (String token : text) {
            boolean apart = all.length() > 0 && Character.isLetterOrDigit(token.charAt(0))
                    && Character.isLetterOrDigit(all.charAt(all.length() - 1));
            if (apart || airy && random.nextInt(3) == 0) {
                all.append(random.nextInt(5) == 0 ? "\n" : " ");
            }
            all.append(token);
        }
        if (random.nextInt(3) == 0) {
            all.append("  \n");
        }
        return all.substring(0, Math.min(1600, all.length()));
    }

    private void compareErrors(int seed) {
        int size = random.nextInt(4);
        makeBook(size == 0 ? 9 : 4, size == 1 ? 14 : 6, size == 2 ? 8 : 4,
                size == 3 ? 70 : between(1, 59));
        for (int i = random.nextInt(3); i > 0; i--) {
            spoil();
        }
        String book = join();
        PlankBridge x = new PlankBridge();
        PlainModel y = new PlainModel();
        y.tape.append(book);
        Checks.due("teach() of book " + seed + ": " + book, Checks.teach(x, book), y.teach());
        Checks.due("errorAt() of book " + seed + ": " + book, x.errorAt(), y.errorAt);
        Checks.due("digest() of book " + seed + ": " + book, x.digest(), y.digest());
    }

    // ---- calls

    private PlankBridge x;
    private PlainModel y;

    private void compareCalls(int seed) {
        x = new PlankBridge();
        y = new PlainModel();
        teachBoth(seed);
        for (int i = 0; i < 60; i++) {
            String call = "run " + seed + ", call " + i + ", ";
            change(call, seed);
            ask(call);
        }
    }

    private void teachBoth(int seed) {
        makeBook(8, 12, 6, 60);
        String book = join();
        y.tape.append(book);
        Checks.due("teach() of run " + seed + ": " + book, Checks.teach(x, book), y.teach());
    }

    private void change(String call, int seed) {
        PlainModel.State s = y.state;
        int kind = random.nextInt(20);
        int w = between(0, Math.max(0, s.walkers.size() - 1));
        int v = between(0, Math.max(0, s.walkers.size() - 1));
        if (kind < 6) {
            cross(call + "crossAlone(" + w + ")", listOf(w, w));
        } else if (kind < 11) {
            cross(call + "crossTogether(" + w + ", " + v + ")", listOf(w, v));
        } else if (kind < 14) {
            int m = random.nextBoolean() ? between(1, 30) : between(1, 600);
            Checks.due(call + "rest(" + m + ")", x.rest(m), s.pass(m));
        } else if (kind < 16) {
            int p = random.nextInt(s.strengths.size());
            int strength = between(1, random.nextBoolean() ? 4 : 30);
            Checks.due(call + "layPlank", x.layPlank(p, strength), s.strengths.get(p));
            s.strengths.set(p, strength);
            s.rotten.set(p, false);
        } else if (kind < 19 && !y.planNames.isEmpty()) {
            int p = random.nextInt(y.planNames.size());
            Checks.due(call + "runPlan(" + p + ")", x.runPlan(p), y.run(s, p));
        } else if (random.nextInt(30) == 0) {
            teachBoth(seed);
        }
    }

    private List<Integer> listOf(int w, int v) {
        List<Integer> who = new ArrayList<>();
        who.add(w);
        if (w != v) {
            who.add(v);
        }
        return who;
    }

    private void cross(String call, List<Integer> who) {
        PlainModel.State s = y.state;
        if (s.walkers.isEmpty()) {
            return;
        }
        boolean alone = who.size() == 1;
        int w = who.get(0);
        boolean can = s.canBeMade(who);
        Checks.due(call + " can", alone ? x.canCrossAlone(w) : x.canCrossTogether(w, who.get(1)),
                can && s.copy().cross(who));
        String got;
        try {
            got = "" + (alone ? x.crossAlone(w) : x.crossTogether(w, who.get(1)));
        } catch (IllegalStateException e) {
            got = "throws";
        }
        Checks.due(call, got, can ? "" + s.cross(who) : "throws");
    }

    private void ask(String call) {
        PlainModel.State s = y.state;
        Checks.due(call + "digest()", x.digest(), y.digest());
        int[] ways = y.ways();
        Checks.due(call + "fewestMinutes()", x.fewestMinutes(), ways[0]);
        if (s.countNear() > 0) {
            Checks.due(call + "firstToCross()", x.firstToCross(), ways[1]);
            Checks.due(call + "secondToCross()", x.secondToCross(), ways[2]);
        }
        double sum = s.strengths.stream().mapToInt(Integer::intValue).sum();
        Checks.due(call + "meanStrength()", x.meanStrength(), sum / s.strengths.size());
        int weakest = s.weakest();
        if (weakest >= 0) {
            Checks.due(call + "weakestPlank()", x.weakestPlank(), weakest);
            Checks.due(call + "heaviestLoad()", x.heaviestLoad(), s.bears(weakest));
        }
        askPlans(call);
    }

    private void askPlans(String call) {
        int best = -1;
        int[] of = null;
        for (int p = 0; p < y.planNames.size(); p++) {
            PlainModel.State s = y.state.copy();
            int before = s.gone;
            int acts = y.run(s, p);
            int[] now = {s.walkers.size() - s.countNear(), s.gone - before};
            Checks.due(call + "actsOfPlan(" + p + ")", x.actsOfPlan(p), acts);
            Checks.due(call + "farBehindPlan(" + p + ")", x.farBehindPlan(p), now[0]);
            Checks.due(call + "minutesOfPlan(" + p + ")", x.minutesOfPlan(p), now[1]);
            if (of == null || now[0] > of[0] || now[0] == of[0] && now[1] < of[1]) {
                best = p;
                of = now;
            }
        }
        if (best >= 0) {
            Checks.due(call + "bestPlan()", x.bestPlan(), best);
        }
    }
}
