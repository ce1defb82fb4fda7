import java.util.ArrayDeque;
import java.util.ArrayList;
import java.util.Arrays;
import java.util.Comparator;
import java.util.Deque;
import java.util.HashMap;
import java.util.HashSet;
import java.util.List;
import java.util.Map;
import java.util.PriorityQueue;
import java.util.Set;
import java.util.regex.Matcher;
import java.util.regex.Pattern;

/**
 * The document once more, written another way and with the Java library: a stack of grammar
 * symbols finds error 1, the words ahead of a token find the others, and plans are run straight
 * from their texts. RandomTest compares it with the class.
 */
final class PlainModel {

    private static final Set<String> KEYWORDS = new HashSet<>(Arrays.asList((
            "walker weighs takes planks plan send with rest note mend do while if else and fastest "
            + "slowest lightest heaviest near far oil minute night missing weakest").split(" ")));
    private static final List<String> CHOICES =
            Arrays.asList("fastest", "slowest", "lightest", "heaviest");
    private static final List<String> MEASURES =
            Arrays.asList("near", "far", "oil", "minute", "night", "missing", "weakest");
    private static final Pattern TOKEN = Pattern.compile("[a-z]+|[0-9]+|[();,<>=]");

    static final class State {
        List<int[]> walkers = new ArrayList<>();
        List<Boolean> near = new ArrayList<>();
        List<Integer> strengths = new ArrayList<>();
        List<Boolean> rotten = new ArrayList<>();
        boolean lampNear = true;
        int oil = 60;
        int night = 0;
        int minute = 0;
        int crossings = 0;
        int falls = 0;
        List<Integer> notes = new ArrayList<>();
        int gone = 0;

        State copy() {
            State s = new State();
            s.walkers = walkers;
            s.near = new ArrayList<>(near);
            s.strengths = new ArrayList<>(strengths);
            s.rotten = new ArrayList<>(rotten);
            s.lampNear = lampNear;
            s.oil = oil;
            s.night = night;
            s.minute = minute;
            s.crossings = crossings;
            s.falls = falls;
            s.notes = new ArrayList<>(notes);
            s.gone = gone;
            return s;
        }

        boolean weak() {
            return night % 3 == 2;
        }

        int bears(int plank) {
            return Math.max(0, strengths.get(plank) - (weak() ? 3 : 0));
        }

        int missing() {
            return (int) strengths.stream().filter(s -> s == 0).count();
        }

        int countNear() {
            return (int) near.stream().filter(n -> n).count();
        }

        boolean passable() {
            for (int i = 0; i + 1 < strengths.size(); i++) {
                if (strengths.get(i) + strengths.get(i + 1) == 0) {
                    return false;
                }
            }
            return true;
        }

        int weakest() {
            int least = strengths.stream().filter(s -> s > 0).min(Comparator.naturalOrder()).orElse(0);
            return least == 0 ? -1 : strengths.indexOf(least);
        }

        int minutesOf(List<Integer> who) {
            return who.stream().mapToInt(w -> walkers.get(w)[1]).max().getAsInt();
        }

        boolean canBeMade(List<Integer> who) {
            int m = minutesOf(who);
            return who.stream().allMatch(w -> near.get(w) == lampNear) && passable()
                    && oil >= m && 120 - minute >= m;
        }

        boolean cross(List<Integer> who) {
            int weight = who.stream().mapToInt(w -> walkers.get(w)[0]).sum();
            List<Integer> way = new ArrayList<>();
            for (int i = 0; i < strengths.size(); i++) {
                way.add(lampNear ? way.size() : 0, i);
            }
            boolean fell = false;
            for (int i = 0; i < way.size() && !fell; i++) {
                int plank = way.get(i);
                int strength = strengths.get(plank);
                if (strength > 0) {
                    if (bears(plank) < weight) {
                        strengths.set(plank, 0);
                        rotten.set(plank, false);
                    } else if (bears(plank) < weight + weight) {
                        strengths.set(plank, Math.max(1, strength - 1));
                    }
                }
                fell = i > 0 && strengths.get(plank) == 0 && strengths.get(way.get(i - 1)) == 0;
            }
            if (fell) {
                falls++;
            } else {
                for (int w : who) {
                    near.set(w, !near.get(w));
                }
                lampNear = !lampNear;
                crossings++;
            }
            oil -= minutesOf(who);
            pass(minutesOf(who));
            return !fell;
        }

        int pass(int minutes) {
            int begun = 0;
            for (int i = 0; i < minutes; i++) {
                gone++;
                minute++;
                if (minute == 120) {
                    minute = 0;
                    dawn();
                    begun++;
                }
            }
            return begun;
        }

        private void dawn() {
            night++;
            oil = 60;
            int weakest = -1;
            for (int i = 0; i < strengths.size(); i++) {
                if (rotten.get(i)) {
                    strengths.set(i, strengths.get(i) - 1);
                    rotten.set(i, strengths.get(i) != 0);
                }
                if (!rotten.get(i) && strengths.get(i) != 0
                        && (weakest < 0 || strengths.get(i) < strengths.get(weakest))) {
                    weakest = i;
                }
            }
            if (weak() && weakest >= 0) {
                rotten.set(weakest, true);
            }
        }
    }

    /** The end of a run of a plan. */
    private static final class Stop extends RuntimeException {
        private static final long serialVersionUID = 1L;
    }

    final StringBuilder tape = new StringBuilder();
    State state = new State();
    List<String> tokens = new ArrayList<>();
    Map<String, Integer> walkerNames = new HashMap<>();
    Map<String, Integer> planBlocks = new HashMap<>();
    List<String> planNames = new ArrayList<>();
    int errorAt = -1;

    private List<String> read = new ArrayList<>();
    private List<Integer> starts = new ArrayList<>();
    private int errorToken;

    PlainModel() {
        for (int i = 0; i < 4; i++) {
            state.strengths.add(10);
            state.rotten.add(false);
        }
    }

    // ---- the book

    int teach() {
        split();
        int error = 1;
        errorToken = badToken();
        if (errorToken < 0) {
            error = meaningError();
        }
        errorAt = errorToken < 0 ? -1 : starts.get(errorToken);
        tape.setLength(0);
        if (error == 0) {
            take();
        }
        return error;
    }

    private void split() {
        read = new ArrayList<>();
        starts = new ArrayList<>();
        Matcher m = TOKEN.matcher(tape);
        int at = 0;
        while (true) {
            while (at < tape.length() && (tape.charAt(at) == ' ' || tape.charAt(at) == '\n')) {
                at++;
            }
            starts.add(at);
            if (at == tape.length()) {
                read.add("END");
                return;
            }
            if (!m.find(at) || m.start() != at || read.size() == 400 || tooLong(m.group())) {
                read.add("BAD");
                return;
            }
            read.add(m.group());
            at = m.end();
        }
    }

    private static boolean tooLong(String token) {
        return token.length() > (Character.isDigit(token.charAt(0)) ? 3 : 8);
    }

    private static boolean isName(String t) {
        return t.matches("[a-z]+") && !KEYWORDS.contains(t);
    }

    private static boolean fits(String symbol, String t) {
        switch (symbol) {
            case "NAME":
                return isName(t);
            case "NUM":
                return t.matches("[0-9]+");
            case "VALUE":
                return t.matches("[0-9]+") || MEASURES.contains(t);
            case "WHO":
                return isName(t) || CHOICES.contains(t);
            case "SIGN":
                return "<>=".contains(t);
            default:
                return symbol.equals(t);
        }
    }

    /** What a symbol of the grammar becomes with this token ahead, or null for a token's own. */
    private static String expand(String symbol, String t) {
        switch (symbol) {
            case "BOOK":
                return "WALKERS planks NUM NUMS ; PLANS END";
            case "WALKERS":
                return t.equals("walker") ? "walker NAME weighs NUM takes NUM ; WALKERS" : "";
            case "NUMS":
                return t.equals(",") ? ", NUM NUMS" : "";
            case "PLANS":
                return t.equals("plan") ? "plan NAME BLOCK PLANS" : "";
            case "BLOCK":
                return "( ACTS )";
            case "ACTS":
                return expandActs(t);
            case "WITH":
                return t.equals("with") ? "with WHO" : "";
            case "ELSE":
                return t.equals("else") ? "else BLOCK" : "";
            case "ANDS":
                return t.equals("and") ? "and VALUE SIGN VALUE ANDS" : "";
            default:
                return null;
        }
    }

    private static String expandActs(String t) {
        switch (t) {
            case "send":
                return "send WHO WITH ; ACTS";
            case "rest":
            case "note":
            case "mend":
                return t + " VALUE ; ACTS";
            case "do":
                return "do NAME ; ACTS";
            case "while":
                return "while VALUE SIGN VALUE ANDS BLOCK ACTS";
            case "if":
                return "if VALUE SIGN VALUE ANDS BLOCK ELSE ACTS";
            default:
                return "";
        }
    }

    private int badToken() {
        Deque<String> stack = new ArrayDeque<>();
        stack.push("BOOK");
        int depth = 0;
        int at = 0;
        while (!stack.isEmpty()) {
            String symbol = stack.pop();
            String t = read.get(at);
            String more = expand(symbol, t);
            if (more == null) {
                depth += t.equals("(") ? 1 : t.equals(")") ? -1 : 0;
                if (!fits(symbol, t) || depth == 4) {
                    return at;
                }
                at++;
            } else if (!more.isEmpty()) {
                String[] parts = more.split(" ");
                for (int i = parts.length - 1; i >= 0; i--) {
                    stack.push(parts[i]);
                }
            }
        }
        return -1;
    }

    private int meaningError() {
        Set<String> walkersSeen = new HashSet<>();
        Set<String> plansEnded = new HashSet<>();
        String plan = null;
        int planks = -1;
        int acts = 0;
        int plans = 0;
        for (int i = 0; i < read.size(); i++) {
            String t = read.get(i);
            String before = i > 0 ? read.get(i - 1) : "";
            int n = t.matches("[0-9]+") ? Integer.parseInt(t) : -1;
            int error = 0;
            if (before.equals("walker") || before.equals("plan")) {
                if (plan != null) {
                    plansEnded.add(plan);
                    plan = null;
                }
                boolean known = walkersSeen.contains(t) || plansEnded.contains(t);
                if (before.equals("walker")) {
                    error = known ? 2 : walkersSeen.size() == 8 ? 4 : 0;
                    walkersSeen.add(t);
                } else {
                    error = known ? 2 : plans == 6 ? 4 : 0;
                    plans++;
                    plan = t;
                }
            } else if (t.equals("planks")) {
                planks = 0;
            } else if (n >= 0 && (before.equals("planks") || before.equals(","))) {
                planks++;
                error = planks == 13 ? 4 : n < 1 || n > 30 ? 5 : 0;
            } else if (n >= 0 && before.equals("weighs")) {
                error = n < 1 || n > 9 ? 5 : 0;
            } else if (n >= 0 && before.equals("takes")) {
                error = n < 1 || n > 20 ? 5 : 0;
            } else if (n >= 0) {
                error = n > 99 ? 5 : 0;
            } else if (t.equals(";") && planks >= 0 && plans == 0) {
                error = planks < 4 ? 5 : 0;
            } else if (before.equals("send") || before.equals("with")) {
                error = CHOICES.contains(t) || walkersSeen.contains(t) ? 0 : 3;
            } else if (before.equals("do")) {
                error = plansEnded.contains(t) ? 0 : 3;
            } else if (Arrays.asList("send", "rest", "note", "mend", "do", "while", "if").contains(t)) {
                acts++;
                error = acts == 61 ? 4 : 0;
            }
            if (error != 0) {
                errorToken = i;
                return error;
            }
        }
        return 0;
    }

    private void take() {
        tokens = read;
        state = new State();
        walkerNames = new HashMap<>();
        planBlocks = new HashMap<>();
        planNames = new ArrayList<>();
        int at = 0;
        while (tokens.get(at).equals("walker")) {
            walkerNames.put(tokens.get(at + 1), state.walkers.size());
            state.walkers.add(new int[] {number(at + 3), number(at + 5)});
            state.near.add(true);
            at += 7;
        }
        while (!tokens.get(at).equals(";")) {
            state.strengths.add(number(at + 1));
            state.rotten.add(false);
            at += 2;
        }
        for (; at < tokens.size(); at++) {
            if (tokens.get(at).equals("plan")) {
                planNames.add(tokens.get(at + 1));
                planBlocks.put(tokens.get(at + 1), at + 2);
            }
        }
    }

    private int number(int at) {
        return Integer.parseInt(tokens.get(at));
    }

    // ---- plans

    private State on;
    private int done;

    /** Runs the plan on that state; how many acts were done. */
    int run(State there, int plan) {
        on = there;
        done = 0;
        try {
            block(planBlocks.get(planNames.get(plan)));
        } catch (Stop e) {
            return done;
        }
        return done;
    }

    private void count() {
        done++;
    }

    private void counted() {
        if (done == 100) {
            throw new Stop();
        }
    }

    private int block(int open) {
        int at = open + 1;
        while (!tokens.get(at).equals(")")) {
            at = act(at);
        }
        return at + 1;
    }

    private int skip(int open) {
        int depth = 0;
        int at = open;
        do {
            depth += tokens.get(at).equals("(") ? 1 : tokens.get(at).equals(")") ? -1 : 0;
            at++;
        } while (depth > 0);
        return at;
    }

    private int openBehind(int at) {
        int open = at;
        while (!tokens.get(open).equals("(")) {
            open++;
        }
        return open;
    }

    private int act(int at) {
        switch (tokens.get(at)) {
            case "while": {
                int open = openBehind(at);
                while (true) {
                    count();
                    counted();
                    if (!compares(at + 1)) {
                        return skip(open);
                    }
                    block(open);
                }
            }
            case "if": {
                int open = openBehind(at);
                count();
                counted();
                boolean so = compares(at + 1);
                int behind = so ? block(open) : skip(open);
                if (tokens.get(behind).equals("else")) {
                    behind = so ? skip(behind + 1) : block(behind + 1);
                }
                return behind;
            }
            case "do":
                count();
                counted();
                block(planBlocks.get(tokens.get(at + 1)));
                return at + 3;
            case "send":
                return send(at);
            default:
                simple(tokens.get(at), value(at + 1));
                count();
                counted();
                return at + 3;
        }
    }

    private void simple(String word, int value) {
        if (word.equals("rest")) {
            on.pass(Math.min(120, value));
        } else if (word.equals("note")) {
            on.notes.add(0, value);
        } else {
            int plank = on.strengths.indexOf(0);
            if (plank < 0 || value < 1 || value > 30) {
                throw new Stop();
            }
            on.strengths.set(plank, value);
            on.rotten.set(plank, false);
        }
    }

    private int send(int at) {
        List<Integer> who = new ArrayList<>();
        int behind = at + 2;
        who.add(who(at + 1, -1));
        if (tokens.get(at + 2).equals("with")) {
            who.add(who(at + 3, who.get(0)));
            behind = at + 4;
        }
        if (who.contains(-1) || who.size() == 2 && who.get(0).equals(who.get(1))
                || !on.canBeMade(who)) {
            throw new Stop();
        }
        on.cross(who);
        count();
        counted();
        return behind + 1;
    }

    private int who(int at, int besides) {
        String word = tokens.get(at);
        if (!CHOICES.contains(word)) {
            return walkerNames.get(word);
        }
        int column = word.equals("fastest") || word.equals("slowest") ? 1 : 0;
        int sign = word.equals("fastest") || word.equals("lightest") ? 1 : -1;
        List<Integer> there = new ArrayList<>();
        for (int w = 0; w < on.walkers.size(); w++) {
            if (w != besides && on.near.get(w) == on.lampNear) {
                there.add(w);
            }
        }
        // A stable sort: of several the one with the smallest number stays ahead.
        there.sort(Comparator.comparingInt(w -> sign * on.walkers.get(w)[column]));
        return there.isEmpty() ? -1 : there.get(0);
    }

    private boolean compares(int at) {
        int left = value(at);
        int right = value(at + 2);
        boolean so = tokens.get(at + 1).equals("<") ? left < right
                : tokens.get(at + 1).equals(">") ? left > right : left == right;
        return so && (!tokens.get(at + 3).equals("and") || compares(at + 4));
    }

    private int value(int at) {
        switch (tokens.get(at)) {
            case "near":
                return on.countNear();
            case "far":
                return on.walkers.size() - on.countNear();
            case "oil":
                return on.oil;
            case "minute":
                return on.minute;
            case "night":
                return on.night;
            case "missing":
                return on.missing();
            case "weakest":
                return on.weakest() < 0 ? 0 : on.strengths.get(on.weakest());
            default:
                return number(at);
        }
    }

    // ---- what would be

    /** The fewest minutes, the first and the second one to cross; -1 where there is none. */
    int[] ways() {
        int n = state.walkers.size();
        int near = 0;
        for (int w = 0; w < n; w++) {
            near |= state.near.get(w) ? 1 << w : 0;
        }
        if (near == 0) {
            return new int[] {0, -1, -1};
        }
        int best = dijkstra(near, state.lampNear);
        int there = state.lampNear ? near : (1 << n) - 1 & ~near;
        List<int[]> begins = new ArrayList<>();
        for (int a = 0; a < n; a++) {
            for (int b = a; b < n; b++) {
                int both = 1 << a | 1 << b;
                if ((there & both) == both
                        && pace(a, b) + dijkstra(near ^ both, !state.lampNear) == best) {
                    begins.add(new int[] {a, b});
                }
            }
        }
        int first = begins.stream().mapToInt(c -> Math.min(c[0], c[1])).min().getAsInt();
        boolean alone = begins.stream().anyMatch(c -> c[0] == first && c[1] == first);
        int second = alone ? -1 : begins.stream()
                .filter(c -> c[0] == first || c[1] == first)
                .mapToInt(c -> c[0] + c[1] - first).min().getAsInt();
        return new int[] {best, first, second};
    }

    private int pace(int a, int b) {
        return Math.max(state.walkers.get(a)[1], state.walkers.get(b)[1]);
    }

    private final Map<Integer, Integer> cache = new HashMap<>();
    private State cachedFor = null;

    private int dijkstra(int near, boolean lampNear) {
        if (cachedFor != state) {
            cache.clear();
            cachedFor = state;
        }
        Integer known = cache.get(near * 2 + (lampNear ? 1 : 0));
        if (known != null) {
            return known;
        }
        int n = state.walkers.size();
        Set<Integer> settled = new HashSet<>();
        PriorityQueue<int[]> queue = new PriorityQueue<>(Comparator.comparingInt(q -> q[0]));
        queue.add(new int[] {0, near, lampNear ? 1 : 0});
        while (!queue.isEmpty()) {
            int[] q = queue.poll();
            if (q[1] == 0) {
                cache.put(near * 2 + (lampNear ? 1 : 0), q[0]);
                return q[0];
            }
            if (!settled.add(q[1] * 2 + q[2])) {
                continue;
            }
            int there = q[2] == 1 ? q[1] : (1 << n) - 1 & ~q[1];
            for (int a = 0; a < n; a++) {
                for (int b = a; b < n; b++) {
                    int both = 1 << a | 1 << b;
                    if ((there & both) == both) {
                        queue.add(new int[] {q[0] + pace(a, b), q[1] ^ both, 1 - q[2]});
                    }
                }
            }
        }
        throw new IllegalStateException("nobody can bring the lamp");
    }

    long digest() {
        List<Integer> all = new ArrayList<>(Arrays.asList(state.walkers.size(),
                state.strengths.size(), planNames.size(), state.lampNear ? 1 : 0, state.oil,
                state.night, state.minute, state.crossings, state.falls, state.notes.size(),
                state.missing(), state.passable() ? 1 : 0, ways()[0]));
        for (int w = 0; w < state.walkers.size(); w++) {
            all.add(state.walkers.get(w)[0]);
            all.add(state.walkers.get(w)[1]);
            all.add(state.near.get(w) ? 1 : 0);
        }
        for (int p = 0; p < state.strengths.size(); p++) {
            all.add(state.strengths.get(p));
            all.add(state.bears(p));
            all.add(state.rotten.get(p) ? 1 : 0);
        }
        all.addAll(state.notes.subList(0, Math.min(10, state.notes.size())));
        long d = 1889;
        for (int x : all) {
            d = d * 31 + x;
        }
        return d;
    }
}
