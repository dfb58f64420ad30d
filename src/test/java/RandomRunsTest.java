import java.util.ArrayDeque;
import java.util.ArrayList;
import java.util.List;
import java.util.Random;
import java.util.TreeSet;
import java.util.regex.Matcher;
import java.util.regex.Pattern;

/**
 * Runs of random calls, each answer compared with that of Slow, which is written from the document's words
 * alone, as slow and as literal as they are.
 */
public final class RandomRunsTest {
    private static final int CALLS = 512;
    private static final int[] ODD = {-1, -2, 3, 4, 9, 10, -9, -10, 27, 728, 729, 730, Integer.MAX_VALUE, Integer.MIN_VALUE,
        Integer.MIN_VALUE + 1, 1 << 30, 255, 256, -100};

    private static int wrong = 0;
    private static final TreeSet<String> seen = new TreeSet<>();

    public static void main(String[] args) {
        // More runs than CI has time for: java RandomRunsTest 5000
        int runs = args.length > 0 ? Integer.parseInt(args[0]) : 120;
        for (int run = 0; run < runs && wrong == 0; run++) {
            run(run);
        }
        mustHaveSeen("unrefined plan", "never", "refined now", "unrefined now", "mixed", "separating", "why 2", "NONE bestPlan",
            "partial carryOut", "whole carryOut", "BAD_TEXT", "TOO_MANY", "full history", "willing narrowed");
        System.out.println(wrong == 0 ? "all answers are as due" : wrong + " answers are not as due");
        if (wrong != 0) {
            System.exit(1);
        }
    }

    private static void mustHaveSeen(String... what) {
        for (String one : what) {
            if (!seen.contains(one)) {
                wrong++;
                System.out.println("the runs never came to: " + one);
            }
        }
    }

    private static void run(int seed) {
        Random random = new Random(seed);
        MessageGames quick = new MessageGames();
        Slow slow = new Slow();
        List<String> told = new ArrayList<>();
        int spread = 1 + random.nextInt(seed % 4 == 0 ? 9 : 3);
        // The first calls fill the game, since one whose payoffs are nearly all 0 tells little.
        int filling = seed % 5 == 0 ? 0 : 60;
        for (int i = 0; i < CALLS && wrong == 0; i++) {
            long[] call = i < filling ? filling(random, spread) : any(random, spread);
            long got = ask(quick, call), due = slow.ask(call);
            told.add(text(call) + " -> " + due);
            if (got != due) {
                wrong++;
                System.out.println("seed " + seed + ": " + text(call) + " answered " + got + ", due is " + due + ", after");
                told.forEach(System.out::println);
            }
            note(call, due, slow);
        }
    }

    private static void note(long[] call, long due, Slow slow) {
        int name = (int) call[0];
        if (name == 14 && call[1] == 1 && due > 0) {
            seen.add(due == 1 ? "separating" : "mixed");
        }
        if (name == 14 && call[1] == 2 && slow.holds(slow.now)) {
            seen.add(due == 1 ? "refined now" : "unrefined now");
        }
        if (name == 14 && call[1] == 7 && due == 6) {
            seen.add("full history");
        }
        if (name == 15 && call[1] == 1 && due < slow.holding().size()) {
            seen.add("unrefined plan");
        }
        if (name == 10 && call[2] == 4 && due > 0) {
            seen.add("never");
            seen.add(due != slow.there(slow.now) ? "willing narrowed" : "none willing");
        }
        if (name == 13 && call[1] == 0 && due == 2) {
            seen.add("why 2");
        }
        if (name == 18 && due == -6) {
            seen.add("NONE bestPlan");
        }
        if (name == 19 && due == -4) {
            seen.add("TOO_MANY");
        }
        if (name == 22) {
            seen.add(due == -3 ? "BAD_TEXT" : slow.lastWasWhole ? "whole carryOut" : "partial carryOut");
        }
    }

    private static String text(long[] call) {
        String[] names = {"", "", "weight", "pay", "believe", "send", "answer", "adopt", "payoff", "ofType", "ofMessage", "belief",
            "mean", "why", "count", "plans", "planAt", "bestAnswer", "bestPlan", "put", "wipe", "fault", "carryOut", "undo", "save",
            "restore"};
        StringBuilder text = new StringBuilder(names[(int) call[0]]).append("(");
        for (int i = 1; i < call.length; i++) {
            text.append(i > 1 ? ", " : "").append(call[i]);
        }
        return text.append(")").toString();
    }

    // Calls are numbered as the promises are.

    private static long[] filling(Random random, int spread) {
        switch (random.nextInt(8)) {
            case 0: return new long[] {2, random.nextInt(3), random.nextInt(4)};
            case 1: return new long[] {4, random.nextInt(3), random.nextInt(3), random.nextInt(10)};
            default: return new long[] {3, random.nextInt(2), random.nextInt(3), random.nextInt(3), random.nextInt(3),
                random.nextInt(2 * spread + 1) - spread};
        }
    }

    private static long[] any(Random random, int spread) {
        int name = 2 + random.nextInt(24);
        if (name == 3 && random.nextBoolean()) {
            return filling(random, spread);
        }
        switch (name) {
            case 2: return new long[] {2, odd(random, 3), odd(random, random.nextBoolean() ? 2 : 10)};
            case 3: return new long[] {3, odd(random, 2), odd(random, 3), odd(random, 3), odd(random, 3), odd(random, 19) - 9};
            case 4: return new long[] {4, odd(random, 3), odd(random, 3), odd(random, random.nextBoolean() ? 2 : 10)};
            case 5: case 6: return new long[] {name, odd(random, 3), odd(random, 3)};
            case 7: case 16: return new long[] {name, odd(random, random.nextBoolean() ? 3 : 40)};
            case 8: return new long[] {8, odd(random, 2), odd(random, 3), odd(random, 3), odd(random, 3)};
            case 9: return new long[] {9, odd(random, 3), odd(random, 5)};
            case 10: return new long[] {10, odd(random, 3), odd(random, 6)};
            case 11: return new long[] {11, odd(random, 3), odd(random, 3), odd(random, 2)};
            case 12: return new long[] {12, odd(random, 3), odd(random, 3), odd(random, 2)};
            case 13: case 18: return new long[] {name, odd(random, 2)};
            case 14: return new long[] {14, odd(random, 8)};
            case 15: return new long[] {15, odd(random, 5)};
            case 17: return new long[] {17, odd(random, 3)};
            case 19: return new long[] {19, characters(random)};
            case 20: return new long[] {random.nextInt(4) == 0 ? 20 : 21};
            case 24: case 25: return new long[] {name, odd(random, 2)};
            default: return new long[] {name};
        }
    }

    private static int odd(Random random, int bound) {
        return random.nextInt(40) == 0 ? ODD[random.nextInt(ODD.length)] : random.nextInt(bound);
    }

    private static long characters(Random random) {
        int kind = random.nextInt(20);
        if (kind == 0) {
            return random.nextLong();
        }
        if (kind == 1) {
            return Due.packed("w0=1") << 8 * random.nextInt(5);
        }
        if (kind == 2) {
            return random.nextInt(256);
        }
        String order = order(random) + (random.nextInt(3) > 0 ? ";" : "");
        if (random.nextInt(10) == 0) {
            int place = random.nextInt(order.length());
            order = order.substring(0, place) + "wsauvo0123456789=>-;x".charAt(random.nextInt(21)) + order.substring(place + 1);
        }
        return Due.packed(order.length() > 8 ? order.substring(0, 8) : order);
    }

    private static String order(Random random) {
        switch (random.nextInt(7)) {
            case 0: return "w" + random.nextInt(3) + "=" + (random.nextBoolean() ? 0 : random.nextInt(10));
            case 1: return "s" + random.nextInt(3) + ">" + random.nextInt(3);
            case 2: return "a" + random.nextInt(3) + ">" + random.nextInt(3);
            case 3: return "u" + random.nextInt(3) + random.nextInt(3) + random.nextInt(3) + "=" + random.nextInt(10);
            case 4: return "v" + random.nextInt(3) + random.nextInt(3) + random.nextInt(3) + "=-" + random.nextInt(10);
            default: return "o" + random.nextInt(3) + random.nextInt(3) + "=" + (random.nextBoolean() ? 0 : random.nextInt(10));
        }
    }

    private static long ask(MessageGames games, long[] call) {
        int a = call.length > 1 ? (int) call[1] : 0, b = call.length > 2 ? (int) call[2] : 0;
        int c = call.length > 3 ? (int) call[3] : 0, d = call.length > 4 ? (int) call[4] : 0;
        int e = call.length > 5 ? (int) call[5] : 0;
        switch ((int) call[0]) {
            case 2: return games.weight(a, b);
            case 3: return games.pay(a, b, c, d, e);
            case 4: return games.believe(a, b, c);
            case 5: return games.send(a, b);
            case 6: return games.answer(a, b);
            case 7: return games.adopt(a);
            case 8: return games.payoff(a, b, c, d);
            case 9: return games.ofType(a, b);
            case 10: return games.ofMessage(a, b);
            case 11: return games.belief(a, b, c);
            case 12: return games.mean(a, b, c);
            case 13: return games.why(a);
            case 14: return games.count(a);
            case 15: return games.plans(a);
            case 16: return games.planAt(a);
            case 17: return games.bestAnswer(a);
            case 18: return games.bestPlan(a);
            case 19: return games.put(call[1]);
            case 20: return games.wipe();
            case 21: return games.fault();
            case 22: return games.carryOut();
            case 23: return games.undo();
            case 24: return games.save(a);
            default: return games.restore(a);
        }
    }

    private static final class State {
        final int[] weight = {1, 1, 1};
        final int[][][][] pay = new int[2][3][3][3];
        final int[][] told = {{1, 1, 1}, {1, 1, 1}, {1, 1, 1}};
        final int[] sends = new int[3];
        final int[] answers = new int[3];

        State copy() {
            State copy = new State();
            for (int i = 0; i < 3; i++) {
                copy.weight[i] = weight[i];
                copy.sends[i] = sends[i];
                copy.answers[i] = answers[i];
                for (int j = 0; j < 3; j++) {
                    copy.told[i][j] = told[i][j];
                    for (int k = 0; k < 3; k++) {
                        copy.pay[0][i][j][k] = pay[0][i][j][k];
                        copy.pay[1][i][j][k] = pay[1][i][j][k];
                    }
                }
            }
            return copy;
        }
    }

    private static final class Slow {
        private static final String ORDER =
            "(w[012]=[0-9]|s[012]>[012]|a[012]>[012]|[uv][012][012][012]=-?[0-9]|o[012][012]=[0-9])";
        private static final Pattern TEXT = Pattern.compile(ORDER + "(;" + ORDER + ")*");

        State now = new State();
        private final ArrayDeque<State> history = new ArrayDeque<>();
        private final State[] slots = new State[2];
        private String pad = "";
        boolean lastWasWhole;
        private List<Integer> holding;

        private static boolean three(int... numbers) {
            for (int number : numbers) {
                if (number != 0 && number != 1 && number != 2) {
                    return false;
                }
            }
            return true;
        }

        private void record() {
            history.addLast(now.copy());
            if (history.size() > 6) {
                history.removeFirst();
            }
            holding = null;
        }

        long ask(long[] call) {
            int a = call.length > 1 ? (int) call[1] : 0, b = call.length > 2 ? (int) call[2] : 0;
            int c = call.length > 3 ? (int) call[3] : 0, d = call.length > 4 ? (int) call[4] : 0;
            int e = call.length > 5 ? (int) call[5] : 0;
            switch ((int) call[0]) {
                case 2: case 3: case 4: case 5: case 6: return change((int) call[0], a, b, c, d, e, true);
                case 7: return adopt(a);
                case 8: return !three(b, c, d) ? -1 : a != 0 && a != 1 ? -2 : now.pay[a][b][c][d] + 100;
                case 9: return ofType(a, b);
                case 10: return ofMessage(a, b);
                case 11: return belief(a, b, c);
                case 12: return mean(a, b, c);
                case 13: return why(a);
                case 14: return count(a);
                case 15: return plans(a);
                case 16: return a < 0 || a >= holding().size() ? -1 : holding().get(a);
                case 17: return !three(a) ? -1 : lowest(best(now, a));
                case 18: return bestPlan(a);
                case 19: return put(call[1]);
                case 20: int length = pad.length(); pad = ""; return length;
                case 21: return fault();
                case 22: return carryOut();
                case 23: if (history.isEmpty()) { return -5; } now = history.removeLast(); holding = null; return history.size();
                case 24: if (a != 0 && a != 1) { return -2; } slots[a] = now.copy(); return code(now);
                default: if (a != 0 && a != 1) { return -2; } if (slots[a] == null) { return -5; }
                    record(); now = slots[a].copy(); return code(now);
            }
        }

        private long change(int name, int a, int b, int c, int d, int e, boolean records) {
            State next = now.copy();
            int before;
            if (name == 2) {
                if (!three(a)) { return -1; }
                if (b < 0 || b > 9) { return -2; }
                before = next.weight[a];
                next.weight[a] = b;
                if (next.weight[0] == 0 && next.weight[1] == 0 && next.weight[2] == 0) { return -5; }
            } else if (name == 3) {
                if (!three(b, c, d)) { return -1; }
                if ((a != 0 && a != 1) || e < -9 || e > 9) { return -2; }
                before = next.pay[a][b][c][d] + 100;
                next.pay[a][b][c][d] = e;
            } else if (name == 4) {
                if (!three(a, b)) { return -1; }
                if (c < 0 || c > 9) { return -2; }
                before = next.told[a][b];
                next.told[a][b] = c;
                if (next.told[a][0] == 0 && next.told[a][1] == 0 && next.told[a][2] == 0) { return -5; }
            } else if (name == 5) {
                if (!three(a, b)) { return -1; }
                before = next.sends[a];
                next.sends[a] = b;
            } else {
                if (!three(a, b)) { return -1; }
                before = next.answers[a];
                next.answers[a] = b;
            }
            if (records) { record(); }
            now = next;
            return before;
        }

        private long adopt(int place) {
            int found = holding().size();
            if (place < 0 || place >= found) { return -1; }
            int code = holding().get(place);
            record();
            now = withPlan(now, code);
            return found;
        }

        private static State withPlan(State state, int code) {
            State copy = state.copy();
            String digits = "000000" + Integer.toString(code, 3);
            digits = digits.substring(digits.length() - 6);
            for (int i = 0; i < 3; i++) {
                copy.sends[i] = digits.charAt(i) - '0';
                copy.answers[i] = digits.charAt(3 + i) - '0';
            }
            return copy;
        }

        private static int code(State s) {
            return Integer.parseInt("" + s.sends[0] + s.sends[1] + s.sends[2] + s.answers[0] + s.answers[1] + s.answers[2], 3);
        }

        private static int lowest(int set) {
            return (set & 1) != 0 ? 0 : (set & 2) != 0 ? 1 : 2;
        }

        int there(State s) {
            return (s.weight[0] > 0 ? 1 : 0) + (s.weight[1] > 0 ? 2 : 0) + (s.weight[2] > 0 ? 4 : 0);
        }

        private static boolean isSent(State s, int message) {
            return s.weight[0] > 0 && s.sends[0] == message || s.weight[1] > 0 && s.sends[1] == message
                || s.weight[2] > 0 && s.sends[2] == message;
        }

        private static int[] beliefOf(State s, int message) {
            int[] belief = new int[3];
            for (int type = 0; type < 3; type++) {
                belief[type] = !isSent(s, message) ? s.told[message][type] : s.sends[type] == message ? s.weight[type] : 0;
            }
            return belief;
        }

        private static int worth(State s, int message, int action, int[] belief) {
            int worth = 0;
            for (int type = 0; type < 3; type++) {
                worth += belief[type] * s.pay[1][type][message][action];
            }
            return worth;
        }

        private static int bestFor(State s, int message, int[] belief) {
            int set = 0;
            for (int action = 0; action < 3; action++) {
                boolean isBest = true;
                for (int other = 0; other < 3; other++) {
                    isBest &= worth(s, message, other, belief) <= worth(s, message, action, belief);
                }
                set += isBest ? 1 << action : 0;
            }
            return set;
        }

        private static int best(State s, int message) {
            return bestFor(s, message, beliefOf(s, message));
        }

        private static int payoffBy(State s, int type, int message) {
            return s.pay[0][type][message][s.answers[message]];
        }

        private static int own(State s, int type) {
            return payoffBy(s, type, s.sends[type]);
        }

        private static boolean better(State s, int type) {
            return payoffBy(s, type, 0) > own(s, type) || payoffBy(s, type, 1) > own(s, type) || payoffBy(s, type, 2) > own(s, type);
        }

        boolean holds(State s) {
            for (int i = 0; i < 3; i++) {
                if (s.weight[i] > 0 && better(s, i) || (best(s, i) >> s.answers[i] & 1) == 0) {
                    return false;
                }
            }
            return true;
        }

        private static int kind(State s) {
            List<Integer> all = new ArrayList<>();
            for (int type = 0; type < 3; type++) {
                if (s.weight[type] > 0) {
                    all.add(s.sends[type]);
                }
            }
            int different = new TreeSet<>(all).size();
            return different == 1 ? 0 : different == all.size() ? 1 : 2;
        }

        private static int possible(State s, int message, int among) {
            int set = 0;
            for (int number = 1; number < 125; number++) {
                int[] belief = {number % 5, number / 5 % 5, number / 25};
                int above = (belief[0] > 0 ? 1 : 0) + (belief[1] > 0 ? 2 : 0) + (belief[2] > 0 ? 4 : 0);
                if ((above & ~among) == 0) {
                    set |= bestFor(s, message, belief);
                }
            }
            return set;
        }

        private int never(State s, int message) {
            if (isSent(s, message)) {
                return 0;
            }
            int possible = possible(s, message, there(s)), set = 0;
            for (int type = 0; type < 3; type++) {
                boolean is = s.weight[type] > 0;
                for (int action = 0; action < 3; action++) {
                    is &= (possible >> action & 1) == 0 || own(s, type) > s.pay[0][type][message][action];
                }
                set += is ? 1 << type : 0;
            }
            return set;
        }

        private boolean refined(State s) {
            for (int message = 0; message < 3; message++) {
                int these = isSent(s, message) ? 0 : there(s) & ~never(s, message);
                if (these == 0) {
                    continue;
                }
                int possible = possible(s, message, these);
                for (int type = 0; type < 3; type++) {
                    boolean is = (these >> type & 1) == 1;
                    for (int action = 0; action < 3; action++) {
                        is &= (possible >> action & 1) == 0 || own(s, type) < s.pay[0][type][message][action];
                    }
                    if (is) {
                        return false;
                    }
                }
            }
            return true;
        }

        List<Integer> holding() {
            if (holding == null) {
                holding = new ArrayList<>();
                for (int code = 0; code < 729; code++) {
                    if (holds(withPlan(now, code))) {
                        holding.add(code);
                    }
                }
            }
            return holding;
        }

        private long ofType(int type, int what) {
            if (!three(type)) { return -1; }
            int most = Math.max(payoffBy(now, type, 0), Math.max(payoffBy(now, type, 1), payoffBy(now, type, 2)));
            int message = payoffBy(now, type, 0) == most ? 0 : payoffBy(now, type, 1) == most ? 1 : 2;
            int[] all = {now.weight[type], now.sends[type], own(now, type) + 100, message, most - own(now, type)};
            return what < 0 || what > 4 ? -2 : all[what];
        }

        private long ofMessage(int message, int what) {
            if (!three(message)) { return -1; }
            int senders = 0;
            for (int type = 0; type < 3; type++) {
                senders += now.weight[type] > 0 && now.sends[type] == message ? 1 << type : 0;
            }
            int[] all = {isSent(now, message) ? 1 : 0, now.answers[message], best(now, message), senders, never(now, message),
                possible(now, message, there(now))};
            return what < 0 || what > 5 ? -2 : all[what];
        }

        private long belief(int message, int type, int what) {
            if (!three(message, type)) { return -1; }
            int[] belief = beliefOf(now, message);
            return what != 0 && what != 1 ? -2 : lowestTerms(belief[type], belief[0] + belief[1] + belief[2])[what];
        }

        private long mean(int message, int action, int what) {
            if (!three(message, action)) { return -1; }
            int[] belief = beliefOf(now, message);
            int[] mean = lowestTerms(worth(now, message, action, belief), belief[0] + belief[1] + belief[2]);
            return what != 0 && what != 1 ? -2 : mean[what] + (what == 0 ? 1000 : 0);
        }

        private static int[] lowestTerms(int above, int below) {
            int[] terms = {above, below};
            for (int divisor = below; divisor > 1; divisor--) {
                if (terms[0] % divisor == 0 && terms[1] % divisor == 0) {
                    terms[0] /= divisor;
                    terms[1] /= divisor;
                }
            }
            return terms;
        }

        private long why(int what) {
            int[] answer = {0, -6};
            for (int i = 2; i >= 0; i--) {
                if ((best(now, i) >> now.answers[i] & 1) == 0) { answer = new int[] {2, i}; }
            }
            for (int i = 2; i >= 0; i--) {
                if (now.weight[i] > 0 && better(now, i)) { answer = new int[] {1, i}; }
            }
            return what != 0 && what != 1 ? -2 : answer[what];
        }

        private long count(int what) {
            int sent = 0;
            for (int message = 0; message < 3; message++) {
                sent += isSent(now, message) ? 1 << message : 0;
            }
            int[] all = {holds(now) ? 1 : 0, kind(now), holds(now) && refined(now) ? 1 : 0, there(now), sent, code(now), pad.length(),
                history.size()};
            return what < 0 || what > 7 ? -2 : all[what];
        }

        private long plans(int what) {
            int[] all = {holding().size(), 0, 0, 0, 0};
            for (int code : holding()) {
                State s = withPlan(now, code);
                all[1] += what == 1 && refined(s) ? 1 : 0;
                all[2 + kind(s)]++;
            }
            return what < 0 || what > 4 ? -2 : all[what];
        }

        private long bestPlan(int what) {
            if (what != 0 && what != 1) { return -2; }
            int most = Integer.MIN_VALUE, best = -6;
            for (int code : holding()) {
                State s = withPlan(now, code);
                int sum = 0;
                for (int type = 0; type < 3; type++) {
                    sum += s.weight[type] * s.pay[1][type][s.sends[type]][s.answers[s.sends[type]]];
                }
                if (sum > most) {
                    most = sum;
                    best = code;
                }
            }
            return best == -6 ? -6 : what == 0 ? best : most + 1000;
        }

        private long put(long characters) {
            String text = "";
            for (long rest = characters; rest != 0; rest = rest >>> 8) {
                long code = rest & 255;
                if (code < 33 || code > 126) { return -2; }
                text = (char) code + text;
            }
            if (text.isEmpty()) { return -2; }
            if (pad.length() + text.length() > 80) { return -4; }
            pad += text;
            return pad.length();
        }

        private int fault() {
            for (int length = 1; length <= pad.length(); length++) {
                Matcher matcher = TEXT.matcher(pad.substring(0, length));
                if (!matcher.matches() && !matcher.hitEnd()) { return length - 1; }
            }
            return TEXT.matcher(pad).matches() ? -6 : pad.length();
        }

        private long carryOut() {
            if (fault() != -6) { return -3; }
            record();
            int done = 0;
            lastWasWhole = true;
            for (String order : pad.split(";")) {
                if (!isDone(order)) {
                    lastWasWhole = false;
                    break;
                }
                done++;
            }
            pad = "";
            return done;
        }

        private boolean isDone(String order) {
            String[] parts = order.substring(1).split("[=>]");
            int value = Integer.parseInt(parts[1]), first = parts[0].charAt(0) - '0';
            int second = parts[0].length() > 1 ? parts[0].charAt(1) - '0' : 0;
            int third = parts[0].length() > 2 ? parts[0].charAt(2) - '0' : 0;
            switch (order.charAt(0)) {
                case 'w': return change(2, first, value, 0, 0, 0, false) >= 0;
                case 's': return change(5, first, value, 0, 0, 0, false) >= 0;
                case 'a': return change(6, first, value, 0, 0, 0, false) >= 0;
                case 'o': return change(4, first, second, value, 0, 0, false) >= 0;
                default: return change(3, order.charAt(0) == 'u' ? 0 : 1, first, second, third, value, false) >= 0;
            }
        }
    }
}
