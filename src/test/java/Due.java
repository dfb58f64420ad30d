import java.util.ArrayList;
import java.util.List;
import java.util.function.Consumer;

/** What the tests share: counting wrong answers, texts as numbers, and all that can be learned of an object. */
final class Due {
    static final int MOST = Integer.MAX_VALUE, LEAST = Integer.MIN_VALUE;
    /** Orders to fill a pad with; one of them is longer by one, so that any length can be had. */
    private static final String FILLER = "w0=1;", LONGER_FILLER = "o00=1;";

    private static int wrong = 0;

    private Due() {
    }

    static void is(String call, long got, long want) {
        if (got != want) {
            wrong++;
            System.out.println(call + " answered " + got + ", due is " + want);
        }
    }

    static void same(String call, List<Long> got, List<Long> want) {
        if (!got.equals(want)) {
            wrong++;
            System.out.println(call + " made a difference:\n  " + got + "\n  " + want);
        }
    }

    static void end() {
        System.out.println(wrong == 0 ? "all answers are as due" : wrong + " answers are not as due");
        if (wrong != 0) {
            System.exit(1);
        }
    }

    static boolean isIn(int number, int least, int most) {
        return number >= least && number <= most;
    }

    static long packed(String text) {
        long number = 0;
        for (char character : text.toCharArray()) {
            number = number << 8 | character;
        }
        return number;
    }

    /** Puts a text of any length by as many calls as it takes. */
    static void write(MessageGames x, String text) {
        for (int start = 0; start < text.length(); start += 8) {
            x.put(packed(text.substring(start, Math.min(text.length(), start + 8))));
        }
    }

    static void play(MessageGames x, String orders) {
        write(x, orders);
        is("carryOut() of " + orders, x.carryOut(), orders.split(";").length);
    }

    static MessageGames played(String orders) {
        MessageGames x = new MessageGames();
        play(x, orders);
        return x;
    }

    static MessageGames made(Consumer<MessageGames> setup) {
        MessageGames x = new MessageGames();
        setup.accept(x);
        return x;
    }

    /** A text of just so many characters: whole orders, and these characters behind them. */
    static String filledUp(int length, String end) {
        StringBuilder text = new StringBuilder();
        for (int i = (length - end.length()) % FILLER.length(); i > 0; i--) {
            text.append(LONGER_FILLER);
        }
        while (text.length() < length - end.length()) {
            text.append(FILLER);
        }
        return text.append(end).toString();
    }

    /** What the calls tell of the game and the plan as they are. */
    static List<Long> shown(MessageGames x) {
        List<Long> all = new ArrayList<>();
        for (int i = 0; i < 3; i++) {
            all.add((long) x.ofType(i, 0));
            for (int j = 0; j < 3; j++) {
                all.add((long) x.belief(i, j, 0));
                all.add((long) x.belief(i, j, 1));
                for (int k = 0; k < 3; k++) {
                    all.add((long) x.payoff(0, i, j, k));
                    all.add((long) x.payoff(1, i, j, k));
                }
            }
        }
        all.add((long) x.count(5));
        return all;
    }

    /** What the told beliefs are, also of messages that are sent. */
    static List<Long> told(MessageGames x) {
        List<Long> all = new ArrayList<>();
        for (int message = 0; message < 3; message++) {
            for (int type = 0; type < 3; type++) {
                all.add((long) x.believe(message, type, 9));
            }
        }
        return all;
    }

    /**
     * All that can be learned of the object that this makes: of its game, its pad, its history and both its slots.
     * What the one answer costs the other is asked of an object of its own.
     */
    static List<Long> everything(Consumer<MessageGames> setup) {
        MessageGames x = made(setup);
        List<Long> all = shown(x);
        all.add((long) x.plans(0));
        all.add((long) x.plans(1));
        all.add((long) x.bestPlan(0));
        all.add((long) x.count(6));
        all.add((long) x.count(7));
        all.add((long) x.fault());
        all.addAll(told(made(setup)));
        MessageGames carried = made(setup);
        all.add((long) carried.carryOut());
        all.addAll(shown(carried));
        for (int times = 1; times <= 7; times++) {
            MessageGames undone = made(setup);
            for (int i = 0; i < times; i++) {
                all.add((long) undone.undo());
            }
            all.addAll(shown(undone));
            all.addAll(told(undone));
        }
        for (int slot = 0; slot < 2; slot++) {
            MessageGames restored = made(setup);
            all.add((long) restored.restore(slot));
            all.addAll(shown(restored));
            all.addAll(told(restored));
        }
        return all;
    }
}
