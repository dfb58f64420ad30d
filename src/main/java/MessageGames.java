import java.util.Arrays;

/**
 * Games in which one who knows a type sends a message, and one who sees only the message acts.
 * ../shared/DOC.md says what each call promises.
 */
public final class MessageGames {
    public static final int NO_SUCH = -1, BAD_VALUE = -2, BAD_TEXT = -3, TOO_MANY = -4, NOT_POSSIBLE = -5, NONE = -6;

    private static final int FINE = 0;
    private static final int SENDER = 0, RECEIVER = 1;
    private static final int TYPES = 3, MESSAGES = 3, ACTIONS = 3;
    /** The ways in which three types send, or three messages are answered. */
    private static final int WAYS = 27;
    private static final int ALL_PLANS = WAYS * WAYS;
    private static final int HEAVIEST = 9, HIGHEST_PAY = 9, HEAVIEST_POSSIBLE = 4;
    private static final int PAY_SHIFT = 100, SUM_SHIFT = 1000;
    private static final int POOLING = 0, SEPARATING = 1, MIXED = 2;
    private static final int HISTORY = 6, SLOTS = 2;
    private static final int LONGEST_PAD = 80, MOST_CHARACTERS = 8;

    private final Game game;
    private final Survey survey;
    private final Pad pad;
    private final int[] past;
    private final int[] slots;
    private final boolean[] isSaved;
    private int changes;

    public MessageGames() {
        game = new Game();
        survey = new Survey();
        pad = new Pad();
        past = new int[HISTORY * Game.SIZE];
        slots = new int[SLOTS * Game.SIZE];
        isSaved = new boolean[SLOTS];
        changes = 0;
    }

    // ---- changes

    public int weight(int type, int weight) {
        int error = weightError(type, weight);
        if (error != FINE) {
            return error;
        }
        record();
        return game.change(Game.weightPlace(type), weight);
    }

    public int pay(int who, int type, int message, int action, int value) {
        if (!isWithin(type, TYPES) || !isWithin(message, MESSAGES) || !isWithin(action, ACTIONS)) {
            return NO_SUCH;
        }
        if ((who != SENDER && who != RECEIVER) || value < -HIGHEST_PAY || value > HIGHEST_PAY) {
            return BAD_VALUE;
        }
        record();
        return game.change(Game.payPlace(who, type, message, action), value) + PAY_SHIFT;
    }

    public int believe(int message, int type, int weight) {
        int error = beliefError(message, type, weight);
        if (error != FINE) {
            return error;
        }
        record();
        return game.change(Game.toldPlace(message, type), weight);
    }

    public int send(int type, int message) {
        if (!isWithin(type, TYPES) || !isWithin(message, MESSAGES)) {
            return NO_SUCH;
        }
        record();
        return game.change(Game.messagePlace(type), message);
    }

    public int answer(int message, int action) {
        if (!isWithin(message, MESSAGES) || !isWithin(action, ACTIONS)) {
            return NO_SUCH;
        }
        record();
        return game.change(Game.answerPlace(message), action);
    }

    public int adopt(int place) {
        int found = survey.numberOf(game, Survey.HOLDING);
        if (!isWithin(place, found)) {
            return NO_SUCH;
        }
        record();
        game.takePlan(survey.codeAt(place));
        return found;
    }

    // ---- what there is

    public int payoff(int who, int type, int message, int action) {
        if (!isWithin(type, TYPES) || !isWithin(message, MESSAGES) || !isWithin(action, ACTIONS)) {
            return NO_SUCH;
        }
        if (who != SENDER && who != RECEIVER) {
            return BAD_VALUE;
        }
        return game.cell(Game.payPlace(who, type, message, action)) + PAY_SHIFT;
    }

    public int ofType(int type, int what) {
        if (!isWithin(type, TYPES)) {
            return NO_SUCH;
        }
        switch (what) {
            case 0: return game.cell(Game.weightPlace(type));
            case 1: return game.cell(Game.messagePlace(type));
            case 2: return game.ownPayoff(type) + PAY_SHIFT;
            case 3: return game.dearestMessage(type);
            case 4: return game.payoffBy(type, game.dearestMessage(type)) - game.ownPayoff(type);
            default: return BAD_VALUE;
        }
    }

    public int ofMessage(int message, int what) {
        if (!isWithin(message, MESSAGES)) {
            return NO_SUCH;
        }
        switch (what) {
            case 0: return game.sendersOf(message) != 0 ? 1 : 0;
            case 1: return game.cell(Game.answerPlace(message));
            case 2: return game.bestActions(message);
            case 3: return game.sendersOf(message);
            case 4: return game.neverSenders(message);
            case 5: return game.possibleActions(message, game.typesThere());
            default: return BAD_VALUE;
        }
    }

    public int belief(int message, int type, int what) {
        if (!isWithin(message, MESSAGES) || !isWithin(type, TYPES)) {
            return NO_SUCH;
        }
        int above = game.beliefWeight(message, type), below = game.beliefSum(message);
        switch (what) {
            case 0: return shortened(above, above, below);
            case 1: return shortened(below, above, below);
            default: return BAD_VALUE;
        }
    }

    public int mean(int message, int action, int what) {
        if (!isWithin(message, MESSAGES) || !isWithin(action, ACTIONS)) {
            return NO_SUCH;
        }
        int above = game.worthOf(message, action), below = game.beliefSum(message);
        switch (what) {
            case 0: return shortened(above, above, below) + SUM_SHIFT;
            case 1: return shortened(below, above, below);
            default: return BAD_VALUE;
        }
    }

    public int why(int what) {
        if (what != 0 && what != 1) {
            return BAD_VALUE;
        }
        int type = game.lowestBetterType();
        if (type != NONE) {
            return what == 0 ? 1 : type;
        }
        int message = game.lowestWrongMessage();
        if (message != NONE) {
            return what == 0 ? 2 : message;
        }
        return what == 0 ? 0 : NONE;
    }

    public int count(int what) {
        switch (what) {
            case 0: return game.isHolding() ? 1 : 0;
            case 1: return game.kind();
            case 2: return game.isHolding() && game.isUntempted() ? 1 : 0;
            case 3: return game.typesThere();
            case 4: return game.messagesSent();
            case 5: return game.code();
            case 6: return pad.length();
            case 7: return changes;
            default: return BAD_VALUE;
        }
    }

    // ---- what if; nothing changes

    public int plans(int what) {
        if (!isWithin(what, Survey.NUMBERS)) {
            return BAD_VALUE;
        }
        return survey.numberOf(game, what);
    }

    public int planAt(int place) {
        if (!isWithin(place, survey.numberOf(game, Survey.HOLDING))) {
            return NO_SUCH;
        }
        return survey.codeAt(place);
    }

    public int bestAnswer(int message) {
        if (!isWithin(message, MESSAGES)) {
            return NO_SUCH;
        }
        return lowestIn(game.bestActions(message));
    }

    public int bestPlan(int what) {
        if (what != 0 && what != 1) {
            return BAD_VALUE;
        }
        int place = survey.bestPlace(game);
        if (place == NONE) {
            return NONE;
        }
        return what == 0 ? survey.codeAt(place) : survey.receiverSumAt(place) + SUM_SHIFT;
    }

    // ---- texts

    public int put(long characters) {
        int added = charactersIn(characters);
        if (added == 0) {
            return BAD_VALUE;
        }
        if (pad.length() + added > LONGEST_PAD) {
            return TOO_MANY;
        }
        for (int i = added - 1; i >= 0; i--) {
            pad.append(characterOf(characters, i));
        }
        return pad.length();
    }

    public int wipe() {
        int before = pad.length();
        pad.clear();
        return before;
    }

    public int fault() {
        return pad.faultPlace();
    }

    public int carryOut() {
        if (pad.faultPlace() != NONE) {
            return BAD_TEXT;
        }
        record();
        int done = 0, start = 0;
        while (done < LONGEST_PAD && start < pad.length() && isDone(start)) {
            done++;
            // Behind each order stands ';' or nothing, since the pad has no fault.
            start = pad.endOfOrder(start) + 1;
        }
        pad.clear();
        return done;
    }

    // ---- undo, saving

    public int undo() {
        if (changes <= 0) {
            return NOT_POSSIBLE;
        }
        changes--;
        game.readFrom(past, changes * Game.SIZE);
        return changes;
    }

    public int save(int slot) {
        if (!isWithin(slot, isSaved.length)) {
            return BAD_VALUE;
        }
        game.writeTo(slots, slot * Game.SIZE);
        isSaved[slot] = true;
        return game.code();
    }

    public int restore(int slot) {
        if (!isWithin(slot, isSaved.length)) {
            return BAD_VALUE;
        }
        if (!isSaved[slot]) {
            return NOT_POSSIBLE;
        }
        record();
        game.readFrom(slots, slot * Game.SIZE);
        return game.code();
    }

    // ---- what the calls share

    private static boolean isWithin(int number, int bound) {
        return number >= 0 && number < bound;
    }

    private static boolean has(int set, int member) {
        return (set >> member & 1) == 1;
    }

    private static int lowestIn(int actions) {
        for (int action = 0; action < ACTIONS; action++) {
            if (has(actions, action)) {
                return action;
            }
        }
        return NONE;
    }

    /** One part of the fraction above/below, as it is in lowest terms. */
    private static int shortened(int part, int above, int below) {
        int divisor = Math.abs(above), rest = below;
        for (int step = 0; step < 100 && rest != 0; step++) {
            int next = divisor % rest;
            divisor = rest;
            rest = next;
        }
        return divisor == 0 ? part : part / divisor;
    }

    private int weightError(int type, int weight) {
        if (!isWithin(type, TYPES)) {
            return NO_SUCH;
        }
        if (weight < 0 || weight > HEAVIEST) {
            return BAD_VALUE;
        }
        int others = game.weightSum() - game.cell(Game.weightPlace(type));
        return others + weight == 0 ? NOT_POSSIBLE : FINE;
    }

    private int beliefError(int message, int type, int weight) {
        if (!isWithin(message, MESSAGES) || !isWithin(type, TYPES)) {
            return NO_SUCH;
        }
        if (weight < 0 || weight > HEAVIEST) {
            return BAD_VALUE;
        }
        int others = game.toldSum(message) - game.cell(Game.toldPlace(message, type));
        return others + weight == 0 ? NOT_POSSIBLE : FINE;
    }

    /** Every change calls this once it can't fail any more, and before anything is different. */
    private void record() {
        if (changes >= HISTORY) {
            System.arraycopy(past, Game.SIZE, past, 0, (HISTORY - 1) * Game.SIZE);
            changes = HISTORY - 1;
        }
        game.writeTo(past, changes * Game.SIZE);
        changes++;
    }

    /** How many characters the number tells, 0 if it tells none or is not a legal one. */
    private static int charactersIn(long characters) {
        for (int i = 0; i < MOST_CHARACTERS; i++) {
            int character = characterOf(characters, i);
            if (character == 0) {
                return characters >>> 8 * i == 0 ? i : 0;
            }
            if (character < 33 || character > 126) {
                return 0;
            }
        }
        return MOST_CHARACTERS;
    }

    private static int characterOf(long characters, int fromLast) {
        return (int) (characters >>> 8 * fromLast) & 255;
    }

    /** Carries out the order that starts there, and tells whether it could be done. */
    private boolean isDone(int start) {
        int first = pad.digitAt(start + 1), second = pad.digitAt(start + 2), third = pad.digitAt(start + 3);
        int last = pad.lastNumberOf(start);
        switch (pad.signAt(start)) {
            case 'w': return isChanged(weightError(first, last), Game.weightPlace(first), last);
            case 's': return isChanged(FINE, Game.messagePlace(first), last);
            case 'a': return isChanged(FINE, Game.answerPlace(first), last);
            case 'u': return isChanged(FINE, Game.payPlace(SENDER, first, second, third), last);
            case 'v': return isChanged(FINE, Game.payPlace(RECEIVER, first, second, third), last);
            case 'o': return isChanged(beliefError(first, second, last), Game.toldPlace(first, second), last);
            default: return false;
        }
    }

    private boolean isChanged(int error, int place, int value) {
        if (error != FINE) {
            return false;
        }
        game.change(place, value);
        return true;
    }

    /** Weights, told beliefs, payoffs and a plan, in one row, so that a state is kept by one copy. */
    private static final class Game {
        private static final int TOLD = TYPES, PAYS = TOLD + MESSAGES * TYPES;
        private static final int PAYS_OF_ONE = TYPES * MESSAGES * ACTIONS;
        private static final int PLAN = PAYS + 2 * PAYS_OF_ONE, ANSWERS = PLAN + TYPES;
        private static final int SIZE = ANSWERS + MESSAGES;
        private static final int SETS = 8;

        private final int[] cells;
        /** The possible actions by message and set of types; 0 where they are not known yet. */
        private final int[] possible;

        Game() {
            cells = new int[SIZE];
            possible = new int[MESSAGES * SETS];
            Arrays.fill(cells, 0, PAYS, 1);
        }

        static int weightPlace(int type) {
            return type;
        }

        static int toldPlace(int message, int type) {
            return TOLD + message * TYPES + type;
        }

        static int payPlace(int who, int type, int message, int action) {
            return PAYS + who * PAYS_OF_ONE + (type * MESSAGES + message) * ACTIONS + action;
        }

        static int messagePlace(int type) {
            return PLAN + type;
        }

        static int answerPlace(int message) {
            return ANSWERS + message;
        }

        int cell(int place) {
            return place >= 0 && place < SIZE ? cells[place] : 0;
        }

        int change(int place, int value) {
            if (!isWithin(place, SIZE)) {
                return 0;
            }
            int before = cells[place];
            cells[place] = value;
            if (place >= PAYS && place < PLAN) {
                forgetPossible();
            }
            return before;
        }

        private void forgetPossible() {
            Arrays.fill(possible, 0);
        }

        void writeTo(int[] row, int start) {
            if (start >= 0 && start <= row.length - SIZE) {
                System.arraycopy(cells, 0, row, start, SIZE);
            }
        }

        void readFrom(int[] row, int start) {
            if (start >= 0 && start <= row.length - SIZE) {
                System.arraycopy(row, start, cells, 0, SIZE);
                forgetPossible();
            }
        }

        void copyFrom(Game other) {
            readFrom(other.cells, 0);
        }

        boolean differsOnlyInPlan(Game other) {
            for (int place = 0; place < PLAN; place++) {
                if (cells[place] != other.cells[place]) {
                    return false;
                }
            }
            return true;
        }

        // ---- the plan

        int code() {
            int code = 0;
            for (int place = PLAN; place < SIZE; place++) {
                code = code * 3 + cells[place];
            }
            return code;
        }

        void takePlan(int code) {
            int rest = code;
            for (int place = SIZE - 1; place >= PLAN; place--) {
                cells[place] = rest % 3;
                rest /= 3;
            }
        }

        int typesThere() {
            int set = 0;
            for (int type = 0; type < TYPES; type++) {
                if (cell(weightPlace(type)) > 0) {
                    set |= 1 << type;
                }
            }
            return set;
        }

        int sendersOf(int message) {
            int set = 0;
            for (int type = 0; type < TYPES; type++) {
                if (cell(weightPlace(type)) > 0 && cell(messagePlace(type)) == message) {
                    set |= 1 << type;
                }
            }
            return set;
        }

        int messagesSent() {
            int set = 0;
            for (int message = 0; message < MESSAGES; message++) {
                if (sendersOf(message) != 0) {
                    set |= 1 << message;
                }
            }
            return set;
        }

        int kind() {
            int sent = Integer.bitCount(messagesSent());
            if (sent == 1) {
                return POOLING;
            }
            return sent == Integer.bitCount(typesThere()) ? SEPARATING : MIXED;
        }

        // ---- beliefs

        int weightSum() {
            int sum = 0;
            for (int type = 0; type < TYPES; type++) {
                sum += cell(weightPlace(type));
            }
            return sum;
        }

        int toldSum(int message) {
            int sum = 0;
            for (int type = 0; type < TYPES; type++) {
                sum += cell(toldPlace(message, type));
            }
            return sum;
        }

        int beliefWeight(int message, int type) {
            int senders = sendersOf(message);
            if (senders == 0) {
                return cell(toldPlace(message, type));
            }
            return has(senders, type) ? cell(weightPlace(type)) : 0;
        }

        int beliefSum(int message) {
            int sum = 0;
            for (int type = 0; type < TYPES; type++) {
                sum += beliefWeight(message, type);
            }
            return sum;
        }

        // ---- the receiver

        private int worthBy(int message, int action, int weight0, int weight1, int weight2) {
            return weight0 * cell(payPlace(RECEIVER, 0, message, action))
                + weight1 * cell(payPlace(RECEIVER, 1, message, action))
                + weight2 * cell(payPlace(RECEIVER, 2, message, action));
        }

        private int bestBy(int message, int weight0, int weight1, int weight2) {
            int set = 0, most = 0;
            for (int action = 0; action < ACTIONS; action++) {
                int worth = worthBy(message, action, weight0, weight1, weight2);
                if (set == 0 || worth > most) {
                    set = 1 << action;
                    most = worth;
                } else if (worth == most) {
                    set |= 1 << action;
                }
            }
            return set;
        }

        int worthOf(int message, int action) {
            int weight0 = beliefWeight(message, 0), weight1 = beliefWeight(message, 1), weight2 = beliefWeight(message, 2);
            return worthBy(message, action, weight0, weight1, weight2);
        }

        int bestActions(int message) {
            int weight0 = beliefWeight(message, 0), weight1 = beliefWeight(message, 1), weight2 = beliefWeight(message, 2);
            return bestBy(message, weight0, weight1, weight2);
        }

        int lowestWrongMessage() {
            for (int message = 0; message < MESSAGES; message++) {
                if (!has(bestActions(message), cell(answerPlace(message)))) {
                    return message;
                }
            }
            return NONE;
        }

        int receiverSum() {
            int sum = 0;
            for (int type = 0; type < TYPES; type++) {
                int message = cell(messagePlace(type)), action = cell(answerPlace(message));
                sum += cell(weightPlace(type)) * cell(payPlace(RECEIVER, type, message, action));
            }
            return sum;
        }

        // ---- the sender

        int payoffBy(int type, int message) {
            return cell(payPlace(SENDER, type, message, cell(answerPlace(message))));
        }

        int ownPayoff(int type) {
            return payoffBy(type, cell(messagePlace(type)));
        }

        int dearestMessage(int type) {
            int dearest = 0;
            for (int message = 1; message < MESSAGES; message++) {
                if (payoffBy(type, message) > payoffBy(type, dearest)) {
                    dearest = message;
                }
            }
            return dearest;
        }

        int lowestBetterType() {
            for (int type = 0; type < TYPES; type++) {
                boolean isThere = cell(weightPlace(type)) > 0;
                if (isThere && payoffBy(type, dearestMessage(type)) > ownPayoff(type)) {
                    return type;
                }
            }
            return NONE;
        }

        boolean isHolding() {
            return lowestBetterType() == NONE && lowestWrongMessage() == NONE;
        }

        // ---- what holds against types that would never send

        /** Many plans ask the same of one message and one set of types, so what was found is kept. */
        int possibleActions(int message, int types) {
            int place = message * SETS + types;
            if (!isWithin(place, possible.length)) {
                return 0;
            }
            if (possible[place] != 0) {
                return possible[place];
            }
            int most0 = has(types, 0) ? HEAVIEST_POSSIBLE : 0;
            int most1 = has(types, 1) ? HEAVIEST_POSSIBLE : 0;
            int most2 = has(types, 2) ? HEAVIEST_POSSIBLE : 0;
            int set = 0;
            for (int weight0 = 0; weight0 <= most0; weight0++) {
                for (int weight1 = 0; weight1 <= most1; weight1++) {
                    for (int weight2 = 0; weight2 <= most2; weight2++) {
                        if (weight0 + weight1 + weight2 > 0) {
                            set |= bestBy(message, weight0, weight1, weight2);
                        }
                    }
                }
            }
            possible[place] = set;
            return set;
        }

        private int mostByAny(int type, int message, int actions) {
            int most = -HIGHEST_PAY;
            for (int action = 0; action < ACTIONS; action++) {
                if (has(actions, action)) {
                    most = Math.max(most, cell(payPlace(SENDER, type, message, action)));
                }
            }
            return most;
        }

        private int leastByAny(int type, int message, int actions) {
            int least = HIGHEST_PAY;
            for (int action = 0; action < ACTIONS; action++) {
                if (has(actions, action)) {
                    least = Math.min(least, cell(payPlace(SENDER, type, message, action)));
                }
            }
            return least;
        }

        int neverSenders(int message) {
            if (sendersOf(message) != 0) {
                return 0;
            }
            int there = typesThere(), actions = possibleActions(message, there);
            int set = 0;
            for (int type = 0; type < TYPES; type++) {
                if (has(there, type) && ownPayoff(type) > mostByAny(type, message, actions)) {
                    set |= 1 << type;
                }
            }
            return set;
        }

        /** Whether no type that might send an unsent message is sure to gain by it; if the plan holds, it is refined. */
        boolean isUntempted() {
            for (int message = 0; message < MESSAGES; message++) {
                if (sendersOf(message) != 0) {
                    continue;
                }
                int willing = typesThere() & ~neverSenders(message);
                int actions = possibleActions(message, willing);
                for (int type = 0; type < TYPES; type++) {
                    if (has(willing, type) && ownPayoff(type) < leastByAny(type, message, actions)) {
                        return false;
                    }
                }
            }
            return true;
        }
    }

    /** All plans that hold; they are looked for anew only if weights, beliefs or payoffs differ from last time. */
    private static final class Survey {
        private static final int HOLDING = 0, REFINED = 1, FIRST_KIND = 2, NUMBERS = 5;
        private static final int UNKNOWN = -1;

        private final Game trial;
        private final int[] codes;
        private final int[] numbers;
        private boolean isMade;

        Survey() {
            trial = new Game();
            codes = new int[ALL_PLANS];
            numbers = new int[NUMBERS];
            isMade = false;
        }

        int numberOf(Game game, int what) {
            look(game);
            if (!isWithin(what, NUMBERS)) {
                return 0;
            }
            if (numbers[what] != UNKNOWN) {
                return numbers[what];
            }
            int number = 0;
            for (int place = 0; place < numbers[HOLDING]; place++) {
                trial.takePlan(codeAt(place));
                boolean counts = what == REFINED ? trial.isUntempted() : trial.kind() == what - FIRST_KIND;
                if (counts) {
                    number++;
                }
            }
            numbers[what] = number;
            return number;
        }

        int codeAt(int place) {
            return isWithin(place, codes.length) ? codes[place] : 0;
        }

        int receiverSumAt(int place) {
            trial.takePlan(codeAt(place));
            return trial.receiverSum();
        }

        int bestPlace(Game game) {
            look(game);
            int best = NONE, most = 0;
            for (int place = 0; place < numbers[HOLDING]; place++) {
                int sum = receiverSumAt(place);
                if (best == NONE || sum > most) {
                    best = place;
                    most = sum;
                }
            }
            return best;
        }

        private void look(Game game) {
            if (isMade && trial.differsOnlyInPlan(game)) {
                return;
            }
            isMade = true;
            trial.copyFrom(game);
            Arrays.fill(numbers, UNKNOWN);
            numbers[HOLDING] = 0;
            for (int sending = 0; sending < WAYS; sending++) {
                addPlans(sending);
            }
        }

        /** What is best depends on who sends what alone, so it is asked once for all ways to answer. */
        private void addPlans(int sending) {
            int first = sending * WAYS;
            trial.takePlan(first);
            int best0 = trial.bestActions(0), best1 = trial.bestActions(1), best2 = trial.bestActions(2);
            for (int answering = 0; answering < WAYS; answering++) {
                if (!has(best0, answering / 9) || !has(best1, answering / 3 % 3) || !has(best2, answering % 3)) {
                    continue;
                }
                trial.takePlan(first + answering);
                int place = numbers[HOLDING];
                if (trial.lowestBetterType() == NONE && isWithin(place, codes.length)) {
                    codes[place] = first + answering;
                    numbers[HOLDING]++;
                }
            }
        }
    }

    /**
     * A row of orders as a text. Behind its end stands 0, which fits nowhere, so that a text which ends too early
     * needs no test of its own.
     */
    private static final class Pad {
        private static final int END = 0;

        private final int[] signs;
        private int length;

        Pad() {
            signs = new int[LONGEST_PAD];
            length = 0;
        }

        int length() {
            return length;
        }

        void append(int sign) {
            if (isWithin(length, signs.length)) {
                signs[length] = sign;
                length++;
            }
        }

        void clear() {
            length = 0;
        }

        int signAt(int place) {
            return place >= 0 && place < length && place < signs.length ? signs[place] : END;
        }

        int digitAt(int place) {
            int sign = signAt(place);
            return sign >= '0' && sign <= '9' ? sign - '0' : 0;
        }

        /** What stands behind the letter of an order: '0' for a digit, '9' for a number, else the sign itself. */
        private String shapeOf(int start) {
            switch (signAt(start)) {
                case 'w': return "0=9";
                case 's': return "0>0";
                case 'a': return "0>0";
                case 'u': return signAt(start + 5) == '-' ? "000=-9" : "000=9";
                case 'v': return signAt(start + 5) == '-' ? "000=-9" : "000=9";
                case 'o': return "00=9";
                default: return "";
            }
        }

        private static boolean fits(int sign, char part) {
            switch (part) {
                case '0': return sign >= '0' && sign <= '2';
                case '9': return sign >= '0' && sign <= '9';
                default: return sign == part;
            }
        }

        int endOfOrder(int start) {
            return start + 1 + shapeOf(start).length();
        }

        int lastNumberOf(int start) {
            int end = endOfOrder(start), number = digitAt(end - 1);
            return signAt(end - 2) == '-' ? -number : number;
        }

        private int faultOfOrder(int start) {
            String shape = shapeOf(start);
            if (shape.isEmpty()) {
                return start;
            }
            for (int i = 0; i < shape.length(); i++) {
                if (!fits(signAt(start + 1 + i), shape.charAt(i))) {
                    return start + 1 + i;
                }
            }
            return NONE;
        }

        int faultPlace() {
            int start = 0;
            for (int orders = 0; orders < LONGEST_PAD; orders++) {
                int fault = faultOfOrder(start), end = endOfOrder(start);
                if (fault != NONE) {
                    return fault;
                }
                if (signAt(end) == END) {
                    return NONE;
                }
                if (signAt(end) != ';') {
                    return end;
                }
                start = end + 1;
            }
            return length;
        }
    }
}
