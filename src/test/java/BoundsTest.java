/**
 * Each number that a call takes, at its least and its greatest value and at one below and one above them, in all
 * combinations with the others: what a call answers then, or which error comes first.
 */
public final class BoundsTest {
    private static final int[] THREE = {Due.LEAST, -1, 0, 1, 2, 3, Due.MOST};
    private static final int[] TWO = {Due.LEAST, -1, 0, 1, 2, Due.MOST};
    private static final int[] WEIGHTS = {Due.LEAST, -10, -1, 0, 1, 9, 10, 256, Due.MOST};
    private static final int[] VALUES = {Due.LEAST, -10, -9, -1, 0, 9, 10, Due.MOST};

    public static void main(String[] args) {
        weights();
        lastWeights();
        beliefs();
        lastBeliefs();
        pays();
        payoffs();
        greatestAndLeastPayoffs();
        sendsAndAnswers();
        adoptsAndPlaces();
        ofTypes();
        ofMessages();
        fractions();
        numbers();
        slots();
        constants();
        Due.end();
    }

    private static boolean isThree(int number) {
        return Due.isIn(number, 0, 2);
    }

    private static void weights() {
        for (int type : THREE) {
            for (int weight : WEIGHTS) {
                MessageGames x = new MessageGames();
                boolean isWeight = Due.isIn(weight, 0, 9);
                Due.is("weight(" + type + ", " + weight + ")", x.weight(type, weight), !isThree(type) ? -1 : !isWeight ? -2 : 1);
                if (isThree(type)) {
                    Due.is("the weight then", x.ofType(type, 0), isWeight ? weight : 1);
                }
            }
        }
    }

    /** Only one type is there, so that it must not go; the codes come in this order all the same. */
    private static void lastWeights() {
        for (int last = 0; last < 3; last++) {
            for (int type : THREE) {
                for (int weight : WEIGHTS) {
                    MessageGames x = new MessageGames();
                    for (int other = 0; other < 3; other++) {
                        x.weight(other, other == last ? 1 : 0);
                    }
                    int want = !isThree(type) ? -1 : !Due.isIn(weight, 0, 9) ? -2 : type != last ? 0 : weight == 0 ? -5 : 1;
                    Due.is("weight(" + type + ", " + weight + "), only " + last + " is there", x.weight(type, weight), want);
                    Due.is("the last weight then", x.ofType(last, 0), type == last && want == 1 ? weight : 1);
                }
            }
        }
    }

    private static void beliefs() {
        for (int message : THREE) {
            for (int type : THREE) {
                for (int weight : WEIGHTS) {
                    MessageGames x = new MessageGames();
                    boolean isThere = isThree(message) && isThree(type), isWeight = Due.isIn(weight, 0, 9);
                    Due.is("believe(" + message + ", " + type + ", " + weight + ")", x.believe(message, type, weight),
                        !isThere ? -1 : !isWeight ? -2 : 1);
                    if (isThere) {
                        Due.is("the belief then", x.believe(message, type, 1), isWeight ? weight : 1);
                    }
                }
            }
        }
    }

    /** All beliefs about all messages are of one type each; those about the other messages are of no help. */
    private static void lastBeliefs() {
        for (int about = 0; about < 3; about++) {
            for (int last = 0; last < 3; last++) {
                for (int type : THREE) {
                    for (int weight : WEIGHTS) {
                        MessageGames x = new MessageGames();
                        for (int other = 0; other < 3; other++) {
                            x.believe(about, other, other == last ? 1 : 0);
                        }
                        int want = !isThree(type) ? -1 : !Due.isIn(weight, 0, 9) ? -2 : type != last ? 0 : weight == 0 ? -5 : 1;
                        Due.is("believe(" + about + ", " + type + ", " + weight + "), only in " + last,
                            x.believe(about, type, weight), want);
                        Due.is("the last belief then", x.believe(about, last, 9), type == last && want == 1 ? weight : 1);
                    }
                }
            }
        }
        MessageGames x = new MessageGames();
        for (int message = 0; message < 3; message++) {
            Due.is("the first one", x.believe(message, message, 0), 1);
            Due.is("the second one", x.believe(message, (message + 1) % 3, 0), 1);
        }
        Due.is("the last one", x.believe(2, 1, 0), -5);
    }

    private static void pays() {
        for (int who : TWO) {
            for (int type : THREE) {
                for (int message : THREE) {
                    for (int action : THREE) {
                        for (int value : VALUES) {
                            MessageGames x = new MessageGames();
                            boolean isThere = isThree(type) && isThree(message) && isThree(action);
                            boolean isGood = Due.isIn(who, 0, 1) && Due.isIn(value, -9, 9);
                            Due.is("pay(" + who + ", " + type + ", " + message + ", " + action + ", " + value + ")",
                                x.pay(who, type, message, action, value), !isThere ? -1 : !isGood ? -2 : 100);
                            if (isThere && Due.isIn(who, 0, 1)) {
                                Due.is("the payoff then", x.payoff(who, type, message, action), isGood ? 100 + value : 100);
                            }
                        }
                    }
                }
            }
        }
    }

    private static void payoffs() {
        MessageGames x = null;
        for (int who : TWO) {
            for (int type : THREE) {
                for (int message : THREE) {
                    x = new MessageGames();
                    for (int action : THREE) {
                        boolean isThere = isThree(type) && isThree(message) && isThree(action);
                        Due.is("payoff(" + who + ", " + type + ", " + message + ", " + action + ")",
                            x.payoff(who, type, message, action), !isThere ? -1 : !Due.isIn(who, 0, 1) ? -2 : 100);
                    }
                }
            }
        }
    }

    /** Each payoff has a place of its own, and comes back as it was, and 100 more. */
    private static void greatestAndLeastPayoffs() {
        for (int place = 0; place < 54; place++) {
            int who = place / 27, type = place / 9 % 3, message = place / 3 % 3, action = place % 3;
            MessageGames x = new MessageGames();
            Due.is("pay, -9", x.pay(who, type, message, action, -9), 100);
            Due.is("payoff", x.payoff(who, type, message, action), 91);
            Due.is("pay, 9", x.pay(who, type, message, action, 9), 91);
            Due.is("payoff", x.payoff(who, type, message, action), 109);
            int sum = 0;
            for (int other = 0; other < 54; other++) {
                sum += x.payoff(other / 27, other / 9 % 3, other / 3 % 3, other % 3);
            }
            Due.is("no other payoff is different", sum, 5409);
            Due.is("pay, 0", x.pay(who, type, message, action, 0), 109);
        }
    }

    private static void sendsAndAnswers() {
        for (int first : THREE) {
            for (int second : THREE) {
                boolean isThere = isThree(first) && isThree(second);
                MessageGames x = new MessageGames();
                Due.is("send(" + first + ", " + second + ")", x.send(first, second), isThere ? 0 : -1);
                if (isThree(first)) {
                    Due.is("the message then", x.ofType(first, 1), isThere ? second : 0);
                    Due.is("send, the previous one", x.send(first, 0), isThere ? second : 0);
                }
                Due.is("answer(" + first + ", " + second + ")", x.answer(first, second), isThere ? 0 : -1);
                if (isThree(first)) {
                    Due.is("the answer then", x.ofMessage(first, 1), isThere ? second : 0);
                    Due.is("answer, the previous one", x.answer(first, 0), isThere ? second : 0);
                }
            }
        }
    }

    /** The first and the last plan that holds, and one beyond each, of all, of some, of one and of none. */
    private static void adoptsAndPlaces() {
        String oneAnswer = "v001=1;v101=1;v201=1;v011=1;v111=1;v211=1;v021=1;v121=1;v221=1";
        String ownMessages = "u001=1;u111=1;u221=1";
        String[][] games = {{}, {oneAnswer}, {oneAnswer, ownMessages}, {"w2=0;v100=1;v101=-1;v001=1;u100=-1;u001=-1;u011=-1;u000=1"}};
        int[] sizes = {729, 27, 1, 0}, firsts = {0, 13, 5 * 27 + 13, -1}, lasts = {728, 26 * 27 + 13, 5 * 27 + 13, -1};
        for (int game = 0; game < games.length; game++) {
            MessageGames x = new MessageGames();
            for (String orders : games[game]) {
                Due.play(x, orders);
            }
            int size = sizes[game];
            Due.is("plans(0)", x.plans(0), size);
            Due.is("planAt(0)", x.planAt(0), firsts[game]);
            Due.is("planAt, the last one", x.planAt(size - 1), lasts[game]);
            for (int place : new int[] {-1, size, size + 1, 729, Due.MOST, Due.LEAST}) {
                Due.is("planAt(" + place + ")", x.planAt(place), -1);
                Due.is("adopt(" + place + ")", x.adopt(place), -1);
            }
            Due.is("nothing was taken", x.count(5), 0);
            Due.is("adopt(0)", x.adopt(0), size == 0 ? -1 : size);
            Due.is("the first one", x.count(5), Math.max(firsts[game], 0));
            Due.is("adopt, the last one", x.adopt(size - 1), size == 0 ? -1 : size);
            Due.is("the last one", x.count(5), Math.max(lasts[game], 0));
        }
    }

    private static void ofTypes() {
        int[] fresh = {1, 0, 100, 0, 0};
        for (int type : THREE) {
            MessageGames x = new MessageGames();
            for (int what : new int[] {Due.LEAST, -1, 0, 1, 2, 3, 4, 5, 6, Due.MOST}) {
                Due.is("ofType(" + type + ", " + what + ")", x.ofType(type, what),
                    !isThree(type) ? -1 : !Due.isIn(what, 0, 4) ? -2 : fresh[what]);
            }
        }
    }

    private static void ofMessages() {
        int[] sent = {1, 0, 7, 7, 0, 7}, unsent = {0, 0, 7, 0, 0, 7};
        for (int message : THREE) {
            MessageGames x = new MessageGames();
            for (int what : new int[] {Due.LEAST, -1, 0, 1, 2, 3, 4, 5, 6, 7, Due.MOST}) {
                Due.is("ofMessage(" + message + ", " + what + ")", x.ofMessage(message, what),
                    !isThree(message) ? -1 : !Due.isIn(what, 0, 5) ? -2 : message == 0 ? sent[what] : unsent[what]);
            }
        }
    }

    private static void fractions() {
        for (int message : THREE) {
            for (int second : THREE) {
                MessageGames x = new MessageGames();
                for (int what : TWO) {
                    int error = !isThree(message) || !isThree(second) ? -1 : !Due.isIn(what, 0, 1) ? -2 : 0;
                    Due.is("belief(" + message + ", " + second + ", " + what + ")", x.belief(message, second, what),
                        error != 0 ? error : what == 0 ? 1 : 3);
                    Due.is("mean(" + message + ", " + second + ", " + what + ")", x.mean(message, second, what),
                        error != 0 ? error : what == 0 ? 1000 : 1);
                }
            }
        }
    }

    private static void numbers() {
        int[] counts = {1, 0, 1, 7, 1, 0, 0, 0}, plans = {729, 729, 81, 162, 486}, whys = {0, -6}, bests = {0, 1000};
        MessageGames x = new MessageGames();
        for (int what : new int[] {Due.LEAST, -2, -1, 0, 1, 2, 3, 4, 5, 6, 7, 8, 9, Due.MOST}) {
            Due.is("why(" + what + ")", x.why(what), Due.isIn(what, 0, 1) ? whys[what] : -2);
            Due.is("count(" + what + ")", x.count(what), Due.isIn(what, 0, 7) ? counts[what] : -2);
            Due.is("plans(" + what + ")", x.plans(what), Due.isIn(what, 0, 4) ? plans[what] : -2);
            Due.is("bestPlan(" + what + ")", x.bestPlan(what), Due.isIn(what, 0, 1) ? bests[what] : -2);
            Due.is("bestAnswer(" + what + ")", x.bestAnswer(what), isThree(what) ? 0 : -1);
        }
        MessageGames none = Due.played("w2=0;v100=1;v101=-1;u100=-1;u001=-1;u011=-1;v001=1;u000=1");
        for (int what : new int[] {Due.LEAST, -1, 0, 1, 2, 3, 4, 5, Due.MOST}) {
            Due.is("plans(" + what + "), none", none.plans(what), Due.isIn(what, 0, 4) ? 0 : -2);
            Due.is("bestPlan(" + what + "), none", none.bestPlan(what), Due.isIn(what, 0, 1) ? -6 : -2);
        }
    }

    private static void slots() {
        for (int slot : TWO) {
            MessageGames x = new MessageGames();
            Due.is("restore(" + slot + "), nothing saved", x.restore(slot), Due.isIn(slot, 0, 1) ? -5 : -2);
            Due.is("save(" + slot + ")", x.save(slot), Due.isIn(slot, 0, 1) ? 0 : -2);
            Due.is("restore(" + slot + ")", x.restore(slot), Due.isIn(slot, 0, 1) ? 0 : -2);
            Due.is("the other slot", x.restore(1 - Math.max(0, Math.min(1, slot))), -5);
        }
    }

    private static void constants() {
        Due.is("NO_SUCH", MessageGames.NO_SUCH, -1);
        Due.is("BAD_VALUE", MessageGames.BAD_VALUE, -2);
        Due.is("BAD_TEXT", MessageGames.BAD_TEXT, -3);
        Due.is("TOO_MANY", MessageGames.TOO_MANY, -4);
        Due.is("NOT_POSSIBLE", MessageGames.NOT_POSSIBLE, -5);
        Due.is("NONE", MessageGames.NONE, -6);
    }
}
