/** Possible actions, types that would never send a message, and refined plans, by every type, message and action. */
public final class RefinedTest {
    private static final int[][] ORDERS = {{0, 1, 2}, {0, 2, 1}, {1, 0, 2}, {1, 2, 0}, {2, 0, 1}, {2, 1, 0}};
    private static final int SENDER = 0, RECEIVER = 1;

    public static void main(String[] args) {
        possibleAtOneRatioAlone();
        possibleAtTheHeaviestBeliefs();
        possibleByCertaintyAlone();
        possibleAmongThoseThatAreThere();
        possibleWhetherSentOrNot();
        neverIfGreaterThanEach();
        neverWhatIsSent();
        refinedByEveryOrder();
        payoffsFromLeastToGreatest();
        unsentMessagesOneByOne();
        refinedOfAll();
        Due.end();
    }

    private static void receive(MessageGames x, int message, int action, int... pays) {
        for (int type = 0; type < pays.length; type++) {
            x.pay(RECEIVER, type, message, action, pays[type]);
        }
    }

    /**
     * Action 1 is as good as the others where the weights are as b to a, and worse everywhere else; so it is possible
     * only if weights of 0 to 4 can be so. The third type, which isn't there, would like it best.
     */
    private static void possibleAtOneRatioAlone() {
        for (int[] types : ORDERS) {
            for (int message = 0; message < 3; message++) {
                for (int a = 1; a <= 9; a++) {
                    for (int b = 1; b <= 9; b++) {
                        MessageGames x = new MessageGames();
                        x.weight(types[2], 0);
                        x.pay(RECEIVER, types[0], message, 0, a);
                        x.pay(RECEIVER, types[1], message, 0, -b);
                        x.pay(RECEIVER, types[0], message, 2, -a);
                        x.pay(RECEIVER, types[1], message, 2, b);
                        x.pay(RECEIVER, types[2], message, 1, 9);
                        int largest = Math.max(a, b) / commonest(a, b);
                        Due.is("possible at " + b + " to " + a, x.ofMessage(message, 5), largest <= 4 ? 7 : 5);
                    }
                }
            }
        }
    }

    private static int commonest(int a, int b) {
        int divisor = Math.min(a, b);
        while (a % divisor != 0 || b % divisor != 0) {
            divisor--;
        }
        return divisor;
    }

    /** The action is as good as the others where two types together weigh so many times as much as the third. */
    private static void possibleAtTheHeaviestBeliefs() {
        for (int[] types : ORDERS) {
            for (int[] actions : ORDERS) {
                for (int share = 7; share <= 9; share++) {
                    MessageGames x = new MessageGames();
                    int[] pays = {1, 1, -share};
                    for (int i = 0; i < 3; i++) {
                        x.pay(RECEIVER, types[i], 1, actions[0], pays[i]);
                        x.pay(RECEIVER, types[i], 1, actions[2], -pays[i]);
                    }
                    // 4 and 4 against 1 are 8 times as much, and there is no belief by which it is more, or all are 0.
                    int want = 1 << actions[0] | 1 << actions[2] | (share <= 8 ? 1 << actions[1] : 0);
                    Due.is("possible at 1 and 1 against " + share, x.ofMessage(1, 5), want);
                }
            }
        }
    }

    /** An action that is best only if it is certain that one type sends, since any of the others would cost too much. */
    private static void possibleByCertaintyAlone() {
        for (int[] types : ORDERS) {
            for (int action = 0; action < 3; action++) {
                MessageGames x = new MessageGames();
                x.pay(RECEIVER, types[0], 2, action, 1);
                x.pay(RECEIVER, types[1], 2, action, -9);
                x.pay(RECEIVER, types[2], 2, action, -9);
                Due.is("all are possible", x.ofMessage(2, 5), 7);
                x.pay(RECEIVER, types[0], 2, action, -1);
                Due.is("never best", x.ofMessage(2, 5), 7 & ~(1 << action));
                x.pay(RECEIVER, types[0], 2, action, 0);
                Due.is("as good as the others", x.ofMessage(2, 5), 7);
                x.weight(types[0], 0);
                Due.is("the type isn't there", x.ofMessage(2, 5), 7 & ~(1 << action));
            }
        }
    }

    /** Each type has an action of its own that is best for it alone: possible are those of the types that are there. */
    private static void possibleAmongThoseThatAreThere() {
        for (int[] actions : ORDERS) {
            for (int there = 1; there < 8; there++) {
                MessageGames x = new MessageGames();
                int want = 0;
                for (int type = 0; type < 3; type++) {
                    x.pay(RECEIVER, type, 0, actions[type], 5);
                    want |= (there >> type & 1) == 1 ? 1 << actions[type] : 0;
                }
                Due.is("possible among all three", x.ofMessage(0, 5), 7);
                Due.is("at the other message", x.ofMessage(1, 5), 7);
                for (int type = 0; type < 3; type++) {
                    x.weight(type, 9);
                }
                for (int type = 0; type < 3; type++) {
                    if ((there >> type & 1) == 0) {
                        x.weight(type, 0);
                    }
                }
                Due.is("possible among " + there, x.ofMessage(0, 5), want);
                Due.is("at the other message", x.ofMessage(1, 5), 7);
            }
        }
    }

    private static void possibleWhetherSentOrNot() {
        MessageGames x = Due.played("v000=1;v101=1;w2=0;o00=0");
        Due.is("sent", x.ofMessage(0, 5), 3);
        Due.play(x, "s0>1;s1>2");
        Due.is("not sent", x.ofMessage(0, 5), 3);
        Due.play(x, "o01=0;o02=1;w0=9;w1=1");
        Due.is("whatever is believed, whatever they weigh", x.ofMessage(0, 5), 3);
    }

    /** The type's payoff is its greatest payoff by that message with a possible action, one above it and one below it. */
    private static void neverIfGreaterThanEach() {
        for (int[] types : ORDERS) {
            for (int[] messages : ORDERS) {
                for (int[] actions : ORDERS) {
                    for (int own = 3; own <= 5; own++) {
                        MessageGames x = new MessageGames();
                        for (int type = 0; type < 3; type++) {
                            x.send(type, messages[0]);
                        }
                        x.answer(messages[0], 1);
                        x.pay(SENDER, types[0], messages[0], 1, own);
                        x.pay(SENDER, types[0], messages[1], actions[0], 4);
                        x.pay(SENDER, types[0], messages[1], actions[1], -9);
                        x.pay(SENDER, types[0], messages[1], actions[2], 9);
                        receive(x, messages[1], actions[2], -1, -1, -1);
                        int never = own > 4 ? 1 << types[0] : 0;
                        Due.is("never at " + own, x.ofMessage(messages[1], 4), never);
                        x.pay(RECEIVER, types[1], messages[1], actions[2], 0);
                        Due.is("one more is possible", x.ofMessage(messages[1], 4), 0);
                        x.weight(types[1], 0);
                        Due.is("it is possible no more", x.ofMessage(messages[1], 4), never);
                        x.weight(types[0], 0);
                        Due.is("the type isn't there", x.ofMessage(messages[1], 4), 0);
                    }
                }
            }
        }
    }

    private static void neverWhatIsSent() {
        for (int sender = 0; sender < 3; sender++) {
            for (int message = 0; message < 3; message++) {
                MessageGames x = new MessageGames();
                for (int type = 0; type < 3; type++) {
                    x.send(type, (message + 1) % 3);
                    x.pay(SENDER, type, (message + 1) % 3, 0, 1);
                }
                Due.is("never", x.ofMessage(message, 4), 7);
                x.send(sender, message);
                Due.is("it is sent", x.ofMessage(message, 4), 0);
                x.weight(sender, 0);
                Due.is("sent by one that isn't there", x.ofMessage(message, 4), 7 & ~(1 << sender));
            }
        }
    }

    /**
     * The game of beer and quiche, by all ways to name its types (strong, weak, not there), its messages (quiche, which
     * both send, beer, one that nobody wants) and its actions (keep, fight, one that is never best).
     */
    private static final class Brew {
        final int[] types, messages, actions;
        final MessageGames x = new MessageGames();

        Brew(int[] types, int[] messages, int[] actions) {
            this.types = types;
            this.messages = messages;
            this.actions = actions;
            for (int message = 0; message < 3; message++) {
                receiver(message, 0, 1, 0, 9);
                receiver(message, 1, 0, 1, 9);
                receiver(message, 2, -9, -9, 9);
            }
            receiver(2, 1, 0, 0, 0);
            sender(0, 2, 0, 0, 3, 1, 1);
            sender(1, 3, 1, 9, 2, 0, 9);
            sender(2, -9, -9, 9, -9, -9, 9);
            x.weight(types[0], 9);
            x.weight(types[2], 0);
            x.believe(messages[1], types[0], 0);
            x.believe(messages[1], types[2], 0);
            x.send(types[0], messages[0]);
            x.send(types[1], messages[0]);
            x.send(types[2], messages[1]);
            x.answer(messages[0], actions[0]);
            x.answer(messages[1], actions[1]);
            x.answer(messages[2], actions[0]);
        }

        void receiver(int message, int action, int strong, int weak, int absent) {
            int[] pays = {strong, weak, absent};
            for (int i = 0; i < 3; i++) {
                x.pay(RECEIVER, types[i], messages[message], actions[action], pays[i]);
            }
        }

        /** What the strong one and the weak one have by a message, by each action; the third one longs for all of it. */
        void sender(int message, int keep, int fight, int other, int weakKeep, int weakFight, int weakOther) {
            int[] pays = {keep, fight, other}, weak = {weakKeep, weakFight, weakOther};
            for (int i = 0; i < 3; i++) {
                x.pay(SENDER, types[0], messages[message], actions[i], pays[i]);
                x.pay(SENDER, types[1], messages[message], actions[i], weak[i]);
                x.pay(SENDER, types[2], messages[message], actions[i], message == 0 ? -9 : 9);
            }
        }

        void of(int type, int message, int action, int value) {
            x.pay(SENDER, types[type], messages[message], actions[action], value);
        }

        int set(int... members) {
            int set = 0;
            for (int type : members) {
                set |= 1 << types[type];
            }
            return set;
        }

        void due(String told, int never, int refined) {
            Due.is(told + ": it holds", x.count(0), 1);
            Due.is(told + ": never beer", x.ofMessage(messages[1], 4), never);
            Due.is(told + ": refined", x.count(2), refined);
        }
    }

    private static void refinedByEveryOrder() {
        for (int[] types : ORDERS) {
            for (int[] messages : ORDERS) {
                for (int[] actions : ORDERS) {
                    tempting(new Brew(types, messages, actions));
                    possibleAmongThese(new Brew(types, messages, actions));
                    noneSuch(new Brew(types, messages, actions));
                    notHolding(new Brew(types, messages, actions));
                }
            }
        }
    }

    private static void tempting(Brew brew) {
        brew.due("the strong one would have beer", brew.set(1), 0);
        brew.of(0, 1, 0, 2);
        brew.due("as great is not less", brew.set(1), 1);
        brew.of(0, 1, 0, 3);
        brew.due("less again", brew.set(1), 0);
        brew.of(1, 1, 0, 3);
        brew.due("the weak one might, by as much as it has", 0, 1);
        brew.of(1, 1, 0, 4);
        brew.due("the weak one might, by more", 0, 1);
        brew.of(1, 1, 0, 2);
        brew.of(2, 1, 0, -9);
        brew.due("the one that isn't there is of no account", brew.set(1), 0);
    }

    private static void possibleAmongThese(Brew brew) {
        brew.of(0, 1, 2, -9);
        brew.due("what is not possible is of no account", brew.set(1), 0);
        brew.receiver(1, 2, 1, -9, 0);
        brew.due("the weak one might, since one more is possible", 0, 1);
        brew.of(1, 1, 2, 2);
        brew.due("less than one, and not than the other", brew.set(1), 1);
        brew.of(0, 1, 2, 2);
        brew.due("less than one, and as great as the other", brew.set(1), 1);
        brew.of(0, 1, 2, 3);
        brew.due("less than each", brew.set(1), 0);
        brew.receiver(1, 0, 0, 0, 9);
        brew.due("only one action is possible among these", brew.set(1), 0);
        brew.of(0, 1, 0, 1);
        brew.due("the other action is not", brew.set(1), 0);
    }

    private static void noneSuch(Brew brew) {
        brew.of(0, 1, 0, 1);
        brew.due("both never", brew.set(0, 1), 1);
        brew.x.weight(brew.types[1], 0);
        brew.x.believe(brew.messages[1], brew.types[0], 1);
        brew.x.believe(brew.messages[1], brew.types[1], 0);
        brew.x.answer(brew.messages[1], brew.actions[0]);
        brew.due("just one, and never", brew.set(0), 1);
        brew.of(0, 1, 0, 2);
        brew.due("just one, and as great", 0, 1);
        brew.x.believe(brew.messages[1], brew.types[1], 9);
        brew.x.answer(brew.messages[1], brew.actions[1]);
        brew.due("just one, and another answer", 0, 1);
        brew.of(0, 1, 0, 3);
        brew.due("just one, and less", 0, 0);
    }

    private static void notHolding(Brew brew) {
        brew.of(0, 1, 0, 2);
        brew.due("refined", brew.set(1), 1);
        brew.x.answer(brew.messages[1], brew.actions[0]);
        Due.is("it doesn't hold", brew.x.count(0), 0);
        Due.is("so it isn't refined", brew.x.count(2), 0);
        brew.x.answer(brew.messages[1], brew.actions[1]);
        brew.due("refined again", brew.set(1), 1);
        brew.x.pay(SENDER, brew.types[0], brew.messages[0], brew.actions[0], 0);
        Due.is("a type would do better", brew.x.count(0), 0);
        Due.is("so it isn't refined", brew.x.count(2), 0);
    }

    /**
     * Just one type, which has this by its message and that by another, with the only action that is possible there.
     * That message is answered by another action, as is best for a type that isn't there.
     */
    private static void payoffsFromLeastToGreatest() {
        for (int own = -9; own <= 9; own++) {
            for (int other = -9; other <= 9; other++) {
                MessageGames x = Due.played("w1=0;w2=0;o10=0;a1>2;v010=1;v112=1;v212=1;u012=-9;a2>1;u021=-9");
                x.pay(SENDER, 0, 0, 0, own);
                x.pay(SENDER, 0, 2, 0, -9);
                x.pay(SENDER, 0, 2, 2, -9);
                x.pay(SENDER, 0, 1, 0, other);
                Due.is("it holds", x.count(0), 1);
                Due.is("never, " + own + " and " + other, x.ofMessage(1, 4), own > other ? 1 : 0);
                Due.is("never the other one", x.ofMessage(2, 4), own > -9 ? 1 : 0);
                Due.is("refined, " + own + " and " + other, x.count(2), own < other ? 0 : 1);
            }
        }
    }

    /** Two messages that nobody sends: one of them is enough, and one that is sent is none of them. */
    private static void unsentMessagesOneByOne() {
        for (int[] messages : ORDERS) {
            for (int tempting = 0; tempting < 4; tempting++) {
                MessageGames x = Due.played("w1=0;w2=0;s0>" + messages[0] + ";s1>" + messages[1] + ";s2>" + messages[2]);
                for (int i = 1; i < 3; i++) {
                    int message = messages[i];
                    x.believe(message, 0, 0);
                    x.answer(message, 2);
                    receive(x, message, 2, 0, 9, 9);
                    receive(x, message, 1, 1, 0, 0);
                    x.pay(SENDER, 0, message, 1, (tempting >> i - 1 & 1) == 1 ? 1 : 0);
                }
                Due.is("it holds", x.count(0), 1);
                Due.is("tempting: " + tempting, x.count(2), tempting == 0 ? 1 : 0);
                x.weight(1, 1);
                x.weight(2, 1);
                x.pay(SENDER, 1, messages[1], 2, 9);
                x.pay(SENDER, 2, messages[2], 2, 9);
                x.send(1, messages[1]);
                x.send(2, messages[2]);
                Due.is("all are sent, it holds", x.count(0), 1);
                Due.is("all are sent, it is refined", x.count(2), 1);
            }
        }
    }

    /** plans(1) is how many of all plans that hold are refined when they are taken one by one. */
    private static void refinedOfAll() {
        Brew brew = new Brew(ORDERS[3], ORDERS[4], ORDERS[1]);
        int size = brew.x.plans(0), refined = brew.x.plans(1), found = 0;
        for (int place = 0; place < size; place++) {
            brew.x.adopt(place);
            found += brew.x.count(2);
        }
        Due.is("plans(1)", refined, found);
        Due.is("some are", refined > 0 ? 1 : 0, 1);
        Due.is("some aren't", refined < size ? 1 : 0, 1);
    }
}
