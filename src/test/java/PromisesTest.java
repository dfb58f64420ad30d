/** Each promise by hand: ordinary calls, the edges that the document names, and wrong ones in the order of their errors. */
public final class PromisesTest {
    private static final int MOST = Due.MOST, LEAST = Due.LEAST;
    private static MessageGames x;

    public static void main(String[] args) {
        aNewObject();
        weights();
        payoffs();
        beliefs();
        sendingAndAnswering();
        adopting();
        types();
        messages();
        fractions();
        reasons();
        numbers();
        refinedPlans();
        allPlans();
        bestPlans();
        putting();
        faults();
        carryingOut();
        undoing();
        saving();
        errorsChangeNothing();
        Due.end();
    }

    private static void aNewObject() {
        x = new MessageGames();
        for (int i = 0; i < 3; i++) {
            Due.is("new weight", x.ofType(i, 0), 1);
            Due.is("new message", x.ofType(i, 1), 0);
            Due.is("new answer", x.ofMessage(i, 1), 0);
            for (int j = 0; j < 3; j++) {
                Due.is("new belief", x.believe(i, j, 1), 1);
                for (int k = 0; k < 3; k++) {
                    Due.is("new payoff", x.payoff(0, i, j, k), 100);
                    Due.is("new payoff", x.payoff(1, i, j, k), 100);
                }
            }
        }
        x = new MessageGames();
        Due.is("count(6)", x.count(6), 0);
        Due.is("count(7)", x.count(7), 0);
        Due.is("undo()", x.undo(), -5);
        Due.is("restore(0)", x.restore(0), -5);
        Due.is("restore(1)", x.restore(1), -5);
    }

    private static void weights() {
        x = new MessageGames();
        Due.is("weight(2, 9)", x.weight(2, 9), 1);
        Due.is("weight(2, 0)", x.weight(2, 0), 9);
        Due.is("weight(2, 4)", x.weight(2, 4), 0);
        Due.is("weight(0, 0)", x.weight(0, 0), 1);
        Due.is("weight(1, 0)", x.weight(1, 0), 1);
        Due.is("count(7)", x.count(7), 5);
        Due.is("all 0", x.weight(2, 0), -5);
        Due.is("weight(0, 0) again", x.weight(0, 0), 0);
        Due.is("ofType(2, 0)", x.ofType(2, 0), 4);
        for (int type : new int[] {-1, 3, MOST, LEAST}) {
            Due.is("no such type", x.weight(type, 1), -1);
            Due.is("no such type first", x.weight(type, 10), -1);
        }
        for (int weight : new int[] {-1, 10, MOST, LEAST}) {
            Due.is("no such weight", x.weight(2, weight), -2);
        }
    }

    private static void payoffs() {
        x = new MessageGames();
        int value = -9;
        for (int who = 0; who < 2; who++) {
            for (int type = 0; type < 3; type++) {
                for (int message = 0; message < 3; message++) {
                    for (int action = 0; action < 3; action++) {
                        Due.is("pay", x.pay(who, type, message, action, value), 100);
                        value = value == 9 ? -9 : value + 1;
                    }
                }
            }
        }
        value = -9;
        for (int who = 0; who < 2; who++) {
            for (int type = 0; type < 3; type++) {
                for (int message = 0; message < 3; message++) {
                    for (int action = 0; action < 3; action++) {
                        Due.is("payoff", x.payoff(who, type, message, action), 100 + value);
                        Due.is("pay", x.pay(who, type, message, action, -value), 100 + value);
                        value = value == 9 ? -9 : value + 1;
                    }
                }
            }
        }
        for (int bad : new int[] {-1, 3, MOST, LEAST}) {
            Due.is("pay, type", x.pay(2, bad, 0, 0, 10), -1);
            Due.is("pay, message", x.pay(2, 0, bad, 0, 10), -1);
            Due.is("pay, action", x.pay(2, 0, 0, bad, 10), -1);
            Due.is("payoff, type", x.payoff(2, bad, 0, 0), -1);
            Due.is("payoff, message", x.payoff(2, 0, bad, 0), -1);
            Due.is("payoff, action", x.payoff(2, 0, 0, bad), -1);
        }
        for (int who : new int[] {-1, 2, MOST, LEAST}) {
            Due.is("pay, who", x.pay(who, 0, 0, 0, 0), -2);
            Due.is("payoff, who", x.payoff(who, 0, 0, 0), -2);
        }
        for (int bad : new int[] {-10, 10, MOST, LEAST}) {
            Due.is("pay, value", x.pay(0, 0, 0, 0, bad), -2);
        }
    }

    private static void beliefs() {
        x = new MessageGames();
        Due.is("believe(1, 2, 9)", x.believe(1, 2, 9), 1);
        Due.is("believe(1, 2, 0)", x.believe(1, 2, 0), 9);
        Due.is("believe(1, 0, 0)", x.believe(1, 0, 0), 1);
        Due.is("all 0", x.believe(1, 1, 0), -5);
        Due.is("believe(0, 1, 0)", x.believe(0, 1, 0), 1);
        Due.is("believe(2, 1, 0)", x.believe(2, 1, 0), 1);
        Due.is("believe(1, 1, 5)", x.believe(1, 1, 5), 1);
        for (int bad : new int[] {-1, 3, MOST, LEAST}) {
            Due.is("believe, message", x.believe(bad, 0, 10), -1);
            Due.is("believe, type", x.believe(0, bad, 10), -1);
        }
        for (int bad : new int[] {-1, 10, MOST, LEAST}) {
            Due.is("believe, weight", x.believe(0, 0, bad), -2);
        }
    }

    private static void sendingAndAnswering() {
        x = new MessageGames();
        Due.is("send(1, 2)", x.send(1, 2), 0);
        Due.is("send(1, 1)", x.send(1, 1), 2);
        Due.is("send(2, 2)", x.send(2, 2), 0);
        Due.is("answer(1, 2)", x.answer(1, 2), 0);
        Due.is("answer(1, 0)", x.answer(1, 0), 2);
        Due.is("answer(2, 1)", x.answer(2, 1), 0);
        Due.is("count(5)", x.count(5), 81 + 2 * 27 + 1);
        Due.is("count(7)", x.count(7), 6);
        for (int bad : new int[] {-1, 3, MOST, LEAST}) {
            Due.is("send, type", x.send(bad, 0), -1);
            Due.is("send, message", x.send(0, bad), -1);
            Due.is("answer, message", x.answer(bad, 0), -1);
            Due.is("answer, action", x.answer(0, bad), -1);
        }
        Due.is("count(7)", x.count(7), 6);
    }

    private static void adopting() {
        x = new MessageGames();
        Due.is("adopt(728)", x.adopt(728), 729);
        Due.is("count(5)", x.count(5), 728);
        Due.is("count(7)", x.count(7), 1);
        Due.is("adopt(729)", x.adopt(729), -1);
        Due.is("adopt(-1)", x.adopt(-1), -1);
        Due.is("adopt(MOST)", x.adopt(MOST), -1);
        Due.is("adopt(LEAST)", x.adopt(LEAST), -1);
        Due.is("undo()", x.undo(), 0);
        Due.is("count(5)", x.count(5), 0);
        // Message 1 alone pays, by answer 2 alone, and only action 2 is best there.
        Due.play(x, "u012=1;u112=1;u212=1;v012=1;v112=1;v212=1");
        Due.is("plans(0)", x.plans(0), 9);
        Due.is("adopt(8)", x.adopt(8), 9);
        Due.is("count(5)", x.count(5), 243 + 81 + 27 + 18 + 6 + 2);
        Due.is("adopt(9)", x.adopt(9), -1);
        Due.is("adopt(0)", x.adopt(0), 9);
        Due.is("count(5)", x.count(5), 243 + 81 + 27 + 6);
        Due.is("count(7)", x.count(7), 3);
    }

    private static void types() {
        x = new MessageGames();
        Due.play(x, "w1=7;s1>1;u101=-9;u111=4;u121=9;a0>1;a1>1;a2>1");
        Due.is("ofType(1, 0)", x.ofType(1, 0), 7);
        Due.is("ofType(1, 1)", x.ofType(1, 1), 1);
        Due.is("ofType(1, 2)", x.ofType(1, 2), 104);
        Due.is("ofType(1, 3)", x.ofType(1, 3), 2);
        Due.is("ofType(1, 4)", x.ofType(1, 4), 5);
        Due.is("send(1, 0)", x.send(1, 0), 1);
        Due.is("ofType(1, 2)", x.ofType(1, 2), 91);
        Due.is("ofType(1, 4)", x.ofType(1, 4), 18);
        Due.is("ofType(0, 2)", x.ofType(0, 2), 100);
        Due.is("of several the lowest", x.ofType(0, 3), 0);
        Due.is("ofType(0, 4)", x.ofType(0, 4), 0);
        Due.is("send(0, 2)", x.send(0, 2), 0);
        Due.is("still the lowest", x.ofType(0, 3), 0);
        x.pay(0, 0, 1, 1, 3);
        x.pay(0, 0, 2, 1, 3);
        Due.is("the lower of two", x.ofType(0, 3), 1);
        x.weight(1, 0);
        Due.is("a type that is not there", x.ofType(1, 4), 18);
        for (int bad : new int[] {-1, 3, MOST, LEAST}) {
            Due.is("ofType, type", x.ofType(bad, 5), -1);
        }
        for (int bad : new int[] {-1, 5, MOST, LEAST}) {
            Due.is("ofType, what", x.ofType(0, bad), -2);
        }
    }

    private static void messages() {
        x = new MessageGames();
        Due.play(x, "w0=3;w1=0;s0>2;s1>2;a2>1;v021=-1");
        Due.is("ofMessage(2, 0)", x.ofMessage(2, 0), 1);
        Due.is("ofMessage(0, 0)", x.ofMessage(0, 0), 1);
        Due.is("ofMessage(1, 0)", x.ofMessage(1, 0), 0);
        Due.is("ofMessage(2, 1)", x.ofMessage(2, 1), 1);
        Due.is("ofMessage(2, 2)", x.ofMessage(2, 2), 5);
        Due.is("only those that are there", x.ofMessage(2, 3), 1);
        Due.is("ofMessage(0, 3)", x.ofMessage(0, 3), 4);
        Due.is("ofMessage(1, 3)", x.ofMessage(1, 3), 0);
        Due.is("not sent by one that isn't there", x.send(0, 0) + 10 * x.ofMessage(2, 0), 2);
        // Types 0 and 2 are there; action 2 is best at message 1 for type 1 alone, which isn't.
        Due.play(x, "v112=9;v011=5;v210=5;v012=-1;v212=-1");
        Due.is("ofMessage(1, 5)", x.ofMessage(1, 5), 3);
        x.weight(1, 1);
        Due.is("ofMessage(1, 5), all there", x.ofMessage(1, 5), 7);
        x.weight(1, 0);
        Due.play(x, "u011=-3;u010=-1;u012=9;u211=0;u210=-1");
        Due.is("greater than each", x.ofMessage(1, 4), 1);
        x.pay(0, 2, 1, 1, -1);
        Due.is("greater than each, both", x.ofMessage(1, 4), 5);
        x.pay(0, 0, 1, 0, 0);
        Due.is("as great is not greater", x.ofMessage(1, 4), 4);
        x.send(2, 1);
        Due.is("0 if it is sent", x.ofMessage(1, 4), 0);
        // Types 0 and 1 alone: action 0 is best for type 0, action 2 for type 1, action 1 for both together, if at all.
        x = new MessageGames();
        Due.play(x, "w2=0;s0>1;s1>1;v000=3;v100=-3;v001=1;v101=1;v002=-3;v102=3");
        Due.is("possible by a mixed belief", x.ofMessage(0, 5), 7);
        Due.play(x, "v001=-3;v101=-3");
        Due.is("never best", x.ofMessage(0, 5), 5);
        Due.play(x, "v000=4;v100=-1;v001=0;v101=0;v002=-8;v102=2");
        Due.is("as good as the others at 1 to 4 alone", x.ofMessage(0, 5), 7);
        Due.play(x, "v000=5;v100=-1;v001=0;v101=0;v002=-5;v102=1");
        Due.is("as good as the others at 1 to 5, which is no such belief", x.ofMessage(0, 5), 5);
        Due.play(x, "v000=-1;v100=4;v001=0;v101=0;v002=2;v102=-8");
        Due.is("as good as the others at 4 to 1 alone", x.ofMessage(0, 5), 7);
        for (int bad : new int[] {-1, 3, MOST, LEAST}) {
            Due.is("ofMessage, message", x.ofMessage(bad, 6), -1);
        }
        for (int bad : new int[] {-1, 6, MOST, LEAST}) {
            Due.is("ofMessage, what", x.ofMessage(0, bad), -2);
        }
    }

    private static void fractions() {
        x = new MessageGames();
        Due.play(x, "w0=2;w1=4;w2=9;s2>1;o20=6;o21=0;o22=9");
        Due.is("belief(0, 0, 0)", x.belief(0, 0, 0), 1);
        Due.is("belief(0, 0, 1)", x.belief(0, 0, 1), 3);
        Due.is("belief(0, 1, 0)", x.belief(0, 1, 0), 2);
        Due.is("belief(0, 1, 1)", x.belief(0, 1, 1), 3);
        Due.is("belief(0, 2, 0)", x.belief(0, 2, 0), 0);
        Due.is("0 in lowest terms", x.belief(0, 2, 1), 1);
        Due.is("belief(1, 2, 0)", x.belief(1, 2, 0), 1);
        Due.is("belief(1, 2, 1)", x.belief(1, 2, 1), 1);
        Due.is("belief(2, 0, 0)", x.belief(2, 0, 0), 2);
        Due.is("belief(2, 0, 1)", x.belief(2, 0, 1), 5);
        Due.is("belief(2, 2, 0)", x.belief(2, 2, 0), 3);
        Due.is("belief(2, 2, 1)", x.belief(2, 2, 1), 5);
        Due.play(x, "v000=9;v100=-3;v020=-9;v220=1;v120=9;v001=-1;v101=-5");
        Due.is("mean(0, 0, 0)", x.mean(0, 0, 0), 1001);
        Due.is("mean(0, 0, 1)", x.mean(0, 0, 1), 1);
        Due.is("mean(2, 0, 0)", x.mean(2, 0, 0), 997);
        Due.is("mean(2, 0, 1)", x.mean(2, 0, 1), 1);
        Due.is("mean(0, 1, 0)", x.mean(0, 1, 0), 1000 - 11);
        Due.is("mean(0, 1, 1)", x.mean(0, 1, 1), 3);
        Due.is("mean(1, 2, 0)", x.mean(1, 2, 0), 1000);
        Due.is("mean(1, 2, 1)", x.mean(1, 2, 1), 1);
        for (int bad : new int[] {-1, 3, MOST, LEAST}) {
            Due.is("belief, message", x.belief(bad, 0, 2), -1);
            Due.is("belief, type", x.belief(0, bad, 2), -1);
            Due.is("mean, message", x.mean(bad, 0, 2), -1);
            Due.is("mean, action", x.mean(0, bad, 2), -1);
        }
        for (int bad : new int[] {-1, 2, MOST, LEAST}) {
            Due.is("belief, what", x.belief(0, 0, bad), -2);
            Due.is("mean, what", x.mean(0, 0, bad), -2);
        }
    }

    private static void reasons() {
        x = new MessageGames();
        Due.is("it holds", x.why(0), 0);
        Due.is("it holds", x.why(1), -6);
        Due.is("count(0)", x.count(0), 1);
        x.pay(1, 0, 2, 1, 1);
        Due.is("an answer to what is not sent", x.why(0), 2);
        Due.is("an answer to what is not sent", x.why(1), 2);
        Due.is("count(0)", x.count(0), 0);
        x.pay(1, 0, 1, 1, 1);
        Due.is("the lowest message", x.why(1), 1);
        x.pay(0, 2, 1, 0, 1);
        Due.is("a type first", x.why(0), 1);
        Due.is("a type first", x.why(1), 2);
        x.pay(0, 1, 2, 0, 1);
        Due.is("the lowest type", x.why(1), 1);
        x.weight(1, 0);
        Due.is("a type that is there", x.why(1), 2);
        x.weight(2, 0);
        Due.is("none that is there", x.why(0), 2);
        x.believe(1, 0, 0);
        Due.is("the belief decides", x.why(1), 2);
        x.believe(2, 0, 0);
        Due.is("it holds", x.why(0), 0);
        for (int bad : new int[] {-1, 2, MOST, LEAST}) {
            Due.is("why, what", x.why(bad), -2);
        }
    }

    private static void numbers() {
        x = new MessageGames();
        Due.is("pooling", x.count(1), 0);
        x.send(1, 1);
        Due.is("mixed", x.count(1), 2);
        Due.is("count(4)", x.count(4), 3);
        x.send(0, 2);
        Due.is("separating", x.count(1), 1);
        Due.is("count(4)", x.count(4), 7);
        x.send(2, 1);
        Due.is("mixed again", x.count(1), 2);
        x.weight(2, 0);
        Due.is("two that separate", x.count(1), 1);
        Due.is("count(3)", x.count(3), 3);
        Due.is("count(4)", x.count(4), 6);
        x.weight(0, 0);
        Due.is("just one", x.count(1), 0);
        Due.is("count(3)", x.count(3), 2);
        Due.is("count(4)", x.count(4), 2);
        Due.is("count(5)", x.count(5), 2 * 243 + 81 + 27);
        x.answer(0, 2);
        x.answer(1, 1);
        x.answer(2, 2);
        Due.is("count(5)", x.count(5), 2 * 243 + 81 + 27 + 18 + 3 + 2);
        Due.is("count(7)", x.count(7), 6);
        Due.write(x, "w0");
        Due.is("count(6)", x.count(6), 2);
        for (int bad : new int[] {-1, 8, MOST, LEAST}) {
            Due.is("count, what", x.count(bad), -2);
        }
    }

    private static void refinedPlans() {
        // Beer and quiche: type 0 is strong and would have beer (0), type 1 is weak and would have quiche (1);
        // the receiver fights (1) only the weak one. Both have quiche, since beer is answered by a fight.
        x = new MessageGames();
        Due.play(x, "w0=9;w1=1;w2=0;s0>1;s1>1;a0>1;o00=0;o01=1;o02=0");
        Due.play(x, "u000=3;u001=1;u010=2;u011=0;u100=2;u101=0;u110=3;u111=1");
        Due.play(x, "v000=1;v010=1;v101=1;v111=1;v002=-9;v012=-9;v102=-9;v112=-9");
        Due.play(x, "u020=-9;u021=-9;u022=-9;u120=-9;u121=-9;u122=-9;v022=-9;v122=-9");
        Due.is("it holds", x.count(0), 1);
        Due.is("the weak one would never have beer", x.ofMessage(0, 4), 2);
        Due.is("both would never send 2", x.ofMessage(2, 4), 3);
        Due.is("not refined", x.count(2), 0);
        Due.is("possible among all", x.ofMessage(0, 5), 3);
        x.send(0, 0);
        x.send(1, 0);
        x.answer(0, 0);
        x.answer(1, 1);
        x.believe(1, 0, 0);
        Due.is("both have beer", x.count(0), 1);
        Due.is("refined", x.count(2), 1);
        x.pay(0, 0, 0, 0, 2);
        Due.is("still", x.count(2), 1);
        x.answer(0, 1);
        Due.is("one that does not hold is not refined", x.count(2), 0);
        Due.is("as great is not less", refinedAtOwnPayoffOf(2), 1);
        Due.is("less than each", refinedAtOwnPayoffOf(1), 0);
    }

    /** Just one type, which has this much by message 0, and 2 by message 1 with each action that is best for it. */
    private static int refinedAtOwnPayoffOf(int own) {
        x = new MessageGames();
        x.weight(1, 0);
        x.weight(2, 0);
        Due.write(x, "u000=" + own + ";u010=2;u011=2;u012=-9;v010=1;v011=1;v112=9;o10=0;a1>2");
        x.carryOut();
        Due.is("count(0)", x.count(0), 1);
        return x.count(2);
    }

    private static void allPlans() {
        x = new MessageGames();
        Due.is("plans(0)", x.plans(0), 729);
        Due.is("plans(1)", x.plans(1), 729);
        Due.is("plans(2)", x.plans(2), 81);
        Due.is("plans(3)", x.plans(3), 162);
        Due.is("plans(4)", x.plans(4), 486);
        Due.is("planAt(500)", x.planAt(500), 500);
        Due.play(x, "v001=1;v101=1;v201=1;v011=1;v111=1;v211=1;v021=1;v121=1;v221=1");
        Due.is("plans(0), one answer", x.plans(0), 27);
        Due.is("planAt(0)", x.planAt(0), 13);
        Due.is("planAt(26)", x.planAt(26), 26 * 27 + 13);
        Due.play(x, "u001=1;u111=1;u221=1");
        Due.is("each its own", x.plans(0), 1);
        Due.is("planAt(0)", x.planAt(0), 0 * 243 + 81 + 2 * 27 + 13);
        Due.is("plans(3)", x.plans(3), 1);
        Due.is("plans(2)", x.plans(2), 0);
        x.weight(1, 0);
        Due.is("one that is not there sends anything", x.plans(0), 3);
        Due.is("plans(3)", x.plans(3), 3);
        Due.is("planAt(1)", x.planAt(1), 81 + 2 * 27 + 13);
        Due.is("count(5) is as it was", x.count(5), 0);
        Due.is("count(7) is as it was", x.count(7), 3);
        Due.is("bestAnswer(0)", x.bestAnswer(0), 1);
        x.pay(1, 0, 1, 2, 9);
        Due.is("by the belief", x.bestAnswer(1), 2);
        Due.is("planAt(0), by the belief", x.planAt(0), 2 * 27 + 9 + 6 + 1);
        x.believe(1, 0, 0);
        Due.is("by the other belief", x.bestAnswer(1), 1);
        Due.is("planAt(0), by the other belief", x.planAt(0), 2 * 27 + 13);
        x.pay(1, 2, 2, 2, 1);
        Due.is("of several the lowest", x.bestAnswer(2), 1);
        for (int bad : new int[] {-1, 5, MOST, LEAST}) {
            Due.is("plans, what", x.plans(bad), -2);
        }
        for (int bad : new int[] {-1, x.plans(0), 729, MOST, LEAST}) {
            Due.is("planAt, place", x.planAt(bad), -1);
        }
        for (int bad : new int[] {-1, 3, MOST, LEAST}) {
            Due.is("bestAnswer, message", x.bestAnswer(bad), -1);
        }
    }

    private static void bestPlans() {
        x = new MessageGames();
        Due.is("of several the least code", x.bestPlan(0), 0);
        Due.is("bestPlan(1)", x.bestPlan(1), 1000);
        Due.play(x, "w0=2;w1=3;w2=9;v000=1;v112=4;v222=-9;v220=-9;v221=-9;v201=-9");
        Due.is("bestPlan(1)", x.bestPlan(1), 1000 + 2 + 12);
        Due.is("bestPlan(0)", x.bestPlan(0), 81 + 2 * 3);
        Due.is("count(5)", x.count(5), 0);
        // What pleases the receiver no longer holds.
        x.pay(0, 1, 2, 0, 1);
        x.pay(0, 1, 2, 1, 1);
        x.pay(0, 1, 2, 2, 1);
        Due.is("bestPlan(1), of those that hold", x.bestPlan(1), 1000 + 2);
        // Message 0, not sent or sent by both, is answered by 0, which draws type 0 and drives type 1 off; sent by
        // type 0 alone it is answered by 1, which drives type 0 off.
        x = new MessageGames();
        Due.play(x, "w2=0;v100=1;v101=-1;u100=-1;u001=-1;u011=-1;v001=1;u000=1");
        Due.is("plans(0)", x.plans(0), 0);
        Due.is("NONE", x.bestPlan(0), -6);
        Due.is("NONE", x.bestPlan(1), -6);
        Due.is("planAt(0)", x.planAt(0), -1);
        Due.is("adopt(0)", x.adopt(0), -1);
        for (int bad : new int[] {-1, 2, MOST, LEAST}) {
            Due.is("BAD_VALUE before NONE", x.bestPlan(bad), -2);
        }
    }

    private static void putting() {
        x = new MessageGames();
        Due.is("put(!)", x.put(33), 1);
        Due.is("put(~)", x.put(126), 2);
        Due.is("put, 8 characters", x.put(Due.packed("abcdefgh")), 10);
        Due.is("too low", x.put(32), -2);
        Due.is("too high", x.put(127), -2);
        Due.is("none", x.put(0), -2);
        Due.is("a gap", x.put(Due.packed("a") << 16 | Due.packed("b")), -2);
        Due.is("a gap behind", x.put(Due.packed("a") << 8), -2);
        Due.is("a bit far above", x.put(1L << 63 | Due.packed("ab")), -2);
        Due.is("too high in front", x.put(Due.packed("\u00ffabcdefg")), -2);
        Due.is("too low in front", x.put(Due.packed("\u0001abc")), -2);
        Due.is("count(6)", x.count(6), 10);
        Due.is("wipe()", x.wipe(), 10);
        Due.is("wipe()", x.wipe(), 0);
        for (int i = 1; i <= 9; i++) {
            Due.is("put", x.put(Due.packed("w0=1;w0=")), 8 * i);
        }
        Due.is("put", x.put(Due.packed("1234567")), 79);
        Due.is("TOO_MANY", x.put(Due.packed("ab")), -4);
        Due.is("BAD_VALUE before TOO_MANY", x.put(Due.packed("a ")), -2);
        Due.is("put, the last one", x.put(Due.packed("a")), 80);
        Due.is("TOO_MANY", x.put(Due.packed("a")), -4);
        Due.is("count(7)", x.count(7), 0);
        Due.is("wipe()", x.wipe(), 80);
        Due.is("count(6)", x.count(6), 0);
    }

    private static void fault(String text, int want) {
        x = new MessageGames();
        Due.write(x, text);
        Due.is("fault() of " + text, x.fault(), want);
    }

    private static void faults() {
        String[] whole = {"w0=1", "w2=9", "s0>2", "a2>0", "u012=9", "v210=-9", "u000=-0", "v000=0", "o01=5", "w0=1;s1>1;o22=0"};
        for (String text : whole) {
            fault(text, -6);
            for (int length = 0; length < text.length(); length++) {
                boolean isWhole = length == 4 && text.length() > 9 || length == 9;
                fault(text.substring(0, length), isWhole ? -6 : length);
            }
            fault(text + ";", text.length() + 1);
            fault(text + "1", text.length());
            fault(text + ";;", text.length() + 1);
        }
        fault("w3=1", 1);
        fault("w0>1", 2);
        fault("w0=-1", 3);
        fault("w0=x", 3);
        fault("s0=1", 2);
        fault("s0>3", 3);
        fault("a3>0", 1);
        fault("a0>-", 3);
        fault("u0031", 3);
        fault("u0001", 4);
        fault("u001-1", 4);
        fault("u003=1", 3);
        fault("u000=--", 6);
        fault("v000=-a", 6);
        fault("o0=1", 2);
        fault("o00=-1", 4);
        fault("x", 0);
        fault(";w0=1", 0);
        fault("W0=1", 0);
        fault("w0=1;w0=1;w0=1;w0=1;w0=1;w0=1;w0=1;w0=1;w0=1;w0=1;w0=1;w0=1;w0=1;w0=1;w0=1;w0=1;", 80);
        fault("o00=1;w0=1;w0=1;w0=1;w0=1;w0=1;w0=1;w0=1;w0=1;w0=1;w0=1;w0=1;w0=1;w0=1;w0=1;w0=1", -6);
    }

    private static void carryingOut() {
        x = new MessageGames();
        Due.is("an empty text has a fault", x.carryOut(), -3);
        Due.is("count(7)", x.count(7), 0);
        Due.write(x, "w0=9;s1>2;a2>1;u012=-9;v210=8;o12=0;w0=");
        Due.is("BAD_TEXT", x.carryOut(), -3);
        Due.is("the pad stays", x.count(6), 39);
        Due.is("nothing is different", x.count(5), 0);
        Due.write(x, "5");
        Due.is("carryOut()", x.carryOut(), 7);
        Due.is("the pad is empty", x.count(6), 0);
        Due.is("one change", x.count(7), 1);
        Due.is("w", x.ofType(0, 0), 5);
        Due.is("s, a", x.count(5), 2 * 81 + 1);
        Due.is("u", x.payoff(0, 0, 1, 2), 91);
        Due.is("v", x.payoff(1, 2, 1, 0), 108);
        Due.is("o", x.believe(1, 2, 1), 0);
        x.undo();
        Due.is("undo()", x.undo(), 0);
        Due.is("all of it is undone", x.ofType(0, 0) + x.count(5) + x.payoff(0, 0, 1, 2), 101);
        Due.write(x, "w0=0;w1=0;w2=0;w0=4");
        Due.is("up to the first error", x.carryOut(), 2);
        Due.is("what was carried out stays", x.count(3), 4);
        Due.is("none after it", x.ofType(0, 0), 0);
        Due.is("the pad is empty", x.count(6), 0);
        Due.write(x, "w2=0");
        Due.is("none is carried out", x.carryOut(), 0);
        Due.is("a change all the same", x.count(7), 2);
        Due.write(x, "o20=0;o21=0;o22=0");
        Due.is("a belief of nothing", x.carryOut(), 2);
        Due.write(x, "u000=-0;u001=-0");
        Due.is("-0 is 0", x.carryOut(), 2);
        Due.is("-0 is 0", x.payoff(0, 0, 0, 0), 100);
        Due.write(x, "o00=1;w0=1;w0=1;w0=1;w0=1;w0=1;w0=1;w0=1;w0=1;w0=1;w0=1;w0=1;w0=1;w0=1;w0=1;w0=7");
        Due.is("a full pad", x.carryOut(), 16);
        Due.is("the last order", x.ofType(0, 0), 7);
    }

    private static void undoing() {
        x = new MessageGames();
        x.save(1);
        for (int i = 0; i < 9; i++) {
            x.weight(0, i);
        }
        Due.is("at most 6", x.count(7), 6);
        Due.write(x, "w0");
        for (int i = 5; i >= 0; i--) {
            Due.is("undo()", x.undo(), i);
            Due.is("as before", x.ofType(0, 0), i + 2);
        }
        Due.is("undo()", x.undo(), -5);
        Due.is("still", x.ofType(0, 0), 2);
        Due.is("the pad is not undone", x.count(6), 2);
        x.wipe();
        x.put(Due.packed("w"));
        x.fault();
        x.save(0);
        x.plans(0);
        Due.is("these are no changes", x.count(7), 0);
        x.send(0, 0);
        x.answer(0, 0);
        x.pay(0, 0, 0, 0, 0);
        x.believe(0, 0, 1);
        x.adopt(0);
        x.restore(1);
        Due.is("a change even if nothing is different", x.count(7), 6);
        Due.is("undo()", x.undo(), 5);
        Due.is("before restore()", x.ofType(0, 0), 2);
        x.save(0);
        x.undo();
        Due.is("a slot is not undone", x.restore(0), 0);
        // What is possible is asked before and after.
        x = new MessageGames();
        Due.is("possible", x.ofMessage(1, 5), 7);
        Due.play(x, "v010=1;v110=1;v210=1");
        Due.is("possible", x.ofMessage(1, 5), 1);
        Due.is("plans(0)", x.plans(0), 243);
        x.undo();
        Due.is("possible again", x.ofMessage(1, 5), 7);
        Due.is("plans(0) again", x.plans(0), 729);
    }

    private static void saving() {
        x = new MessageGames();
        Due.play(x, "w0=3;s0>1;a0>2;v000=4;o00=9");
        Due.is("save(0)", x.save(0), 243 + 18);
        Due.is("not a change", x.count(7), 1);
        Due.is("restore(1)", x.restore(1), -5);
        x.weight(0, 8);
        x.send(0, 2);
        x.answer(0, 0);
        x.pay(1, 0, 0, 0, 0);
        x.believe(0, 0, 2);
        Due.write(x, "w0");
        Due.is("save(1)", x.save(1), 486);
        Due.is("restore(0)", x.restore(0), 243 + 18);
        Due.is("a change", x.count(7), 6);
        Due.is("the pad stays", x.count(6), 2);
        Due.is("weight", x.ofType(0, 0), 3);
        Due.is("payoff", x.payoff(1, 0, 0, 0), 104);
        Due.is("belief", x.believe(0, 0, 1), 9);
        x.weight(1, 5);
        Due.is("the slot keeps it", x.restore(0), 243 + 18);
        Due.is("the slot keeps it", x.ofType(1, 0), 1);
        Due.is("the other slot", x.restore(1), 486);
        Due.is("save(0) over it", x.save(0), 486);
        Due.is("restore(0)", x.restore(0), 486);
        Due.is("undo()", x.undo(), 5);
        for (int bad : new int[] {-1, 2, MOST, LEAST}) {
            Due.is("save, slot", x.save(bad), -2);
            Due.is("restore, slot", x.restore(bad), -2);
        }
    }

    private static void errorsChangeNothing() {
        x = new MessageGames();
        Due.play(x, "w0=0;w1=0;o10=0;o11=0");
        x.put(Due.packed("w0=1"));
        x.weight(2, 0);
        x.weight(0, 10);
        x.pay(0, 0, 0, 0, 10);
        x.pay(2, 0, 0, 0, 1);
        x.believe(1, 2, 0);
        x.send(0, 3);
        x.answer(3, 0);
        x.adopt(729);
        x.restore(0);
        x.put(32);
        x.put(Due.packed("x") << 8);
        Due.is("count(7)", x.count(7), 1);
        Due.is("count(6)", x.count(6), 4);
        Due.is("weight", x.ofType(2, 0), 1);
        Due.is("belief", x.belief(1, 2, 0), 1);
        Due.is("payoff", x.payoff(0, 0, 0, 0), 100);
        Due.is("count(5)", x.count(5), 0);
        x.put(Due.packed(";"));
        x.carryOut();
        Due.is("the pad", x.wipe(), 5);
        Due.is("count(7)", x.count(7), 1);
    }
}
