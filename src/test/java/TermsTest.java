import java.util.TreeSet;

/** The sentences of "Terms": who is there, what is sent, beliefs, ties, plans that hold, and the kinds of plans. */
public final class TermsTest {
    private static final String NO_PLAN = "w2=0;v100=1;v101=-1;u100=-1;u001=-1;u011=-1;v001=1;u000=1";

    public static void main(String[] args) {
        aTypeIsThereAboveZero();
        aMessageIsSentByThoseThatAreThere();
        aBeliefFollowsThePlan();
        aToldBeliefWaitsUntilNobodySends();
        sharesAreInLowestTerms();
        meansAreInLowestTerms();
        greatestAndLeastMeans();
        bestActionsAndTheirTies();
        theBestActionByEachShare();
        theDearestMessageAndItsTies();
        asGreatIsNotGreater();
        aTypeThatIsNotThereIsNoReason();
        theLowestReason();
        anAnswerToWhatIsNotSent();
        kindsOfAllPlans();
        codesOfAllPlans();
        plansInTheOrderOfTheirCodes();
        adoptedPlans();
        bestPlansAndTheirTies();
        greatestAndLeastSums();
        noPlanHolds();
        everythingIsAskedAnew();
        theLastCall();
        Due.end();
    }

    private static void aTypeIsThereAboveZero() {
        for (int there = 1; there < 8; there++) {
            MessageGames x = withThere(there, 1);
            Due.is("count(3), weights of 1", x.count(3), there);
            Due.is("count(3), weights of 9", withThere(there, 9).count(3), there);
        }
    }

    private static MessageGames withThere(int there, int weight) {
        MessageGames x = new MessageGames();
        for (int type = 0; type < 3; type++) {
            if ((there >> type & 1) == 1) {
                x.weight(type, weight);
            }
        }
        for (int type = 0; type < 3; type++) {
            if ((there >> type & 1) == 0) {
                x.weight(type, 0);
            }
        }
        return x;
    }

    private static void sendAll(MessageGames x, int sending) {
        x.send(0, sending / 9);
        x.send(1, sending / 3 % 3);
        x.send(2, sending % 3);
    }

    private static void takePlan(MessageGames x, int code) {
        sendAll(x, code / 27);
        x.answer(0, code / 9 % 3);
        x.answer(1, code / 3 % 3);
        x.answer(2, code % 3);
    }

    private static void aMessageIsSentByThoseThatAreThere() {
        for (int there = 1; there < 8; there++) {
            for (int sending = 0; sending < 27; sending++) {
                MessageGames x = withThere(there, 2);
                sendAll(x, sending);
                int[] senders = new int[3];
                int[] sends = {sending / 9, sending / 3 % 3, sending % 3};
                for (int type = 0; type < 3; type++) {
                    senders[sends[type]] |= there & 1 << type;
                }
                int sent = 0;
                for (int message = 0; message < 3; message++) {
                    sent |= senders[message] != 0 ? 1 << message : 0;
                    Due.is("ofMessage(.., 0)", x.ofMessage(message, 0), senders[message] != 0 ? 1 : 0);
                    Due.is("ofMessage(.., 3)", x.ofMessage(message, 3), senders[message]);
                }
                Due.is("count(4)", x.count(4), sent);
            }
        }
    }

    private static void share(String told, MessageGames x, int message, int[] aboves, int[] belows) {
        for (int type = 0; type < 3; type++) {
            Due.is(told + ", above of " + type, x.belief(message, type, 0), aboves[type]);
            Due.is(told + ", below of " + type, x.belief(message, type, 1), belows[type]);
        }
    }

    private static void aBeliefFollowsThePlan() {
        MessageGames x = Due.played("w0=2;w1=4;w2=9;s1>1;s2>1;o10=9;o11=0;o12=0;o20=0;o21=1;o22=2");
        share("sent by one", x, 0, new int[] {1, 0, 0}, new int[] {1, 1, 1});
        share("sent by two", x, 1, new int[] {0, 4, 9}, new int[] {1, 13, 13});
        share("not sent", x, 2, new int[] {0, 1, 2}, new int[] {1, 3, 3});
        x.weight(1, 0);
        share("sent by one that is there and one that isn't", x, 1, new int[] {0, 0, 1}, new int[] {1, 1, 1});
        x.send(2, 2);
        share("sent by one that isn't there", x, 1, new int[] {1, 0, 0}, new int[] {1, 1, 1});
        share("sent now", x, 2, new int[] {0, 0, 1}, new int[] {1, 1, 1});
    }

    private static void aToldBeliefWaitsUntilNobodySends() {
        MessageGames x = new MessageGames();
        Due.is("believe of what is sent", x.believe(0, 1, 0), 1);
        Due.is("believe of what is sent", x.believe(0, 2, 5), 1);
        share("no effect while it is sent", x, 0, new int[] {1, 1, 1}, new int[] {3, 3, 3});
        Due.play(x, "s0>1;s1>1;s2>1");
        share("as told once nobody sends it", x, 0, new int[] {1, 0, 5}, new int[] {6, 1, 6});
        x.send(1, 0);
        share("no effect again", x, 0, new int[] {0, 1, 0}, new int[] {1, 1, 1});
        x.send(1, 2);
        share("it is kept", x, 0, new int[] {1, 0, 5}, new int[] {6, 1, 6});
    }

    /** Two types of all weights that there are: each share is that of the weights over their sum, shortened. */
    private static void sharesAreInLowestTerms() {
        for (int first = 0; first < 10; first++) {
            for (int second = first == 0 ? 1 : 0; second < 10; second++) {
                MessageGames x = new MessageGames();
                x.believe(1, 1, first);
                x.believe(1, 2, second);
                x.believe(1, 0, 0);
                int above = x.belief(1, 1, 0), below = x.belief(1, 1, 1);
                Due.is("the same share", above * (first + second), below * first);
                Due.is("in lowest terms", commonest(above, below), 1);
                Due.is("below the line", below > 0 ? 1 : 0, 1);
                Due.is("the other one's share", x.belief(1, 2, 0) * (first + second), x.belief(1, 2, 1) * second);
                Due.is("one that is not believed", x.belief(1, 0, 0) * 10 + x.belief(1, 0, 1), 1);
            }
        }
        MessageGames x = Due.played("w0=9;w1=9;w2=9");
        share("all of 9", x, 0, new int[] {1, 1, 1}, new int[] {3, 3, 3});
    }

    private static int commonest(int above, int below) {
        for (int divisor = below; divisor > 1; divisor--) {
            if (above % divisor == 0 && below % divisor == 0) {
                return divisor;
            }
        }
        return 1;
    }

    private static void meansAreInLowestTerms() {
        for (int pay = -9; pay <= 9; pay++) {
            for (int weight = 0; weight < 10; weight++) {
                MessageGames x = new MessageGames();
                x.believe(2, 0, weight);
                x.believe(2, 1, 3);
                x.believe(2, 2, 0);
                x.pay(1, 0, 2, 1, pay);
                x.pay(1, 1, 2, 1, -pay);
                x.pay(1, 2, 2, 1, 9);
                int above = x.mean(2, 1, 0) - 1000, below = x.mean(2, 1, 1);
                Due.is("the same mean", above * (weight + 3), below * (weight * pay - 3 * pay));
                Due.is("in lowest terms", commonest(above, below), 1);
                Due.is("below the line", below > 0 ? 1 : 0, 1);
            }
        }
        MessageGames x = Due.played("w0=4;w1=2;w2=0;v000=1;v100=-2;v001=-1;v101=1;v002=-9;v102=9;v202=9");
        Due.is("a mean of 0, above", x.mean(0, 0, 0), 1000);
        Due.is("a mean of 0, below", x.mean(0, 0, 1), 1);
        Due.is("a mean of -1/3, above", x.mean(0, 1, 0), 999);
        Due.is("a mean of -1/3, below", x.mean(0, 1, 1), 3);
        Due.is("a mean of -3, above", x.mean(0, 2, 0), 997);
        Due.is("a mean of -3, below", x.mean(0, 2, 1), 1);
    }

    private static void greatestAndLeastMeans() {
        MessageGames x = Due.played("w0=9;w1=9;w2=9;v000=9;v100=9;v200=9;v001=-9;v101=-9;v201=-9");
        Due.is("9", x.mean(0, 0, 0), 1009);
        Due.is("9", x.mean(0, 0, 1), 1);
        Due.is("-9", x.mean(0, 1, 0), 991);
        Due.is("-9", x.mean(0, 1, 1), 1);
        Due.play(x, "w2=8;v100=8;v101=-8");
        Due.is("the greatest number below the line", x.mean(0, 0, 1), 26);
        Due.is("a great number above it", x.mean(0, 0, 0), 1000 + 81 + 72 + 72);
        Due.is("a little number above it", x.mean(0, 1, 0), 1000 - 81 - 72 - 72);
    }

    /** All orders of three payoffs, also where all are below 0: best are those that none is above. */
    private static void bestActionsAndTheirTies() {
        for (int shift : new int[] {-9, -2, 0, 7}) {
            for (int message = 0; message < 3; message++) {
                for (int number = 0; number < 27; number++) {
                    int[] pays = {number / 9 + shift, number / 3 % 3 + shift, number % 3 + shift};
                    MessageGames x = new MessageGames();
                    Due.play(x, "w1=0;w2=0");
                    x.believe(message, 1, 0);
                    x.believe(message, 2, 0);
                    int most = Math.max(pays[0], Math.max(pays[1], pays[2])), best = 0;
                    for (int action = 2; action >= 0; action--) {
                        x.pay(1, 0, message, action, pays[action]);
                        x.pay(1, 1, message, action, action == 1 ? 9 : -9);
                        best |= pays[action] == most ? 1 << action : 0;
                    }
                    Due.is("ofMessage(.., 2)", x.ofMessage(message, 2), best);
                    Due.is("of several the lowest", x.bestAnswer(message), Integer.numberOfTrailingZeros(best));
                    Due.is("possible by one type", x.ofMessage(message, 5), best);
                    for (int action = 0; action < 3; action++) {
                        x.answer(message, action);
                        boolean holds = (best >> action & 1) == 1;
                        Due.is("why(0)", x.why(0), holds ? 0 : 2);
                        Due.is("why(1)", x.why(1), holds ? -6 : message);
                        Due.is("count(0)", x.count(0), holds ? 1 : 0);
                        Due.is("nothing of the answers counts", x.bestAnswer(message), Integer.numberOfTrailingZeros(best));
                    }
                }
            }
        }
    }

    private static void theBestActionByEachShare() {
        MessageGames x = Due.played("w0=3;w1=4;w2=0;v000=4;v101=3;v202=9");
        Due.is("as good by these weights", x.ofMessage(0, 2), 3);
        x.weight(0, 4);
        Due.is("a little more of type 0", x.ofMessage(0, 2), 1);
        x.weight(0, 2);
        Due.is("a little less of type 0", x.ofMessage(0, 2), 2);
        Due.is("bestAnswer", x.bestAnswer(0), 1);
        Due.play(x, "w0=9;w1=9;w2=9;v000=-9;v100=-9;v200=-9;v001=-9;v101=-9;v201=-9;v202=-8");
        Due.is("the least of all, and a little more", x.ofMessage(0, 2), 4);
    }

    private static void theDearestMessageAndItsTies() {
        for (int number = 0; number < 27; number++) {
            int[] pays = {number / 9 * 9 - 9, number / 3 % 3 * 9 - 9, number % 3 * 9 - 9};
            for (int type = 0; type < 3; type++) {
                for (int own = 0; own < 3; own++) {
                    MessageGames x = new MessageGames();
                    x.send(type, own);
                    for (int message = 0; message < 3; message++) {
                        x.answer(message, 2 - message);
                        x.pay(0, type, message, 2 - message, pays[message]);
                        x.pay(0, type, message, (3 - message) % 3, 9);
                    }
                    int most = Math.max(pays[0], Math.max(pays[1], pays[2]));
                    int lowest = pays[0] == most ? 0 : pays[1] == most ? 1 : 2;
                    Due.is("ofType(.., 2)", x.ofType(type, 2), 100 + pays[own]);
                    Due.is("ofType(.., 3)", x.ofType(type, 3), lowest);
                    Due.is("ofType(.., 4)", x.ofType(type, 4), most - pays[own]);
                    Due.is("why(0)", x.why(0), most > pays[own] ? 1 : 0);
                    Due.is("why(1)", x.why(1), most > pays[own] ? type : -6);
                }
            }
        }
    }

    private static void asGreatIsNotGreater() {
        MessageGames x = Due.played("u000=5;u010=5;u020=5");
        Due.is("as great", x.count(0), 1);
        x.pay(0, 0, 2, 0, 6);
        Due.is("greater by one", x.count(0), 0);
        Due.is("by how much", x.ofType(0, 4), 1);
        x.pay(0, 0, 2, 0, 4);
        Due.is("less by one", x.count(0), 1);
        x.pay(0, 0, 2, 1, 9);
        Due.is("with another answer alone", x.count(0), 1);
        x.answer(2, 1);
        Due.is("with this answer", x.count(0), 0);
    }

    private static void aTypeThatIsNotThereIsNoReason() {
        for (int type = 0; type < 3; type++) {
            MessageGames x = new MessageGames();
            x.pay(0, type, 1, 0, 9);
            Due.is("it would do better", x.why(1), type);
            x.weight(type, 0);
            Due.is("it isn't there", x.why(0), 0);
            Due.is("it isn't there", x.count(0), 1);
            Due.is("what it would have is told all the same", x.ofType(type, 4), 9);
            x.weight(type, 1);
            Due.is("it is there", x.why(0), 1);
        }
    }

    private static void theLowestReason() {
        for (int reasons = 0; reasons < 64; reasons++) {
            MessageGames x = new MessageGames();
            for (int i = 0; i < 3; i++) {
                if ((reasons >> i & 1) == 1) {
                    x.pay(0, i, 2, 0, 1);
                }
                if ((reasons >> 3 + i & 1) == 1) {
                    x.pay(1, 0, i, 1, 1);
                }
            }
            int types = reasons & 7, messages = reasons >> 3;
            Due.is("why(0)", x.why(0), types != 0 ? 1 : messages != 0 ? 2 : 0);
            Due.is("why(1)", x.why(1), types != 0 ? Integer.numberOfTrailingZeros(types)
                : messages != 0 ? Integer.numberOfTrailingZeros(messages) : -6);
            Due.is("count(0)", x.count(0), reasons == 0 ? 1 : 0);
            Due.is("only a plan that holds is refined", x.count(2), reasons == 0 ? 1 : 0);
        }
    }

    private static void anAnswerToWhatIsNotSent() {
        for (int message = 1; message < 3; message++) {
            MessageGames x = new MessageGames();
            x.pay(1, 1, message, 2, 1);
            Due.is("not best by the told belief", x.why(1), message);
            x.believe(message, 1, 0);
            Due.is("best by another told belief", x.why(0), 0);
            x.believe(message, 1, 1);
            x.answer(message, 2);
            Due.is("best with another answer", x.why(0), 0);
        }
    }

    private static void kindsOfAllPlans() {
        for (int there = 1; there < 8; there++) {
            int[] kinds = new int[3];
            for (int sending = 0; sending < 27; sending++) {
                MessageGames x = withThere(there, 3);
                sendAll(x, sending);
                int[] sends = {sending / 9, sending / 3 % 3, sending % 3};
                TreeSet<Integer> sent = new TreeSet<>();
                for (int type = 0; type < 3; type++) {
                    if ((there >> type & 1) == 1) {
                        sent.add(sends[type]);
                    }
                }
                int kind = sent.size() == 1 ? 0 : sent.size() == Integer.bitCount(there) ? 1 : 2;
                kinds[kind]++;
                Due.is("count(1), " + there + " there, sent as " + sending, x.count(1), kind);
            }
            MessageGames x = withThere(there, 3);
            Due.is("plans(0)", x.plans(0), 729);
            for (int kind = 0; kind < 3; kind++) {
                Due.is("plans of kind " + kind, x.plans(2 + kind), 27 * kinds[kind]);
            }
        }
    }

    private static void codesOfAllPlans() {
        for (int code = 0; code < 729; code++) {
            MessageGames x = new MessageGames();
            takePlan(x, code);
            Due.is("count(5)", x.count(5), code);
            Due.is("save(0)", x.save(0), code);
            x.adopt(0);
            Due.is("restore(0)", x.restore(0), code);
        }
    }

    private static void plansInTheOrderOfTheirCodes() {
        String game = "v001=1;v101=1;v201=1;v010=1;v111=1;v222=2;u001=1;u111=1;u222=1;w1=2";
        MessageGames x = Due.played(game);
        int last = -1, size = x.plans(0);
        for (int place = 0; place < size; place++) {
            int code = x.planAt(place);
            Due.is("a greater code", code > last ? 1 : 0, 1);
            last = code;
        }
        Due.is("some, and not all", size > 1 && size < 300 ? 1 : 0, 1);
        Due.is("none after them", x.planAt(size), -1);
        Due.is("kinds of all", x.plans(2) + x.plans(3) + x.plans(4), size);
        Due.is("nothing is different", x.count(5), 0);
        int place = 0;
        for (int code = 0; code < 729; code++) {
            MessageGames y = Due.played(game);
            takePlan(y, code);
            if (y.count(0) == 1) {
                Due.is("planAt(" + place + ")", x.planAt(place), code);
                place++;
            }
        }
        Due.is("plans(0)", size, place);
    }

    private static void adoptedPlans() {
        MessageGames x = Due.played("w1=0;v001=1;v201=1;u011=3;u211=3;v011=1;v211=1;v111=1;o22=4");
        int size = x.plans(0);
        for (int place = 0; place < size; place++) {
            int code = x.planAt(place);
            Due.is("adopt(" + place + ")", x.adopt(place), size);
            Due.is("count(5)", x.count(5), code);
            Due.is("it holds", x.count(0), 1);
            Due.is("still as many", x.plans(0), size);
        }
        Due.is("some, and not all", size > 1 && size < 300 ? 1 : 0, 1);
        Due.is("the rest is as it was", x.ofType(1, 0) * 1000 + x.believe(2, 2, 1) * 100 + x.payoff(0, 0, 1, 1) - 100, 403);
        Due.is("count(7)", x.count(7), 6);
    }

    private static void bestPlansAndTheirTies() {
        MessageGames x = Due.played("w1=0;w2=0;v010=2;v021=2;o10=9;o20=9");
        Due.is("as much by two messages, above", x.bestPlan(1), 1002);
        Due.is("the least code", x.bestPlan(0), 243 + 1);
        x.pay(1, 0, 2, 1, 3);
        Due.is("more by the other", x.bestPlan(1), 1003);
        Due.is("more by the other", x.bestPlan(0), 2 * 243 + 1);
        x.weight(0, 9);
        Due.is("times the weight", x.bestPlan(1), 1027);
        x.pay(0, 0, 1, 0, 1);
        Due.is("only what holds", x.bestPlan(1), 1018);
        Due.is("only what holds", x.bestPlan(0), 243 + 1);
        x.pay(1, 1, 1, 0, 9);
        Due.is("one that is not there adds nothing", x.bestPlan(1), 1018);
        x.weight(1, 1);
        Due.is("one that is there does", x.bestPlan(1), 1027);
        Due.is("the plan is as it was", x.count(5), 0);
    }

    private static void greatestAndLeastSums() {
        for (int value : new int[] {9, -9}) {
            MessageGames x = Due.played("w0=9;w1=9;w2=9");
            for (int place = 0; place < 27; place++) {
                x.pay(1, place / 9, place / 3 % 3, place % 3, value);
            }
            Due.is("bestPlan(1)", x.bestPlan(1), 1000 + 27 * value);
            Due.is("bestPlan(0)", x.bestPlan(0), 0);
        }
    }

    private static void noPlanHolds() {
        MessageGames x = Due.played(NO_PLAN);
        for (int what = 0; what < 5; what++) {
            Due.is("plans(" + what + ")", x.plans(what), 0);
        }
        Due.is("planAt(0)", x.planAt(0), -1);
        Due.is("adopt(0)", x.adopt(0), -1);
        Due.is("bestPlan(0)", x.bestPlan(0), -6);
        Due.is("bestPlan(1)", x.bestPlan(1), -6);
        Due.is("BAD_VALUE comes before NONE", x.bestPlan(2), -2);
        Due.is("count(0)", x.count(0), 0);
        Due.is("count(2)", x.count(2), 0);
        Due.is("count(7)", x.count(7), 1);
        x.pay(0, 0, 0, 0, -1);
        Due.is("some hold again", x.plans(0) > 0 ? 1 : 0, 1);
        Due.is("some hold again", x.bestPlan(0) >= 0 ? 1 : 0, 1);
        x.undo();
        Due.is("none again", x.bestPlan(0), -6);
    }

    /** One number is different after all was asked, each time another one: what is told follows it at once. */
    private static void everythingIsAskedAnew() {
        String[] orders = {"w0=0", "w1=0", "w2=0", "o10=0", "o11=0", "o12=0", "o20=0", "o21=0", "o22=0"};
        for (String order : orders) {
            different(order);
        }
        for (int place = 0; place < 27; place++) {
            int type = place / 9, message = place / 3 % 3, action = place % 3;
            for (char who : new char[] {'u', 'v'}) {
                different("" + who + type + message + action + "=9");
            }
        }
    }

    private static void different(String order) {
        String game = "v000=1;v111=2;v222=3;v011=-1;v120=-2;v202=-3;u100=2;u012=-2;u220=1";
        MessageGames asked = Due.played(game);
        askAll(asked);
        Due.play(asked, order);
        MessageGames fresh = Due.played(game);
        Due.play(fresh, order);
        Due.is("all answers after " + order, askAll(asked), askAll(fresh));
        asked.undo();
        Due.is("all answers after undo()", askAll(asked), askAll(Due.played(game)));
    }

    private static long askAll(MessageGames x) {
        long all = 0;
        for (int what = 0; what < 5; what++) {
            all = all * 31 + x.plans(what);
        }
        for (int message = 0; message < 3; message++) {
            all = all * 31 + x.ofMessage(message, 2);
            all = all * 31 + x.ofMessage(message, 4);
            all = all * 31 + x.ofMessage(message, 5);
        }
        return ((all * 31 + x.planAt(x.plans(0) - 1)) * 31 + x.bestPlan(0)) * 31 + x.bestPlan(1);
    }

    private static void theLastCall() {
        MessageGames x = new MessageGames();
        for (int i = 0; i < 510; i++) {
            x.pay(0, i % 3, 1, 1, i % 10);
        }
        Due.is("the 511th call", x.plans(0) > 0 ? 1 : 0, 1);
        Due.is("the 512th call", x.count(7), 6);
    }
}
