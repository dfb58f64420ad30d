import java.util.ArrayList;
import java.util.LinkedHashMap;
import java.util.List;
import java.util.Map;
import java.util.function.Consumer;
import java.util.function.ToIntFunction;

/**
 * A call that returns an error changes nothing, and neither does one that only asks: all that can be learned of an
 * object is compared with what can be learned of one that was made in the same way without that call.
 */
public final class RefusedTest {
    private static final int[] NOT_THREE = {-1, 3, Due.MOST, Due.LEAST};
    private static final int[] NOT_TWO = {-1, 2, Due.MOST, Due.LEAST};
    private static final int[] NOT_WEIGHTS = {-1, 10, Due.MOST, Due.LEAST};
    private static final int[] NOT_VALUES = {-10, 10, Due.MOST, Due.LEAST};

    /** A call, and the error that it answers; 0 if it is one that only asks. */
    private static final class Call {
        final String name;
        final ToIntFunction<MessageGames> call;
        final int error;

        Call(String name, int error, ToIntFunction<MessageGames> call) {
            this.name = name;
            this.call = call;
            this.error = error;
        }
    }

    public static void main(String[] args) {
        Map<String, Consumer<MessageGames>> setups = new LinkedHashMap<>();
        setups.put("a new object", x -> { });
        setups.put("a full history", RefusedTest::fillHistory);
        setups.put("a full pad", RefusedTest::fillPad);
        setups.forEach((name, setup) -> {
            check(name, setup, alwaysRefused());
            check(name, setup, questions());
        });
        check("a new object", setups.get("a new object"), refusedWhenNew());
        check("a full history", setups.get("a full history"), refusedWithFullHistory());
        check("a full pad", setups.get("a full pad"), refusedWithFullPad());
        Due.end();
    }

    private static void check(String name, Consumer<MessageGames> setup, List<Call> calls) {
        List<Long> without = Due.everything(setup);
        for (Call each : calls) {
            String told = each.name + " on " + name;
            if (each.error != 0) {
                Due.is(told, each.call.applyAsInt(Due.made(setup)), each.error);
            }
            Due.same(told, Due.everything(setup.andThen(x -> each.call.applyAsInt(x))), without);
        }
    }

    /** Only type 1 is there, message 1 is believed to come from type 2 alone, and six changes can be undone. */
    private static void fillHistory(MessageGames x) {
        Due.play(x, "w0=0;w2=0;o10=0;o11=0;s1>2;a2>1;u120=3;v121=-4");
        x.save(0);
        for (int weight = 2; weight <= 7; weight++) {
            x.weight(1, weight);
        }
        x.send(0, 1);
        x.answer(0, 2);
        Due.is("the history is full", x.count(7), 6);
        Due.write(x, "s0>2;v002=-7;w2=3");
    }

    /** No plan holds, both slots are full, and the pad ends too early at 80 characters. */
    private static void fillPad(MessageGames x) {
        x.answer(1, 2);
        x.save(1);
        Due.play(x, "w2=0;v100=1;v101=-1;u100=-1;u001=-1;u011=-1;v001=1;u000=1");
        x.save(0);
        Due.write(x, Due.filledUp(80, "w0="));
        Due.is("the pad is full", x.count(6), 80);
        Due.is("no plan holds", x.plans(0), 0);
    }

    private static List<Call> alwaysRefused() {
        List<Call> calls = new ArrayList<>();
        for (int bad : NOT_THREE) {
            calls.add(new Call("weight, type", -1, x -> x.weight(bad, 5)));
            calls.add(new Call("pay, type", -1, x -> x.pay(0, bad, 0, 0, 5)));
            calls.add(new Call("pay, message", -1, x -> x.pay(1, 0, bad, 0, 5)));
            calls.add(new Call("pay, action", -1, x -> x.pay(1, 0, 0, bad, 5)));
            calls.add(new Call("believe, message", -1, x -> x.believe(bad, 0, 5)));
            calls.add(new Call("believe, type", -1, x -> x.believe(0, bad, 5)));
            calls.add(new Call("send, type", -1, x -> x.send(bad, 1)));
            calls.add(new Call("send, message", -1, x -> x.send(1, bad)));
            calls.add(new Call("answer, message", -1, x -> x.answer(bad, 1)));
            calls.add(new Call("answer, action", -1, x -> x.answer(1, bad)));
            calls.add(new Call("payoff, type", -1, x -> x.payoff(0, bad, 0, 0)));
            calls.add(new Call("payoff, message", -1, x -> x.payoff(0, 0, bad, 0)));
            calls.add(new Call("payoff, action", -1, x -> x.payoff(0, 0, 0, bad)));
            calls.add(new Call("ofType, type", -1, x -> x.ofType(bad, 0)));
            calls.add(new Call("ofMessage, message", -1, x -> x.ofMessage(bad, 0)));
            calls.add(new Call("belief, message", -1, x -> x.belief(bad, 0, 0)));
            calls.add(new Call("belief, type", -1, x -> x.belief(0, bad, 0)));
            calls.add(new Call("mean, message", -1, x -> x.mean(bad, 0, 0)));
            calls.add(new Call("mean, action", -1, x -> x.mean(0, bad, 0)));
            calls.add(new Call("bestAnswer, message", -1, x -> x.bestAnswer(bad)));
        }
        for (int bad : NOT_TWO) {
            calls.add(new Call("pay, who", -2, x -> x.pay(bad, 0, 0, 0, 5)));
            calls.add(new Call("payoff, who", -2, x -> x.payoff(bad, 0, 0, 0)));
            calls.add(new Call("belief, what", -2, x -> x.belief(0, 0, bad)));
            calls.add(new Call("mean, what", -2, x -> x.mean(0, 0, bad)));
            calls.add(new Call("why, what", -2, x -> x.why(bad)));
            calls.add(new Call("bestPlan, what", -2, x -> x.bestPlan(bad)));
            calls.add(new Call("save, slot", -2, x -> x.save(bad)));
            calls.add(new Call("restore, slot", -2, x -> x.restore(bad)));
        }
        for (int bad : NOT_WEIGHTS) {
            calls.add(new Call("weight, weight", -2, x -> x.weight(1, bad)));
            calls.add(new Call("believe, weight", -2, x -> x.believe(1, 2, bad)));
        }
        for (int bad : NOT_VALUES) {
            calls.add(new Call("pay, value", -2, x -> x.pay(1, 1, 1, 1, bad)));
        }
        for (int bad : new int[] {-1, 729, Due.MOST, Due.LEAST}) {
            calls.add(new Call("adopt, place", -1, x -> x.adopt(bad)));
            calls.add(new Call("planAt, place", -1, x -> x.planAt(bad)));
            calls.add(new Call("ofType, what", -2, x -> x.ofType(0, bad)));
            calls.add(new Call("ofMessage, what", -2, x -> x.ofMessage(0, bad)));
            calls.add(new Call("count, what", -2, x -> x.count(bad)));
            calls.add(new Call("plans, what", -2, x -> x.plans(bad)));
        }
        for (long bad : new long[] {0, 32, 127, 255, -1, Due.packed("w0=1") << 8, Due.packed("a") << 56, Due.packed("; "), Long.MIN_VALUE}) {
            calls.add(new Call("put, characters", -2, x -> x.put(bad)));
        }
        return calls;
    }

    private static List<Call> refusedWhenNew() {
        List<Call> calls = new ArrayList<>();
        calls.add(new Call("undo()", -5, x -> x.undo()));
        calls.add(new Call("restore(0)", -5, x -> x.restore(0)));
        calls.add(new Call("restore(1)", -5, x -> x.restore(1)));
        calls.add(new Call("carryOut() of nothing", -3, x -> x.carryOut()));
        return calls;
    }

    private static List<Call> refusedWithFullHistory() {
        List<Call> calls = new ArrayList<>();
        calls.add(new Call("weight, all 0", -5, x -> x.weight(1, 0)));
        calls.add(new Call("believe, all 0", -5, x -> x.believe(1, 2, 0)));
        calls.add(new Call("restore(1)", -5, x -> x.restore(1)));
        return calls;
    }

    private static List<Call> refusedWithFullPad() {
        List<Call> calls = new ArrayList<>();
        calls.add(new Call("put, one character", -4, x -> x.put('1')));
        calls.add(new Call("put, eight characters", -4, x -> x.put(Due.packed("1;w0=1;w"))));
        calls.add(new Call("carryOut() of what ends too early", -3, x -> x.carryOut()));
        calls.add(new Call("adopt(0), none", -1, x -> x.adopt(0)));
        calls.add(new Call("planAt(0), none", -1, x -> x.planAt(0)));
        calls.add(new Call("bestPlan(0), none", -6, x -> x.bestPlan(0)));
        calls.add(new Call("bestPlan(1), none", -6, x -> x.bestPlan(1)));
        return calls;
    }

    private static List<Call> questions() {
        List<Call> calls = new ArrayList<>();
        for (int what = 0; what <= 7; what++) {
            int number = what, index = what % 3, other = what / 3;
            calls.add(new Call("payoff", 0, x -> x.payoff(number % 2, index, other, 2 - index)));
            calls.add(new Call("ofType", 0, x -> x.ofType(index, number % 5)));
            calls.add(new Call("ofMessage", 0, x -> x.ofMessage(index, number % 6)));
            calls.add(new Call("belief", 0, x -> x.belief(index, other, number % 2)));
            calls.add(new Call("mean", 0, x -> x.mean(index, other, number % 2)));
            calls.add(new Call("why", 0, x -> x.why(number % 2)));
            calls.add(new Call("count", 0, x -> x.count(number)));
            calls.add(new Call("plans", 0, x -> x.plans(number % 5)));
            calls.add(new Call("planAt", 0, x -> x.planAt(number)));
            calls.add(new Call("bestAnswer", 0, x -> x.bestAnswer(index)));
            calls.add(new Call("bestPlan", 0, x -> x.bestPlan(number % 2)));
        }
        calls.add(new Call("fault", 0, x -> x.fault()));
        return calls;
    }
}
