import java.util.ArrayList;
import java.util.List;
import java.util.function.Consumer;

/** What can be undone, how far back, and what is saved in the slots. */
public final class HistoryTest {
    /** Each method that is a change, once so that something is different then, and once so that nothing is. */
    private static final List<Consumer<MessageGames>> CHANGES = List.of(
        x -> x.weight(2, 5), x -> x.pay(1, 2, 1, 0, -8), x -> x.believe(2, 0, 7), x -> x.send(1, 2), x -> x.answer(2, 1),
        x -> x.adopt(500), x -> carry(x, "w0=4;s2>1;a1>2;u000=0;v212=3;o11=0"), x -> x.restore(1));
    private static final List<Consumer<MessageGames>> IDLE_CHANGES = List.of(
        x -> x.weight(2, 1), x -> x.pay(1, 2, 1, 0, 0), x -> x.believe(2, 0, 1), x -> x.send(1, 0), x -> x.answer(2, 0),
        x -> x.adopt(0), x -> carry(x, "w0=1;u000=-0"), x -> x.restore(0));

    public static void main(String[] args) {
        aHistoryOfNone();
        aHistoryOfEachLength();
        eachChangeIsRecorded();
        changesThatMakeNoDifference();
        onlyChangesAreRecorded();
        refusedCallsDropNothing();
        undoIsNoChange();
        undoKeepsThePad();
        undoKeepsTheSlots();
        severalKindsOfChanges();
        slotsThatNothingWasSavedIn();
        whatIsSaved();
        savingAgain();
        savingIsNoChange();
        restoringIsAChange();
        restoringLeavesTheRest();
        Due.end();
    }

    private static void carry(MessageGames x, String orders) {
        x.wipe();
        Due.play(x, orders);
    }

    /** Slot 0 has the game as it is at first, slot 1 another one. */
    private static MessageGames withSlots() {
        MessageGames x = new MessageGames();
        x.save(0);
        Due.play(x, "w1=6;v111=6;o10=6;s0>1;a1>1");
        x.save(1);
        Due.is("undo()", x.undo(), 0);
        return x;
    }

    private static List<Long> state(MessageGames x) {
        List<Long> all = Due.shown(x);
        all.add((long) x.plans(0));
        all.add((long) x.ofMessage(1, 5));
        return all;
    }

    private static void aHistoryOfNone() {
        MessageGames x = new MessageGames();
        Due.is("count(7)", x.count(7), 0);
        Due.is("undo()", x.undo(), -5);
        x.send(0, 1);
        Due.is("undo()", x.undo(), 0);
        Due.is("undo() once more", x.undo(), -5);
        Due.is("and once more", x.undo(), -5);
        Due.is("count(7)", x.count(7), 0);
        Due.is("count(5)", x.count(5), 0);
    }

    /** After so many changes at most six can be undone, one by one, back to the state before the oldest that is kept. */
    private static void aHistoryOfEachLength() {
        for (int changes = 1; changes <= 20; changes++) {
            int kept = Math.min(changes, 6);
            for (int undone = 1; undone <= kept + 1; undone++) {
                MessageGames x = paid(changes);
                for (int i = 1; i <= undone; i++) {
                    Due.is("undo() " + i + " of " + changes, x.undo(), i <= kept ? kept - i : -5);
                }
                Due.is("count(7)", x.count(7), Math.max(kept - undone, 0));
                Due.same("undo() of " + undone + " of " + changes, state(x), state(paid(changes - Math.min(undone, kept))));
                x.send(0, 1);
                Due.is("it can be filled again", x.count(7), Math.max(kept - undone, 0) + 1);
            }
        }
    }

    private static MessageGames paid(int changes) {
        MessageGames x = new MessageGames();
        for (int i = 0; i < changes; i++) {
            x.pay(i % 2, i % 3, i / 3 % 3, i % 3, i % 9 + 1);
            Due.is("count(7)", x.count(7), Math.min(i + 1, 6));
        }
        return x;
    }

    private static void eachChangeIsRecorded() {
        for (Consumer<MessageGames> change : CHANGES) {
            MessageGames x = withSlots();
            List<Long> before = state(x), told = Due.told(withSlots());
            change.accept(x);
            Due.is("count(7)", x.count(7), 1);
            Due.is("something is different", state(x).equals(before) ? 1 : 0, 0);
            Due.is("undo()", x.undo(), 0);
            Due.same("change and undo()", state(x), before);
            Due.same("change and undo()", Due.told(x), told);
        }
    }

    private static void changesThatMakeNoDifference() {
        for (Consumer<MessageGames> change : IDLE_CHANGES) {
            MessageGames x = withSlots();
            List<Long> before = state(x);
            for (int i = 1; i <= 7; i++) {
                change.accept(x);
                Due.is("count(7)", x.count(7), Math.min(i, 6));
            }
            Due.same("nothing is different", state(x), before);
            for (int i = 5; i >= 0; i--) {
                Due.is("undo()", x.undo(), i);
            }
            Due.is("undo()", x.undo(), -5);
        }
        MessageGames x = withSlots();
        x.weight(0, 9);
        IDLE_CHANGES.forEach(change -> change.accept(x));
        Due.is("eight more than one", x.count(7), 6);
        MessageGames y = withSlots();
        y.weight(0, 9);
        IDLE_CHANGES.subList(0, 5).forEach(change -> change.accept(y));
        for (int i = 5; i >= 0; i--) {
            Due.is("still", y.ofType(0, 0), 9);
            Due.is("undo()", y.undo(), i);
        }
        Due.is("the first one undone", y.ofType(0, 0), 1);
    }

    private static void onlyChangesAreRecorded() {
        MessageGames x = new MessageGames();
        x.put('w');
        x.fault();
        x.wipe();
        x.save(0);
        x.save(1);
        Due.shown(x);
        for (int i = 0; i < 8; i++) {
            x.count(i);
            x.plans(i % 5);
            x.planAt(i);
            x.bestAnswer(i % 3);
            x.bestPlan(i % 2);
            x.why(i % 2);
            x.mean(i % 3, i / 3, i % 2);
            x.ofMessage(i % 3, i % 6);
            x.ofType(i % 3, i % 5);
        }
        Due.is("count(7)", x.count(7), 0);
        Due.is("undo()", x.undo(), -5);
    }

    private static void refusedCallsDropNothing() {
        MessageGames x = withSlots();
        for (int i = 1; i <= 6; i++) {
            x.weight(0, i + 1);
        }
        x.weight(3, 1);
        x.weight(0, 10);
        x.pay(2, 0, 0, 0, 0);
        x.pay(0, 0, 0, 0, 10);
        x.believe(3, 0, 0);
        x.believe(0, 0, -1);
        x.send(0, -1);
        x.answer(3, 0);
        x.adopt(-1);
        x.adopt(729);
        x.carryOut();
        x.restore(2);
        x.save(-1);
        for (int i = 6; i >= 1; i--) {
            Due.is("weight", x.ofType(0, 0), i + 1);
            Due.is("undo()", x.undo(), i - 1);
        }
        Due.is("weight", x.ofType(0, 0), 1);
    }

    private static void undoIsNoChange() {
        MessageGames x = new MessageGames();
        x.weight(0, 2);
        x.weight(0, 3);
        x.weight(0, 4);
        Due.is("undo()", x.undo(), 2);
        Due.is("undo()", x.undo(), 1);
        Due.is("undo() goes back and never forth", x.ofType(0, 0), 2);
        x.weight(0, 5);
        Due.is("count(7)", x.count(7), 2);
        Due.is("undo()", x.undo(), 1);
        Due.is("before the new change", x.ofType(0, 0), 2);
        Due.is("undo()", x.undo(), 0);
        Due.is("before the first one", x.ofType(0, 0), 1);
    }

    private static void undoKeepsThePad() {
        MessageGames x = new MessageGames();
        Due.write(x, "w0=7");
        x.send(0, 1);
        Due.write(x, ";w1=8");
        Due.is("undo()", x.undo(), 0);
        Due.is("the pad stays", x.count(6), 9);
        Due.is("carryOut()", x.carryOut(), 2);
        Due.is("undo()", x.undo(), 0);
        Due.is("the pad doesn't come back", x.count(6), 0);
        Due.is("fault()", x.fault(), 0);
        Due.is("weights", x.ofType(0, 0) * 10 + x.ofType(1, 0), 11);
        x.send(0, 2);
        Due.write(x, "x");
        x.wipe();
        x.undo();
        Due.is("the pad stays empty", x.count(6), 0);
    }

    private static void undoKeepsTheSlots() {
        MessageGames x = new MessageGames();
        x.send(0, 1);
        Due.is("save(0)", x.save(0), 243);
        x.send(0, 2);
        Due.is("save(1)", x.save(1), 486);
        x.undo();
        x.undo();
        Due.is("count(5)", x.count(5), 0);
        Due.is("what was saved before", x.restore(0), 243);
        Due.is("what was saved between", x.restore(1), 486);
        Due.is("undo() of restore()", x.undo(), 1);
        Due.is("count(5)", x.count(5), 243);
        Due.is("a slot keeps it", x.restore(1), 486);
        MessageGames y = new MessageGames();
        y.save(0);
        y.send(0, 1);
        y.save(0);
        y.undo();
        Due.is("a slot that was saved again stays so", y.restore(0), 243);
    }

    private static void severalKindsOfChanges() {
        for (int undone = 0; undone <= 6; undone++) {
            MessageGames x = changed(CHANGES.size());
            Due.is("count(7)", x.count(7), 6);
            for (int i = 1; i <= undone; i++) {
                Due.is("undo()", x.undo(), 6 - i);
            }
            Due.same("undo() of " + undone, state(x), state(changed(CHANGES.size() - undone)));
        }
    }

    private static MessageGames changed(int changes) {
        MessageGames x = withSlots();
        CHANGES.subList(0, changes).forEach(change -> change.accept(x));
        return x;
    }

    private static void slotsThatNothingWasSavedIn() {
        for (int slot = 0; slot < 2; slot++) {
            MessageGames x = new MessageGames();
            Due.is("nothing was saved", x.restore(slot), -5);
            Due.is("no change", x.count(7), 0);
            x.save(1 - slot);
            Due.is("nothing was saved there", x.restore(slot), -5);
            Due.is("no change", x.count(7), 0);
            x.send(0, 1);
            Due.is("save", x.save(slot), 243);
            Due.is("it was saved", x.restore(slot), 243);
            Due.is("the other one", x.restore(1 - slot), 0);
            x.undo();
            x.undo();
            x.undo();
            Due.is("undo() doesn't empty it", x.restore(slot), 243);
        }
    }

    private static void whatIsSaved() {
        for (int slot = 0; slot < 2; slot++) {
            MessageGames x = new MessageGames();
            for (int place = 0; place < 54; place++) {
                x.pay(place / 27, place / 9 % 3, place / 3 % 3, place % 3, place % 19 - 9);
            }
            Due.play(x, "w0=9;w1=0;w2=4;o10=3;o11=0;o12=8;o20=0;o21=7;o22=0;s0>2;s1>1;s2>2");
            Due.play(x, "a0>1;a1>2;a2>1;o00=5;o01=6;o02=0");
            List<Long> before = state(x);
            Due.is("save", x.save(slot), x.count(5));
            for (int place = 0; place < 54; place++) {
                x.pay(place / 27, place / 9 % 3, place / 3 % 3, place % 3, 5);
            }
            x.adopt(0);
            Due.play(x, "w1=3;w0=0;w2=2;s0>0;s1>0;s2>0;a0>0;a1>0;a2>0");
            List<Long> told = Due.told(x);
            Due.is("what was told before", told.equals(List.of(5L, 6L, 0L, 3L, 0L, 8L, 0L, 7L, 0L)) ? 1 : 0, 1);
            Due.is("restore", x.restore(slot), 2 * 243 + 81 + 2 * 27 + 9 + 6 + 1);
            Due.same("save and restore", state(x), before);
            Due.same("what was told", Due.told(x), told);
        }
    }

    private static void savingAgain() {
        MessageGames x = new MessageGames();
        Due.is("save(0)", x.save(0), 0);
        x.adopt(100);
        Due.is("save(1)", x.save(1), 100);
        x.adopt(728);
        Due.is("save(0) over it", x.save(0), 728);
        x.adopt(5);
        Due.is("the new one", x.restore(0), 728);
        Due.is("the other slot", x.restore(1), 100);
        x.weight(0, 9);
        Due.is("the slot keeps it", x.restore(1), 100);
        Due.is("the slot keeps it", x.ofType(0, 0), 1);
        x.weight(0, 9);
        Due.is("save(1) over it", x.save(1), 100);
        x.weight(0, 2);
        x.restore(1);
        Due.is("what was saved last", x.ofType(0, 0), 9);
    }

    private static void savingIsNoChange() {
        MessageGames x = new MessageGames();
        for (int i = 1; i <= 6; i++) {
            x.weight(0, i + 1);
        }
        x.save(0);
        x.save(1);
        Due.is("count(7)", x.count(7), 6);
        for (int i = 5; i >= 0; i--) {
            x.undo();
            x.save(i % 2);
            Due.is("count(7)", x.count(7), i);
            Due.is("weight", x.ofType(0, 0), i + 1);
        }
    }

    private static void restoringIsAChange() {
        MessageGames x = new MessageGames();
        x.save(0);
        for (int i = 1; i <= 6; i++) {
            x.weight(0, i + 1);
        }
        Due.is("restore(0)", x.restore(0), 0);
        Due.is("count(7)", x.count(7), 6);
        Due.is("weight", x.ofType(0, 0), 1);
        for (int i = 5; i >= 0; i--) {
            Due.is("undo()", x.undo(), i);
            Due.is("weight", x.ofType(0, 0), i + 2);
        }
        Due.is("the oldest one was dropped", x.undo(), -5);
        x.undo();
        Due.is("restore(0)", x.restore(0), 0);
        Due.is("the history isn't restored", x.count(7), 1);
    }

    private static void restoringLeavesTheRest() {
        MessageGames x = new MessageGames();
        Due.write(x, "w0=3;");
        x.send(0, 1);
        x.save(0);
        x.send(0, 2);
        Due.write(x, "w1=4");
        x.save(1);
        Due.is("restore(0)", x.restore(0), 243);
        Due.is("the pad stays", x.count(6), 9);
        Due.is("the history stays", x.count(7), 3);
        Due.is("the other slot stays", x.restore(1), 486);
        Due.is("carryOut()", x.carryOut(), 2);
        Due.is("restore(0)", x.restore(0), 243);
        Due.is("the pad isn't restored", x.count(6), 0);
    }
}
