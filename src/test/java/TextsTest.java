import java.util.List;

/** The pad: which numbers put() takes, each sign at each place of each order, the pad's length, carrying orders out. */
public final class TextsTest {
    private static final String NUMBER = "0123456789", DIGIT = "012", LETTERS = "wsauvo";

    /** Whole orders, and what may stand at each of their places and behind them. */
    private static final String[][] ORDERS = {
        {"w2=9", LETTERS, DIGIT, "=", NUMBER, ";"},
        {"s0>2", LETTERS, DIGIT, ">", DIGIT, ";"},
        {"a1>0", LETTERS, DIGIT, ">", DIGIT, ";"},
        {"u012=5", LETTERS, DIGIT, DIGIT, DIGIT, "=", "-" + NUMBER, ";"},
        {"u201=-9", LETTERS, DIGIT, DIGIT, DIGIT, "=", "-" + NUMBER, NUMBER, ";"},
        {"v120=0", LETTERS, DIGIT, DIGIT, DIGIT, "=", "-" + NUMBER, ";"},
        {"v222=-0", LETTERS, DIGIT, DIGIT, DIGIT, "=", "-" + NUMBER, NUMBER, ";"},
        {"o21=7", LETTERS, DIGIT, DIGIT, "=", NUMBER, ";"},
    };

    public static void main(String[] args) {
        noCharacters();
        numbersOfCharacters();
        codesAtEachPlace();
        bitsAboveTheEnd();
        theOrderOfCharacters();
        lengthsOfThePad();
        wiping();
        theEmptyPad();
        eachSignAtEachPlace();
        textsThatEndTooEarly();
        theFirstOfSeveralFaults();
        fullPads();
        asksNothingOfTheGame();
        eachOrderAtItsBounds();
        ordersThatAreRefused();
        aTextThatStays();
        aTextIsOneChange();
        Due.end();
    }

    private static void noCharacters() {
        MessageGames x = new MessageGames();
        for (long number : new long[] {0, 1L << 8, 'a' << 8, (long) 'a' << 16, (long) 'a' << 56, Long.MIN_VALUE, -256}) {
            Due.is("put(" + number + ")", x.put(number), -2);
        }
        Due.is("count(6)", x.count(6), 0);
    }

    private static void numbersOfCharacters() {
        String text = "abcdefgh";
        for (int length = 1; length <= 8; length++) {
            MessageGames x = new MessageGames();
            Due.is("put of " + length, x.put(Due.packed(text.substring(0, length))), length);
            Due.is("count(6)", x.count(6), length);
            Due.is("put of " + length + " again", x.put(Due.packed(text.substring(0, length))), 2 * length);
            Due.is("wipe()", x.wipe(), 2 * length);
        }
    }

    /** Each code from 1 to 255 at each place of a text of each length. */
    private static void codesAtEachPlace() {
        for (int length = 1; length <= 8; length++) {
            for (int place = 0; place < length; place++) {
                MessageGames x = null;
                for (int code = 1; code < 256; code++) {
                    x = code % 64 == 1 ? new MessageGames() : x;
                    x.wipe();
                    StringBuilder text = new StringBuilder("!~!~!~!~".substring(0, length));
                    text.setCharAt(place, (char) code);
                    boolean isTaken = code >= 33 && code <= 126;
                    Due.is("put, " + code + " at " + place + " of " + length, x.put(Due.packed(text.toString())), isTaken ? length : -2);
                    Due.is("count(6)", x.count(6), isTaken ? length : 0);
                }
            }
        }
    }

    private static void bitsAboveTheEnd() {
        for (int length = 1; length <= 7; length++) {
            long text = Due.packed("w0=1;w0".substring(0, length));
            MessageGames x = new MessageGames();
            for (int bit = 8 * (length + 1); bit < 64; bit++) {
                Due.is("put, a bit at " + bit + " above " + length, x.put(text | 1L << bit), -2);
            }
            Due.is("nothing was put", x.count(6), 0);
            Due.is("put, no bit", x.put(text), length);
        }
    }

    private static void theOrderOfCharacters() {
        String text = "s0>2;a2>1;u012=-7";
        for (int step = 1; step <= 8; step++) {
            MessageGames x = new MessageGames();
            for (int start = 0; start < text.length(); start += step) {
                int end = Math.min(text.length(), start + step);
                Due.is("put of " + step, x.put(Due.packed(text.substring(start, end))), end);
            }
            Due.is("fault()", x.fault(), -6);
            Due.is("carryOut()", x.carryOut(), 3);
            Due.is("count(5)", x.count(5), 2 * 243 + 1);
            Due.is("payoff(0, 0, 1, 2)", x.payoff(0, 0, 1, 2), 93);
        }
    }

    /** Each length of the pad before, and each number of characters more, up to 80 and beyond. */
    private static void lengthsOfThePad() {
        for (int before = 70; before <= 80; before++) {
            for (int more = 1; more <= 8; more++) {
                MessageGames x = new MessageGames();
                Due.write(x, Due.filledUp(before, ""));
                Due.is("count(6)", x.count(6), before);
                boolean isTaken = before + more <= 80;
                String text = "xw0=1;w0".substring(0, more);
                Due.is("BAD_VALUE before TOO_MANY", x.put(Due.packed(text.substring(1) + " ")), -2);
                Due.is("a gap before TOO_MANY", x.put(1L << 63 | '1'), -2);
                Due.is("put of " + more + " on " + before, x.put(Due.packed(text)), isTaken ? before + more : -4);
                Due.is("count(6)", x.count(6), isTaken ? before + more : before);
                Due.is("behind the orders nothing stands, or what cannot stand there", x.fault(), before);
            }
        }
    }

    private static void wiping() {
        for (int length : new int[] {0, 1, 8, 9, 79, 80}) {
            MessageGames x = new MessageGames();
            Due.write(x, "w2=9;w0=1;".repeat(8).substring(0, length));
            Due.is("wipe()", x.wipe(), length);
            Due.is("count(6)", x.count(6), 0);
            Due.is("wipe() again", x.wipe(), 0);
            Due.is("no change", x.count(7), 0);
            Due.is("fault()", x.fault(), 0);
            Due.write(x, "w1=0");
            Due.is("nothing of it is left", x.fault(), -6);
            Due.is("carryOut()", x.carryOut(), 1);
            Due.is("nothing of it is left", x.count(3), 5);
        }
    }

    private static void theEmptyPad() {
        MessageGames x = new MessageGames();
        Due.is("count(6)", x.count(6), 0);
        Due.is("it ends too early", x.fault(), 0);
        Due.is("BAD_TEXT", x.carryOut(), -3);
        Due.is("no change", x.count(7), 0);
        Due.play(x, "w0=2");
        Due.is("empty behind carryOut()", x.fault(), 0);
        Due.is("BAD_TEXT", x.carryOut(), -3);
        Due.is("no other change", x.count(7), 1);
    }

    private static void fault(String text, int want) {
        MessageGames x = new MessageGames();
        Due.write(x, text);
        Due.is("fault() of " + text, x.fault(), want);
        Due.is("the pad stays", x.count(6), text.length());
        Due.is("carryOut() of " + text, x.carryOut() == -3 ? 1 : 0, want == -6 ? 0 : 1);
    }

    /** Each of the 94 signs at each place of each order, alone and behind others, with and without the rest of it. */
    private static void eachSignAtEachPlace() {
        for (String start : new String[] {"", "s2>0;", "v000=-1;o11=0;"}) {
            for (String[] order : ORDERS) {
                for (int place = 0; place < order.length - 1; place++) {
                    for (char sign = 33; sign < 127; sign++) {
                        int index = start.length() + place;
                        String text = start + order[0].substring(0, place) + sign;
                        boolean isGood = order[place + 1].indexOf(sign) >= 0;
                        boolean isWhole = isGood && isEnd(order, place, sign);
                        fault(text, !isGood ? index : isWhole ? -6 : index + 1);
                        if (!isGood && place < order[0].length()) {
                            fault(text + order[0].substring(place + 1), index);
                        }
                    }
                }
            }
        }
    }

    /** Whether the order is whole with this sign: if it is its last one, or the number where a '-' could have stood. */
    private static boolean isEnd(String[] order, int place, char sign) {
        boolean isNumber = NUMBER.indexOf(sign) >= 0;
        boolean couldBeMinus = order[place + 1].charAt(0) == '-';
        return isNumber && (couldBeMinus || place == order[0].length() - 1);
    }

    private static void textsThatEndTooEarly() {
        for (String[] order : ORDERS) {
            for (String start : new String[] {"", "w1=1;", "u000=-9;a0>0;"}) {
                for (int length = 0; length < order[0].length(); length++) {
                    String text = start + order[0].substring(0, length);
                    fault(text, text.length());
                }
                fault(start + order[0], -6);
                fault(start + order[0] + ";", start.length() + order[0].length() + 1);
            }
        }
    }

    private static void theFirstOfSeveralFaults() {
        fault("w3=x;;", 1);
        fault("w0=1;w0=1;;w3", 10);
        fault("w0=1w0=1", 4);
        fault("w0=11", 4);
        fault("u000=-11", 7);
        fault("u000=1-", 6);
        fault("u000=--1", 6);
        fault("u000=+1", 5);
        fault("w0=-1", 3);
        fault("o00=-1", 4);
        fault("s0>-1", 3);
        fault("W0=1", 0);
        fault("0", 0);
        fault(";", 0);
        fault("w0=1,w0=1", 4);
        fault("w0=1;-", 5);
    }

    private static void fullPads() {
        for (String[] order : ORDERS) {
            String text = Due.filledUp(80, order[0]);
            fault(text, -6);
            fault(text.substring(0, 79) + "x", 79);
            fault("x" + text.substring(1), 0);
            fault(Due.filledUp(80, order[0].substring(1)), 80 - order[0].length() + 1);
            for (int length = 1; length < order[0].length(); length++) {
                fault(Due.filledUp(80, order[0].substring(0, length)), 80);
            }
            fault(Due.filledUp(79, order[0]), -6);
            fault(Due.filledUp(79, order[0]) + ";", 80);
            fault(Due.filledUp(79, order[0]) + "1", 79);
        }
        fault("w0=1;".repeat(16), 80);
        MessageGames x = new MessageGames();
        Due.write(x, Due.filledUp(80, "w0=8"));
        Due.is("carryOut() of a full pad", x.carryOut(), 16);
        Due.is("its last order", x.ofType(0, 0), 8);
        Due.is("the pad is empty", x.count(6), 0);
        Due.write(x, Due.filledUp(80, "w0=/"));
        Due.is("the last character cannot stand", x.fault(), 79);
        Due.is("BAD_TEXT", x.carryOut(), -3);
        Due.is("the pad stays", x.wipe(), 80);
    }

    /** A text that a call would refuse has no fault for that. */
    private static void asksNothingOfTheGame() {
        fault("w0=0;w1=0;w2=0;o00=0;o01=0;o02=0", -6);
    }

    private static MessageGames carried(String text, int want) {
        MessageGames x = new MessageGames();
        Due.write(x, text);
        Due.is("carryOut() of " + text, x.carryOut(), want);
        Due.is("count(6) after " + text, x.count(6), 0);
        Due.is("count(7) after " + text, x.count(7), 1);
        return x;
    }

    private static void eachOrderAtItsBounds() {
        for (int i = 0; i < 3; i++) {
            for (int j = 0; j < 3; j++) {
                Due.is("s", carried("s" + i + ">" + j, 1).ofType(i, 1), j);
                Due.is("a", carried("a" + i + ">" + j, 1).ofMessage(i, 1), j);
                for (int number = 0; number < 10; number++) {
                    Due.is("w", carried("w" + i + "=" + number, 1).ofType(i, 0), number);
                    Due.is("o", carried("o" + i + j + "=" + number, 1).believe(i, j, 1), number);
                }
                for (int k = 0; k < 3; k++) {
                    for (int number = -9; number < 10; number++) {
                        Due.is("u", carried("u" + i + j + k + "=" + number, 1).payoff(0, i, j, k), 100 + number);
                        Due.is("v", carried("v" + i + j + k + "=" + number, 1).payoff(1, i, j, k), 100 + number);
                    }
                    Due.is("u, -0", carried("u" + i + j + k + "=5;u" + i + j + k + "=-0", 2).payoff(0, i, j, k), 100);
                    Due.is("v, -0", carried("v" + i + j + k + "=5;v" + i + j + k + "=-0", 2).payoff(1, i, j, k), 100);
                }
            }
        }
    }

    private static void ordersThatAreRefused() {
        MessageGames x = carried("w0=0;w2=0;w1=0;w0=3;s0>2", 2);
        Due.is("up to the first error, weights", x.count(3), 2);
        Due.is("none behind it", x.count(5), 0);
        x = carried("o12=0;o10=0;o11=0;o11=5;s0>2", 2);
        Due.is("up to the first error, beliefs", x.belief(1, 1, 0) * 10 + x.belief(1, 1, 1), 11);
        Due.is("none behind it", x.count(5), 0);
        Due.is("none behind it", x.believe(1, 1, 1), 1);
        x = Due.played("w0=0;w1=0;o00=0;o01=0");
        Due.write(x, "w2=0;s0>1");
        Due.is("none is carried out", x.carryOut(), 0);
        Due.is("a change all the same", x.count(7), 2);
        Due.is("the pad is empty all the same", x.count(6), 0);
        Due.is("count(5)", x.count(5), 0);
        Due.write(x, "a0>1;o02=0");
        Due.is("all but the last one", x.carryOut(), 1);
        Due.is("count(5)", x.count(5), 9);
        Due.is("undo()", x.undo(), 2);
        Due.is("count(5)", x.count(5), 0);
        Due.is("undo() of nothing", x.undo(), 1);
        Due.is("undo()", x.undo(), 0);
        Due.is("count(3)", x.count(3), 7);
    }

    private static void aTextThatStays() {
        for (String text : new String[] {"w", "w0=0;", "w0=0;x", "w0=0;w0=x", "u000=-", "a0>1;s0>3"}) {
            MessageGames x = new MessageGames();
            Due.write(x, text);
            List<Long> before = Due.shown(x);
            Due.is("BAD_TEXT of " + text, x.carryOut(), -3);
            Due.is("the pad stays", x.count(6), text.length());
            Due.is("no change", x.count(7), 0);
            Due.same("carryOut() of " + text, Due.shown(x), before);
        }
        MessageGames x = new MessageGames();
        Due.write(x, "s0>1;a1>");
        Due.is("BAD_TEXT", x.carryOut(), -3);
        Due.write(x, "2");
        Due.is("it is carried out once it is whole", x.carryOut(), 2);
        Due.is("count(5)", x.count(5), 243 + 6);
    }

    private static void aTextIsOneChange() {
        MessageGames x = new MessageGames();
        for (int i = 1; i <= 7; i++) {
            Due.write(x, "w0=" + i + ";w1=" + i + ";w2=" + i);
            Due.is("carryOut()", x.carryOut(), 3);
            Due.is("count(7)", x.count(7), Math.min(i, 6));
        }
        for (int i = 6; i >= 1; i--) {
            Due.is("undo()", x.undo(), i - 1);
            Due.is("all of a text is undone", x.ofType(0, 0) * 100 + x.ofType(1, 0) * 10 + x.ofType(2, 0), 111 * i);
        }
        Due.is("no more", x.undo(), -5);
    }
}
