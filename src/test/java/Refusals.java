import java.util.function.ToLongFunction;

/**
 * "What is refused changes nothing", and "in what follows nothing is changed": of two objects that are alike one is
 * asked, and then all that can be told of both must be alike, down to what undoing and going on from slots brings.
 */
public final class Refusals {
    private static final Due DUE = new Due("Refusals");
    private static final int UNKNOWN = -1, OUTSIDE = -2, STATE = -3, FULL = -4;
    /** Of the players one is paid, one plays and is dear, three are tired, and one of these was told no wind. */
    private static final String TEXT = "OP3300P2100P1000P9900P1910B11B50B20";
    private static final String DOINGS = "g9 b1 p0 b1 r1 b1 k0 r1 b1 e1 r1 b1 r1 b1 r1 b1";

    public static void main(String[] args) {
        stateIsAsTold();
        refusedText();
        refusedActs();
        refusedActsInSilence();
        refusedQuestions();
        refusedHearing();
        refusedSlots();
        questionsChangeNothing();
        DUE.end();
    }

    private static HatGoesRound made(String text, String doings, String then) {
        HatGoesRound x = Runs.of(text, doings);
        for (int i = 0; i < 6; i++) {
            x.hear(x.count(1) - 1, 2 * i % 10, i % 2);
        }
        x.seed(77);
        return Due.tell(x, then);
    }

    private static void alike(String call, ToLongFunction<HatGoesRound> ask, long want, HatGoesRound x, HatGoesRound y) {
        DUE.is(call, ask.applyAsLong(x), want);
        DUE.same(call, Runs.everything(x), Runs.everything(y));
    }

    /** A call after many doings, with a text that is no concert, and six heard. */
    private static void full(String call, ToLongFunction<HatGoesRound> ask, long want) {
        alike(call, ask, want, made(TEXT, DOINGS, "OP1X"), made(TEXT, DOINGS, "OP1X"));
    }

    /** A call in a concert that begins so, with an empty row of acts, and nothing heard or kept. */
    private static void fresh(String text, String call, ToLongFunction<HatGoesRound> ask, long want) {
        alike(call + " of " + text, ask, want, Due.concert(text), Due.concert(text));
    }

    private static void after(String text, String doings, String call, ToLongFunction<HatGoesRound> ask, long want) {
        alike(call + " of " + text + " " + doings, ask, want, Runs.of(text, doings), Runs.of(text, doings));
    }

    private static void stateIsAsTold() {
        HatGoesRound x = made(TEXT, DOINGS, "OP1X");
        int[] due = {4, 5, 3, 7, 6, 8, 1, 22, 2, 1, 14, 6};
        for (int what = 0; what < due.length; what++) {
            DUE.is("count(" + what + ")", x.count(what), due[what]);
        }
    }

    private static void refusedText() {
        full("write(-1)", x -> x.write(-1), OUTSIDE);
        full("write(256)", x -> x.write(256), OUTSIDE);
        full("concert()", HatGoesRound::concert, STATE);
        String whole = "OP1100P1100P1100P1100P1100P1100B11B11B11B11B11B11B11B11";
        alike("write('O')", x -> x.write('O'), FULL, made(TEXT, DOINGS, whole + "X"), made(TEXT, DOINGS, whole + "X"));
        alike("write(256)", x -> x.write(256), OUTSIDE, made(TEXT, DOINGS, whole + "X"), made(TEXT, DOINGS, whole + "X"));
        alike("concert()", HatGoesRound::concert, STATE, made(TEXT, DOINGS, whole + "P"), made(TEXT, DOINGS, whole + "P"));
        alike("concert()", HatGoesRound::concert, STATE, made(TEXT, DOINGS, ""), made(TEXT, DOINGS, ""));
        alike("concert()", HatGoesRound::concert, STATE, made(TEXT, DOINGS, "OB11B1"), made(TEXT, DOINGS, "OB11B1"));
    }

    private static void refusedActs() {
        full("give(0)", x -> x.give(0), OUTSIDE);
        full("give(-1)", x -> x.give(-1), OUTSIDE);
        full("give(10)", x -> x.give(10), OUTSIDE);
        full("pay(-1)", x -> x.pay(-1), UNKNOWN);
        full("pay(5)", x -> x.pay(5), UNKNOWN);
        full("pay of one that is paid", x -> x.pay(0), STATE);
        full("pay of one that is tired", x -> x.pay(1), STATE);
        full("pay of one that is too dear", x -> x.pay(3), STATE);
        full("rest(-1)", x -> x.rest(-1), UNKNOWN);
        full("rest(5)", x -> x.rest(5), UNKNOWN);
        full("rest of one that is paid", x -> x.rest(0), STATE);
        full("rest of one without wind as told", x -> x.rest(2), STATE);
        full("rest of one that plays", x -> x.rest(3), STATE);
        fresh("O", "undo()", HatGoesRound::undo, STATE);
        fresh("OP1900B10", "undo()", HatGoesRound::undo, STATE);
        after(TEXT, DOINGS + " a0", "undo()", HatGoesRound::undo, STATE);
        after(TEXT, "g9 b1 u2", "undo()", HatGoesRound::undo, STATE);
    }

    private static void refusedActsInSilence() {
        fresh("O", "bar()", HatGoesRound::bar, STATE);
        fresh("OP1900", "bar()", HatGoesRound::bar, STATE);
        fresh("OB11", "bar()", HatGoesRound::bar, STATE);
        after("OP1900B10", "b1", "bar()", HatGoesRound::bar, STATE);
        after("OP1100B11", "b1", "bar()", HatGoesRound::bar, STATE);
        after("OP1131P1900B11", "g2 p0 p1", "bar()", HatGoesRound::bar, STATE);
        fresh("O", "encore()", HatGoesRound::encore, STATE);
        after("OP1900", "g5", "encore()", HatGoesRound::encore, STATE);
        alike("bar()", HatGoesRound::bar, STATE, new HatGoesRound(), new HatGoesRound());
        alike("encore()", HatGoesRound::encore, STATE, new HatGoesRound(), new HatGoesRound());
    }

    private static void refusedQuestions() {
        full("player(-1, 0)", x -> x.player(-1, 0), UNKNOWN);
        full("player(5, 5)", x -> x.player(5, 5), UNKNOWN);
        full("player(0, 5)", x -> x.player(0, 5), OUTSIDE);
        full("score(-1, 0)", x -> x.score(-1, 0), UNKNOWN);
        full("score(3, 3)", x -> x.score(3, 3), UNKNOWN);
        full("score(0, 3)", x -> x.score(0, 3), OUTSIDE);
        full("later(31, 0)", x -> x.later(31, 0), OUTSIDE);
        full("later(0, 2)", x -> x.later(0, 2), OUTSIDE);
        full("hush(10, 0)", x -> x.hush(10, 0), OUTSIDE);
        full("hush(0, 2)", x -> x.hush(0, 2), OUTSIDE);
        full("loud(0, 0)", x -> x.loud(0, 0), OUTSIDE);
        full("loud(13, 0)", x -> x.loud(13, 0), OUTSIDE);
        full("loud(1, 2)", x -> x.loud(1, 2), OUTSIDE);
        full("judge(0, 0)", x -> x.judge(0, 0), OUTSIDE);
        full("judge(5, 0)", x -> x.judge(5, 0), OUTSIDE);
        full("judge(1, 1000)", x -> x.judge(1, 1000), OUTSIDE);
        full("judge(4, -1)", x -> x.judge(4, -1), OUTSIDE);
        full("pays(2)", x -> x.pays(2), OUTSIDE);
        full("share(5, true)", x -> x.share(5, true), UNKNOWN);
        full("share(-1, false)", x -> x.share(-1, false), UNKNOWN);
        full("rests(2)", x -> x.rests(2), OUTSIDE);
        full("strings(10, 0, true)", x -> x.strings(10, 0, true), OUTSIDE);
        full("strings(0, 11, false)", x -> x.strings(0, 11, false), OUTSIDE);
        full("nights(0)", x -> x.nights(0), OUTSIDE);
        full("nights(31)", x -> x.nights(31), OUTSIDE);
        full("count(-1)", x -> x.count(-1), OUTSIDE);
        full("count(12)", x -> x.count(12), OUTSIDE);
    }

    private static void refusedHearing() {
        full("hear(5, 0, 0)", x -> x.hear(5, 0, 0), UNKNOWN);
        full("hear(-1, 10, 2)", x -> x.hear(-1, 10, 2), UNKNOWN);
        full("hear(0, 10, 0)", x -> x.hear(0, 10, 0), OUTSIDE);
        full("hear(0, 0, 2)", x -> x.hear(0, 0, 2), OUTSIDE);
        full("hear(3, 0, 0)", x -> x.hear(3, 0, 0), FULL);
        after(TEXT, DOINGS, "hear(5, 0, 0)", x -> x.hear(5, 0, 0), UNKNOWN);
        after(TEXT, DOINGS, "hear(0, 10, 0)", x -> x.hear(0, 10, 0), OUTSIDE);
        after(TEXT, DOINGS, "hear(0, 0, -1)", x -> x.hear(0, 0, -1), OUTSIDE);
    }

    private static void refusedSlots() {
        full("keep(-1)", x -> x.keep(-1), UNKNOWN);
        full("keep(2)", x -> x.keep(2), UNKNOWN);
        full("again(-1)", x -> x.again(-1), UNKNOWN);
        full("again(2)", x -> x.again(2), UNKNOWN);
        full("again(1)", x -> x.again(1), STATE);
        after(TEXT, DOINGS + " k1", "again(2)", x -> x.again(2), UNKNOWN);
    }

    /** Each question at the end of its range, so that it plays on as far as it ever does. */
    private static void questionsChangeNothing() {
        full("fault()", HatGoesRound::fault, 3);
        full("player(3, 1)", x -> x.player(3, 1), 2);
        full("score(0, 2)", x -> x.score(0, 2), 1);
        full("later(30, 0)", x -> x.later(30, 0), 8);
        full("later(30, 1)", x -> x.later(30, 1), HatGoesRound.NONE);
        full("stops()", HatGoesRound::stops, 1);
        full("hush(9, 0)", x -> x.hush(9, 0), 0);
        full("hush(0, 1)", x -> x.hush(0, 1), 8);
        full("loud(12, 0)", x -> x.loud(12, 0), 1);
        full("loud(12, 1)", x -> x.loud(12, 1), 4);
        full("judge(4, 109203301000)", x -> x.judge(4, 109203301000L), HatGoesRound.NONE);
        full("judge(4, 101303000000)", x -> x.judge(4, 101303000000L), 1);
        full("pays(0)", x -> x.pays(0), 0);
        full("pays(1)", x -> x.pays(1), HatGoesRound.NONE);
        full("share(3, true)", x -> x.share(3, true), 2);
        full("share(4, false)", x -> x.share(4, false), 1);
        full("rests(0)", x -> x.rests(0), 1);
        full("rests(1)", x -> x.rests(1), 0);
        full("strings(0, 3, true)", x -> x.strings(0, 3, true), 3);
        full("strings(9, 3, false)", x -> x.strings(9, 3, false), 1);
        full("count(10)", x -> x.count(10), 14);
    }
}
