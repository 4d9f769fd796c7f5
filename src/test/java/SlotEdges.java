/** Promises 27 to 29 once more: every sentence that names an edge, by a test of its own, on both sides of it. */
public final class SlotEdges {
    private static final Due DUE = new Due("SlotEdges");
    private static final String TEXT = "OP1400P2133P3110P1900B31B20B12";

    public static void main(String[] args) {
        slotsAre0To1();
        unknownIsBeforeState();
        noneWereKept();
        eachSlotIsForItself();
        keepTellsTheTime();
        keepIsNoAct();
        keptIsAllThatIsTold();
        keptStaysWhatever();
        keptAnewIsInsteadOfTheOld();
        theRowIsEmptyWhenOneGoesOn();
        onlyTheMomentIsGoneBackTo();
        keptWithoutAConcert();
        countIsAskedTwelveThings();
        countsAtTheirEdges();
        DUE.end();
    }

    private static void is(String sentence, long got, long want) {
        DUE.is(sentence, got, want);
    }

    /** "SLOTS 0 to 1"; "UNKNOWN" */
    private static void slotsAre0To1() {
        int[] unknown = {Integer.MIN_VALUE, -32, -31, -1, 2, 3, 31, 32, 33, Integer.MAX_VALUE};
        for (int slot : unknown) {
            HatGoesRound x = Runs.of(TEXT, "b1 k0 k1");
            is("27 keep(" + slot + ")", x.keep(slot), HatGoesRound.UNKNOWN);
            is("28 again(" + slot + ")", x.again(slot), HatGoesRound.UNKNOWN);
        }
        for (int slot = 0; slot <= 1; slot++) {
            HatGoesRound x = Runs.of(TEXT, "b1");
            is("27 keep(" + slot + ")", x.keep(slot), 1);
            is("28 again(" + slot + ")", x.again(slot), 1);
        }
    }

    /** "of several the first that a call names": a slot that there is not, and nothing kept */
    private static void unknownIsBeforeState() {
        is("28 again(2)", Due.concert(TEXT).again(2), HatGoesRound.UNKNOWN);
        is("28 again(-1)", Due.concert(TEXT).again(-1), HatGoesRound.UNKNOWN);
        is("28 again(1)", Due.concert(TEXT).again(1), HatGoesRound.STATE);
        is("28 again(0)", Due.concert(TEXT).again(0), HatGoesRound.STATE);
    }

    /** "STATE: none were kept" */
    private static void noneWereKept() {
        for (int slot = 0; slot <= 1; slot++) {
            HatGoesRound x = Due.concert(TEXT);
            is("28 not kept", x.again(slot), HatGoesRound.STATE);
            x.keep(slot);
            is("28 kept", x.again(slot), 0);
            is("28 kept still", x.again(slot), 0);
            x.concert();
            is("28 gone", x.again(slot), HatGoesRound.STATE);
        }
    }

    private static void eachSlotIsForItself() {
        HatGoesRound x = Runs.of(TEXT, "k1");
        is("28 the other slot", x.again(0), HatGoesRound.STATE);
        is("28 this slot", x.again(1), 0);
        x = Runs.of(TEXT, "k0");
        is("28 the other slot, too", x.again(1), HatGoesRound.STATE);
        x = Runs.of(TEXT, "b1 k0 b1 k1 b1");
        is("28 one bar", x.again(0), 1);
        is("28 two bars", x.again(1), 2);
        is("28 one bar again", x.again(0), 1);
    }

    /** "They are kept: THE TIME"; "They are as they were kept: THE TIME" */
    private static void keepTellsTheTime() {
        for (int bars = 0; bars <= 5; bars++) {
            HatGoesRound x = Runs.of(TEXT, "b" + bars);
            is("27 keep", x.keep(0), bars);
            x.encore();
            x.bar();
            is("28 again", x.again(0), bars);
            is("28 the time", x.count(3), bars);
        }
    }

    private static void keepIsNoAct() {
        HatGoesRound x = Runs.of(TEXT, "b1 g1 k0 k1");
        is("27 two acts", x.count(10), 2);
        is("27 the gift is undone", x.undo(), 1);
        is("27 the hat", x.count(4), 0);
    }

    private static String moment(HatGoesRound x) {
        StringBuilder all = new StringBuilder();
        for (int what = 3; what <= 9; what++) {
            all.append(x.count(what)).append(' ');
        }
        for (int player = 0; player < 4; player++) {
            all.append(x.player(player, 1)).append(' ').append(x.player(player, 4)).append(' ');
        }
        for (int bar = 0; bar < 3; bar++) {
            all.append(x.score(bar, 2)).append(' ');
        }
        return all.toString();
    }

    /** "who PLAYS, is PAID, WIND, the BAR that comes, REPEATS that are taken, THE HAT, THE TIME" */
    private static void keptIsAllThatIsTold() {
        String kept = "g9 b2 p0 b1";
        String[] doings = {"b1", "g9", "p3", "r2", "e1", "e1 b2 g9 p3 r2 b1", "b1 e1 b1 g3"};
        String want = moment(Runs.of(TEXT, kept));
        DUE.same("27 as told", want, "3 8 10 1 4 2 1 2 1 2 0 0 2 6 0 1 0 0 ");
        for (int slot = 0; slot <= 1; slot++) {
            for (String doing : doings) {
                HatGoesRound x = Runs.of(TEXT, kept + " k" + slot + " " + doing);
                DUE.is("28 it has changed by " + doing, moment(x).equals(want) ? 1 : 0, 0);
                is("28 again", x.again(slot), 3);
                DUE.same("28 after " + doing, moment(x), want);
                Runs.go(x, doing);
                DUE.same("28 goes on by " + doing, moment(x), moment(Runs.of(TEXT, kept + " " + doing)));
            }
        }
    }

    /** What was kept stays, whatever is done or undone, and however often one goes on from it. */
    private static void keptStaysWhatever() {
        HatGoesRound x = Runs.of(TEXT, "g9 b1 k0 u2");
        is("28 the hat is undone", x.count(4), 0);
        is("28 again", x.again(0), 1);
        is("28 the hat is not", x.count(4), 9);
        Runs.go(x, "p0 b1 a0");
        is("28 nobody is paid", x.count(6), 0);
        is("28 the hat", x.count(4), 9);
    }

    private static void keptAnewIsInsteadOfTheOld() {
        HatGoesRound x = Runs.of(TEXT, "b1 k0 g5 k0 g1");
        is("28 again", x.again(0), 1);
        is("28 the newer one", x.count(4), 5);
    }

    /** "(THE ROW of ACTS is empty when one goes on)" */
    private static void theRowIsEmptyWhenOneGoesOn() {
        HatGoesRound x = Runs.of(TEXT, "g1 b1 k0 g1 g1");
        is("28 four acts", x.count(10), 4);
        is("28 a refused one", x.again(1), HatGoesRound.STATE);
        is("28 four still", x.count(10), 4);
        x.again(0);
        is("28 no acts", x.count(10), 0);
        is("28 none to undo", x.undo(), HatGoesRound.STATE);
        x.give(7);
        is("28 the new one", x.undo(), 0);
        is("28 the hat", x.count(4), 1);
    }

    /** THE TEXT, HEARD and THE SEED are not among what is kept. */
    private static void onlyTheMomentIsGoneBackTo() {
        HatGoesRound x = Runs.of(TEXT, "b1 k0");
        x.hear(0, 0, 0);
        x.seed(4);
        x.write('X');
        x.again(0);
        is("28 the text", x.count(0), TEXT.length() + 1);
        is("28 heard", x.count(11), 1);
        is("28 the seed", x.seed(0), 4);
    }

    private static void keptWithoutAConcert() {
        HatGoesRound x = new HatGoesRound();
        x.give(5);
        is("27 keep", x.keep(1), 0);
        x.give(5);
        is("28 again", x.again(1), 0);
        is("28 the hat", x.count(4), 5);
    }

    /** "0 letters ... 11 HEARD. OUTSIDE" */
    private static void countIsAskedTwelveThings() {
        int[] outside = {Integer.MIN_VALUE, -1, 12, 13, Integer.MAX_VALUE};
        for (int what : outside) {
            is("29 count(" + what + ")", Due.concert(TEXT).count(what), HatGoesRound.OUTSIDE);
        }
        HatGoesRound x = Runs.of(TEXT, "g9 b2 p0 b1");
        x.hear(0, 0, 0);
        int[] due = {30, 4, 3, 3, 8, 10, 1, 4, 2, 1, 5, 1};
        for (int what = 0; what <= 11; what++) {
            is("29 count(" + what + ")", x.count(what), due[what]);
        }
    }

    /** The most of all that is counted, and the least. */
    private static void countsAtTheirEdges() {
        String whole = "OP1100P1100P1100P1100P1100P1100B11B11B11B11B11B11B11B11";
        HatGoesRound x = Due.concert(whole);
        x.write('X');
        is("29 letters", x.count(0), 56);
        is("29 players", x.count(1), 6);
        is("29 bars", x.count(2), 8);
        is("29 all play", x.count(5), 63);
        is("29 none is tired", x.count(7), 0);
        is("29 bar 0", x.count(8), 0);
        x.bar();
        is("29 none plays", x.count(5), 0);
        is("29 all are tired", x.count(7), 63);
        is("29 none comes", x.count(8), HatGoesRound.NONE);
        x = Runs.of(whole, "g9 p0 p1 p2 p3 p4 p5");
        is("29 all are paid", x.count(6), 63);
        is("29 paid is not tired", x.count(7), 0);
        is("29 none comes, too", x.count(8), HatGoesRound.NONE);
        x = Runs.of("OP1131P1230B11B11B11B11B11B11B11B11", "b36");
        is("29 all are taken", x.count(9), 255);
        is("29 the time", x.count(3), 36);
        Runs.go(x, "b7");
        is("29 the last bar comes", x.count(8), 7);
        Runs.go(x, "b1");
        is("29 over", x.count(8), HatGoesRound.NONE);
    }
}
