/** Promises 14 to 18 once more: every sentence that names an edge, by a test of its own, on both sides of it. */
public final class ComingEdges {
    private static final Due DUE = new Due("ComingEdges");
    /** Two drums that bring each other back for ever, and 44 bars: 0, 0 1, 0 1 2, and so on, each of noise 1. */
    private static final String LONG = "OP1131P1230B11B11B11B11B11B11B11B11";

    public static void main(String[] args) {
        laterIsIn0To30Bars();
        laterIsAskedTwoThings();
        laterTellsNoneWhenItIsSilent();
        laterTellsWhoPlaysWhenItIsSilent();
        stopsIn0Bars();
        stopsIn30BarsOrNone();
        stopsIfNothingIsDone();
        hushIsIn0To9Bars();
        hushIsAskedTwoThings();
        hushSetsTheHatAside();
        hushPaysOnlyWhoPlays();
        hushIsForTheLeastSum();
        hushOfLikeSumsTheFewest();
        hushOfFewestTheLeast();
        hushIsNothingIfItIsSilentThen();
        loudIsIn1To12Bars();
        loudIsAskedTwoThings();
        loudCountsWhoPlayedWhenTheBarBegan();
        loudCountsOnlyBarsThatArePlayed();
        loudRestsOneThatIsTired();
        loudRestsOneWithWindAsTold();
        loudOfLikeOnesTheLeastNumber();
        loudWithNoneIs6();
        judgedAre1To4Doings();
        judgedRowHas3FiguresEach();
        judgedABar();
        judgedGiven();
        judgedPaid();
        judgedRested();
        judgedItPlays();
        judgedTheHat();
        judgedFiguresThatNameNoDoing();
        judgedTheFirstThatCanNotBe();
        DUE.end();
    }

    private static void is(String sentence, long got, long want) {
        DUE.is(sentence, got, want);
    }

    /** "IN n BARS (0 to 30)"; "OUTSIDE: n" */
    private static void laterIsIn0To30Bars() {
        HatGoesRound x = Due.concert(LONG);
        int[] outside = {Integer.MIN_VALUE, -1, 31, 32, Integer.MAX_VALUE};
        for (int n : outside) {
            is("14 later(" + n + ", 0)", x.later(n, 0), HatGoesRound.OUTSIDE);
            is("14 later(" + n + ", 1)", x.later(n, 1), HatGoesRound.OUTSIDE);
        }
        int[] comes = {0, 0, 1, 0, 1, 2, 0, 1, 2, 3, 0, 1, 2, 3, 4, 0, 1, 2, 3, 4, 5, 0, 1, 2, 3, 4, 5, 6, 0, 1, 2};
        for (int n = 0; n <= 30; n++) {
            is("14 later(" + n + ", 0)", x.later(n, 0), 3);
            is("14 later(" + n + ", 1)", x.later(n, 1), comes[n]);
        }
    }

    /** "(what = 0), the BAR that comes next (1 ...)"; "OUTSIDE: ... what" */
    private static void laterIsAskedTwoThings() {
        HatGoesRound x = Due.concert("OP1900B10B10");
        is("14 what -1", x.later(1, -1), HatGoesRound.OUTSIDE);
        is("14 what 0", x.later(1, 0), 1);
        is("14 what 1", x.later(1, 1), 1);
        is("14 what 2", x.later(1, 2), HatGoesRound.OUTSIDE);
        is("14 both outside", x.later(31, 2), HatGoesRound.OUTSIDE);
    }

    /** "(NONE: it is SILENT)" */
    private static void laterTellsNoneWhenItIsSilent() {
        HatGoesRound x = Due.concert("OP1300B10B10B10B10B10");
        is("14 not yet", x.later(2, 1), 2);
        is("14 nobody plays", x.later(3, 1), HatGoesRound.NONE);
        is("14 still so", x.later(30, 1), HatGoesRound.NONE);
        x = Due.concert("OP1900B10B10");
        is("14 the last bar comes", x.later(1, 1), 1);
        is("14 over", x.later(2, 1), HatGoesRound.NONE);
        is("14 no bars", Due.concert("OP1900").later(0, 1), HatGoesRound.NONE);
        is("14 no players", Due.concert("OB10").later(0, 1), HatGoesRound.NONE);
        is("14 a player and a bar", Due.concert("OP1900B10").later(0, 1), 0);
    }

    private static void laterTellsWhoPlaysWhenItIsSilent() {
        HatGoesRound x = Due.concert("OP1300P1200B10B10B10B10B10");
        int[] who = {3, 3, 1, 0, 0};
        for (int n = 0; n < who.length; n++) {
            is("14 who plays in " + n, x.later(n, 0), who[n]);
        }
        is("14 who plays when it is over", Due.concert("OP1100P1900B10B10").later(30, 0), 2);
        is("14 who plays without bars", Due.concert("OP1900").later(30, 0), 1);
    }

    /** "STOPS: in how many BARS (0 to 30) it is SILENT" */
    private static void stopsIn0Bars() {
        is("15 nobody", Due.concert("OB10").stops(), 0);
        is("15 no bars", Due.concert("OP1900").stops(), 0);
        is("15 over", Runs.of("OP1900B10", "b1").stops(), 0);
        is("15 all are paid", Runs.of("OP1900B10", "g1 p0").stops(), 0);
        is("15 one bar", Due.concert("OP1900B10").stops(), 1);
        is("15 one bar of wind", Due.concert("OP1000B10B10").stops(), 1);
    }

    /** "(0 to 30) ...; NONE" */
    private static void stopsIn30BarsOrNone() {
        is("15 in 44", Due.concert(LONG).stops(), HatGoesRound.NONE);
        is("15 in 32", Runs.of(LONG, "b12").stops(), HatGoesRound.NONE);
        is("15 in 31", Runs.of(LONG, "b13").stops(), HatGoesRound.NONE);
        is("15 in 30", Runs.of(LONG, "b14").stops(), 30);
        is("15 in 29", Runs.of(LONG, "b15").stops(), 29);
        is("15 in 1", Runs.of(LONG, "b43").stops(), 1);
        is("15 in 0", Runs.of(LONG, "b44").stops(), 0);
    }

    /** "if nothing is done" */
    private static void stopsIfNothingIsDone() {
        HatGoesRound x = Due.concert("OP1400P1200B10B10B10B10B10B10");
        is("15 by the longer wind", x.stops(), 4);
        Runs.go(x, "g9 p0");
        is("15 when that is paid", x.stops(), 2);
        Runs.go(x, "b2 r1");
        is("15 when the other is rested", x.stops(), 2);
    }

    /** "HUSH in n BARS (0 to 9)"; "OUTSIDE: n" */
    private static void hushIsIn0To9Bars() {
        HatGoesRound x = Due.concert("OP3900B11B11B11B11");
        int[] outside = {Integer.MIN_VALUE, -1, 10, 11, Integer.MAX_VALUE};
        for (int n : outside) {
            is("16 hush(" + n + ", 0)", x.hush(n, 0), HatGoesRound.OUTSIDE);
            is("16 hush(" + n + ", 1)", x.hush(n, 1), HatGoesRound.OUTSIDE);
        }
        for (int n = 0; n <= 9; n++) {
            is("16 hush(" + n + ", 0)", x.hush(n, 0), n < 9 ? 3 : 0);
            is("16 hush(" + n + ", 1)", x.hush(n, 1), n < 9 ? 1 : 0);
        }
    }

    /** "how much (what = 0), who (1)"; "OUTSIDE: ... what" */
    private static void hushIsAskedTwoThings() {
        HatGoesRound x = Due.concert("OP3900B10B10");
        is("16 what -1", x.hush(1, -1), HatGoesRound.OUTSIDE);
        is("16 what 0", x.hush(1, 0), 3);
        is("16 what 1", x.hush(1, 1), 1);
        is("16 what 2", x.hush(1, 2), HatGoesRound.OUTSIDE);
    }

    /** "(THE HAT set aside)" */
    private static void hushSetsTheHatAside() {
        String text = "OP9900P9900P9900P9900P9900P9900B10B10";
        is("16 an empty hat", Due.concert(text).hush(0, 0), 54);
        is("16 a hat with 99", Runs.of(text, "g9 g9 g9 g9 g9 g9 g9 g9 g9 g9 g9").hush(0, 0), 54);
        is("16 all six", Due.concert(text).hush(0, 1), 63);
    }

    /** "for which PLAYERS can be PAID now": those that PLAY */
    private static void hushPaysOnlyWhoPlays() {
        String text = "OP3100P2900P4900B10B10B10";
        is("16 all play", Due.concert(text).hush(0, 0), 9);
        is("16 one is tired", Runs.of(text, "b1").hush(0, 0), 6);
        is("16 who", Runs.of(text, "b1").hush(0, 1), 6);
        is("16 one is paid, too", Runs.of(text, "b1 g9 p2").hush(0, 0), 2);
        is("16 who then", Runs.of(text, "b1 g9 p2").hush(0, 1), 2);
        // a drum that would come back is not paid: it is tired now
        HatGoesRound x = Runs.of("OP1231P3200P1900B10B10B10B10B10", "b2 r1");
        is("16 the drum would come back", x.later(1, 0), 7);
        is("16 who plays is paid", x.hush(1, 1), 6);
    }

    /** "the least sum of PRICES" */
    private static void hushIsForTheLeastSum() {
        hush("OP5900P4910B10B10", 1, 5, 1);
        hush("OP5900P4910B10B10", 0, 9, 3);
        // two for 2 are less than one for 3, and one for 1 is less than both
        hush("OP1912P1912P3920B10B10", 1, 2, 3);
        hush("OP1912P1912P1920B10B10", 1, 1, 4);
    }

    private static void hush(String text, int n, int price, int who) {
        is("16 how much, " + text + " in " + n, Due.concert(text).hush(n, 0), price);
        is("16 who, " + text + " in " + n, Due.concert(text).hush(n, 1), who);
    }

    /** "(bits; of like sums the fewest PLAYERS ...": one bass for 2 (bit 2), not two leaners for 1 (bits 0 and 1) */
    private static void hushOfLikeSumsTheFewest() {
        hush("OP1912P1912P2920B10B10", 1, 2, 4);
        hush("OP2920P1910P1910B10B10", 1, 2, 1);
    }

    /** "... then the least)" */
    private static void hushOfFewestTheLeast() {
        hush("OP2911P2910B10B10", 1, 2, 1);
        hush("OP2911P1910B10B10", 1, 1, 2);
        hush("OP3100P2912P2911B10B10", 1, 2, 2);
        // one of two pairs that lean on each other, of each the first
        hush("OP2911P2910P2913P2912B10B10", 1, 4, 5);
    }

    /** For nothing: 0, nobody. */
    private static void hushIsNothingIfItIsSilentThen() {
        hush("OP3900B10B10", 2, 0, 0);
        hush("OP3900B10B10", 1, 3, 1);
        hush("OP3200B10B10B10", 2, 0, 0);
        hush("OP3300B10B10B10", 2, 3, 1);
        hush("OP3900", 0, 0, 0);
        hush("OB10", 0, 0, 0);
        is("16 over", Runs.of("OP3900B10", "b1").hush(0, 0), 0);
        is("16 over, nobody", Runs.of("OP3900B10", "b1").hush(0, 1), 0);
    }

    /** "LOUD: ... in n BARS (1 to 12)"; "OUTSIDE: n" */
    private static void loudIsIn1To12Bars() {
        HatGoesRound x = Due.concert(LONG);
        int[] outside = {Integer.MIN_VALUE, -1, 0, 13, 14, Integer.MAX_VALUE};
        for (int n : outside) {
            is("17 loud(" + n + ", 0)", x.loud(n, 0), HatGoesRound.OUTSIDE);
            is("17 loud(" + n + ", 1)", x.loud(n, 1), HatGoesRound.OUTSIDE);
        }
        for (int n = 1; n <= 12; n++) {
            is("17 loud(" + n + ", 0)", x.loud(n, 0), 6);
            is("17 loud(" + n + ", 1)", x.loud(n, 1), 2 * n);
        }
    }

    /** "who (what = 0; 6: none), how much (1)"; "OUTSIDE: ... what" */
    private static void loudIsAskedTwoThings() {
        HatGoesRound x = Due.concert("OP1900B70");
        is("17 what -1", x.loud(1, -1), HatGoesRound.OUTSIDE);
        is("17 what 0", x.loud(1, 0), 6);
        is("17 what 1", x.loud(1, 1), 7);
        is("17 what 2", x.loud(1, 2), HatGoesRound.OUTSIDE);
    }

    private static void loud(String text, String doings, int n, int who, int noise) {
        HatGoesRound x = Runs.of(text, doings);
        is("17 who, " + text + " " + doings + " in " + n, x.loud(n, 0), who);
        is("17 how much, " + text + " " + doings + " in " + n, x.loud(n, 1), noise);
    }

    /** "its NOISE times how many PLAYED when it began" */
    private static void loudCountsWhoPlayedWhenTheBarBegan() {
        loud("OP1100B50", "", 1, 6, 5);
        loud("OP1100P1900B50B70", "", 1, 6, 10);
        loud("OP1100P1900B50B70", "", 2, 6, 17);
        loud("OP1000P1900B90B00", "", 2, 6, 18);
        loud("OP1900P1900P1900P1900P1900P1900B90", "", 1, 6, 54);
    }

    /** "each BAR that is played" */
    private static void loudCountsOnlyBarsThatArePlayed() {
        loud("OP1900B50B70", "", 2, 6, 12);
        loud("OP1900B50B70", "", 12, 6, 12);
        loud("OP1100B50B70", "", 12, 6, 5);
        loud("OP1900B51B70", "", 12, 6, 17);
        loud("OP1900", "", 12, 6, 0);
        loud("OB90", "", 12, 6, 0);
        loud("OP1900B50", "b1", 12, 6, 0);
    }

    /** "by any one PLAYER RESTED first (one that is TIRED ...": not one that PLAYS, not one that is PAID */
    private static void loudRestsOneThatIsTired() {
        loud("OP1200P1900B10B30", "", 1, 6, 2);
        loud("OP1200P1900B10B30", "b1", 1, 6, 6);
        loud("OP1100P1900B10B30", "b1", 1, 0, 6);
        loud("OP1100P1900B10B30", "g1 p0 b1", 1, 6, 3);
        loud("OP1100P1100P1900B10B30", "b1", 1, 0, 6);
        loud("OP1100B10B30", "b1", 1, 0, 3);
    }

    /** "... and whose WIND as told is more than 0 ...)" */
    private static void loudRestsOneWithWindAsTold() {
        loud("OP1000P1900B10B30", "b1", 1, 6, 3);
        loud("OP1100P1900B10B30", "b1", 1, 0, 6);
        loud("OP1000P1100P1900B10B30", "b1", 1, 1, 6);
    }

    /** "(of like ones the least number; none is 6)" */
    private static void loudOfLikeOnesTheLeastNumber() {
        loud("OP1100P1100P1900B10B30B40", "b1", 2, 0, 10);
        loud("OP1100P1200P1900B10B10B30B40", "b2", 2, 1, 14);
        loud("OP1200P1100P1900B10B10B30B40", "b2", 2, 0, 14);
        // like none: the number of a player is less than 6
        loud("OP1100P1900B10B00", "b1", 1, 0, 0);
        loud("OP1900P1900P1900P1900P1900P1100B10B00", "b1", 1, 5, 0);
        loud("OP1100P1900B10", "b1", 1, 0, 0);
        loud("OP1100P1100P1000B10", "b1", 1, 0, 0);
        loud("OP1911P1100P1900B10B50", "b1", 1, 0, 10);
    }

    /** "6: none" */
    private static void loudWithNoneIs6() {
        loud("O", "", 1, 6, 0);
        loud("OP1900B50", "", 1, 6, 5);
        loud("OP1000B50B50", "b1", 1, 6, 0);
        loud("OP1900B50B50", "g1 p0", 1, 6, 0);
    }

    private static final String JUDGED = "OP5200P3100P1000B10B10B10";

    private static void judged(String doings, int n, long row, int want) {
        HatGoesRound x = Runs.of(JUDGED, doings);
        is("18 " + doings + " judge(" + n + ", " + row + ")", x.judge(n, row), want);
    }

    /** "n doings (1 to 4)"; "OUTSIDE: n" */
    private static void judgedAre1To4Doings() {
        int[] outside = {Integer.MIN_VALUE, -1, 0, 5, 6, Integer.MAX_VALUE};
        for (int n : outside) {
            judged("", n, 500, HatGoesRound.OUTSIDE);
            judged("", n, 0, HatGoesRound.OUTSIDE);
        }
        judged("", 1, 500, HatGoesRound.NONE);
        judged("", 2, 500500, HatGoesRound.NONE);
        judged("", 3, 500500500, HatGoesRound.NONE);
        judged("", 4, 500500500500L, HatGoesRound.NONE);
    }

    /** "row (0 or more, 3 n figures at most)" */
    private static void judgedRowHas3FiguresEach() {
        long[] beyond = {1000, 1000000, 1000000000, 1000000000000L};
        for (int n = 1; n <= 4; n++) {
            judged("", n, Long.MIN_VALUE, HatGoesRound.OUTSIDE);
            judged("", n, -1, HatGoesRound.OUTSIDE);
            judged("", n, 0, n <= 2 ? HatGoesRound.NONE : 2);
            judged("", n, beyond[n - 1] - 1, 0);
            judged("", n, beyond[n - 1] - 1000 + 500, n == 1 ? HatGoesRound.NONE : 0);
            judged("", n, beyond[n - 1], HatGoesRound.OUTSIDE);
            judged("", n, beyond[n - 1] + 500, HatGoesRound.OUTSIDE);
            judged("", n, Long.MAX_VALUE, HatGoesRound.OUTSIDE);
        }
        // figures that are missing are 0: the first doings are bars
        judged("", 2, 500, HatGoesRound.NONE);
        judged("", 3, 401, 2);
    }

    /** "0, 0, 0: A BAR": if it is not SILENT */
    private static void judgedABar() {
        judged("", 1, 0, HatGoesRound.NONE);
        judged("b1", 1, 0, HatGoesRound.NONE);
        judged("b2", 1, 0, 0);
        judged("b2 r0", 1, 0, HatGoesRound.NONE);
        judged("b2 r0 b1", 1, 0, 0);
        judged("b1", 2, 0, 1);
    }

    /** "1, 0, n: GIVEN": 1 to 9 */
    private static void judgedGiven() {
        judged("", 1, 100, 0);
        for (int n = 1; n <= 9; n++) {
            judged("", 1, 100 + n, HatGoesRound.NONE);
            judged("", 2, (100 + n) * 1000 + 500 + n, HatGoesRound.NONE);
            judged("", 2, (100 + n) * 1000 + 501 + n, 1);
        }
        judged("g9 g9 g9 g9 g9 g9 g9 g9 g9 g9 g9", 2, 109599, HatGoesRound.NONE);
    }

    /** "2, 0, a PLAYER: PAID" */
    private static void judgedPaid() {
        judged("g4", 1, 200, 0);
        judged("g5", 1, 200, HatGoesRound.NONE);
        judged("g5", 1, 201, HatGoesRound.NONE);
        judged("g5", 2, 201200, 1);
        judged("g8", 2, 201200, HatGoesRound.NONE);
        judged("g9", 2, 200200, 1);
        judged("g9 b1", 1, 201, 0);
        judged("g9 b1", 1, 200, HatGoesRound.NONE);
        for (int player = 3; player <= 9; player++) {
            judged("g9", 1, 200 + player, 0);
        }
        judged("g9", 1, 202, HatGoesRound.NONE);
    }

    /** "3, 0, a PLAYER: RESTED" */
    private static void judgedRested() {
        judged("", 1, 301, 0);
        judged("b1", 1, 301, HatGoesRound.NONE);
        judged("b1", 2, 301301, 1);
        judged("b1", 1, 300, 0);
        judged("b1", 1, 302, 0);
        judged("g9 p1 b1", 1, 301, 0);
        for (int player = 3; player <= 9; player++) {
            judged("b1", 1, 300 + player, 0);
        }
        judged("", 2, 301401, 0);
        judged("", 3, 301401, HatGoesRound.NONE);
        judged("", 4, 301401, HatGoesRound.NONE);
        judged("", 4, 301301, 3);
        judged("", 3, 401000301, HatGoesRound.NONE);
    }

    /** "4, 0, a PLAYER: it PLAYS" */
    private static void judgedItPlays() {
        judged("", 1, 401, HatGoesRound.NONE);
        judged("b1", 1, 401, 0);
        judged("b1 r1", 1, 401, HatGoesRound.NONE);
        judged("g9 p1", 1, 401, 0);
        judged("", 1, 402, HatGoesRound.NONE);
        for (int player = 3; player <= 9; player++) {
            judged("", 1, 400 + player, 0);
        }
        judged("", 2, 400, HatGoesRound.NONE);
        judged("", 3, 400, 2);
    }

    /** "5, two figures: THE HAT is that or more" */
    private static void judgedTheHat() {
        judged("", 1, 500, HatGoesRound.NONE);
        judged("", 1, 501, 0);
        judged("g9", 1, 508, HatGoesRound.NONE);
        judged("g9", 1, 509, HatGoesRound.NONE);
        judged("g9", 1, 510, 0);
        judged("g9", 2, 101510, HatGoesRound.NONE);
        judged("g9", 2, 200504, HatGoesRound.NONE);
        judged("g9", 2, 200505, 1);
        judged("g9 g9 g9 g9 g9 g9 g9 g9 g9 g9 g8", 1, 598, HatGoesRound.NONE);
        judged("g9 g9 g9 g9 g9 g9 g9 g9 g9 g9 g8", 1, 599, 0);
        judged("g9 g9 g9 g9 g9 g9 g9 g9 g9 g9 g9", 1, 599, HatGoesRound.NONE);
    }

    /** Taken as doings that can not be: the document names none by these figures. */
    private static void judgedFiguresThatNameNoDoing() {
        int[] none = {1, 9, 10, 90, 99, 110, 111, 191, 210, 291, 310, 391, 410, 490, 600, 700, 800, 900, 999};
        for (int figures : none) {
            judged("g9 b1", 1, figures, 0);
            judged("g9 b1", 2, 500000 + figures, 1);
        }
    }

    /** "the place (from 0 on) of the first that can not be (or is not so); NONE: none" */
    private static void judgedTheFirstThatCanNotBe() {
        judged("", 4, 501500500500L, 0);
        judged("", 4, 500501500500L, 1);
        judged("", 4, 500500501500L, 2);
        judged("", 4, 500500500501L, 3);
        judged("", 4, 500500500500L, HatGoesRound.NONE);
        judged("", 4, 500501501501L, 1);
        judged("", 4, 109200504401L, HatGoesRound.NONE);
        judged("", 4, 109200504400L, 3);
    }
}
