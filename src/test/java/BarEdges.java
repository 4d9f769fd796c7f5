/** Promise 8 once more: every sentence on a BAR that names an edge, by a test of its own, on both sides of it. */
public final class BarEdges {
    private static final Due DUE = new Due("BarEdges");

    public static void main(String[] args) {
        whoDoesNotPlayIsPaidOrTired();
        silentIfNobodyPlays();
        silentIfThereAreNoBars();
        silentIfTheLastBarIsOver();
        barTellsHowManyPlayThen();
        eachHasOneLessWind();
        bassHasTwoLessByNoiseOfFive();
        windIsZeroAtLeast();
        whoDoesNotPlayKeepsItsWind();
        whoHasNoWindIsTired();
        leanerLooksToOneThatThereIs();
        leanerLooksToOneThatDoesNotPlayNow();
        tiredLeanerCountsForLaterOnes();
        onlyLeanersLean();
        leanerThatDoesNotPlayStaysAsItIs();
        bassesAloneAreTired();
        bassesWithAnotherPlayOn();
        bassesComeBehindLeanersAndAheadOfDrums();
        drumComesBackWithTwoOfWind();
        drumLooksToOneThatPlaysNow();
        drumThatIsPaidStaysSo();
        drumTiredSinceAnEarlierBar();
        drumsComeBackByNumber();
        repeatIsTakenTheFirstTime();
        repeatToABarThatThereIs();
        repeatToNoSuchBar();
        behindTheLastBarItIsOver();
        pageIsTurnedWhenNobodyIsLeft();
        theTimeIsOneMore();
        all512CallsAnswer();
        DUE.end();
    }

    private static void who(String text, String doings, int plays) {
        DUE.is("8 who plays, " + text + " " + doings, Runs.of(text, doings).count(5), plays);
    }

    private static void stands(String text, String doings, int plays, int paid, int tired) {
        HatGoesRound x = Runs.of(text, doings);
        DUE.is("8 plays, " + text + " " + doings, x.count(5), plays);
        DUE.is("8 paid, " + text + " " + doings, x.count(6), paid);
        DUE.is("8 tired, " + text + " " + doings, x.count(7), tired);
    }

    private static void wind(String text, String doings, int player, int wind) {
        DUE.is("8 wind of " + player + ", " + text + " " + doings, Runs.of(text, doings).player(player, 1), wind);
    }

    private static void silent(String sentence, HatGoesRound x) {
        DUE.is("8 " + sentence + ": none comes", x.count(8), HatGoesRound.NONE);
        DUE.is("8 " + sentence + ": bar", x.bar(), HatGoesRound.STATE);
    }

    private static void goesOn(String sentence, HatGoesRound x, int plays) {
        DUE.is("8 " + sentence + ": one comes", x.count(8) >= 0 ? 1 : 0, 1);
        DUE.is("8 " + sentence + ": bar", x.bar(), plays);
    }

    /** "A PLAYER PLAYS, or not; one that does not is PAID, or TIRED": always one of the three, and told alike. */
    private static void whoDoesNotPlayIsPaidOrTired() {
        String text = "OP1100P1910P1900P1132P1920P1000B11B50B10";
        String[] doings = {"", "g9", "g9 p0 p5", "b1", "b2", "b1 r0", "g9 p2 b1", "g9 b1 p2 r1", "b3 r0 e1", "g9 p3 b2 u1",
            "g9 p0 k0 b2 a0", "g9 p0 p1 p2 p3 p4 p5"};
        for (String doing : doings) {
            HatGoesRound x = Runs.of(text, doing);
            int[] bits = {x.count(5), x.count(6), x.count(7)};
            DUE.is("8 all together, " + doing, bits[0] + bits[1] + bits[2], 63);
            for (int player = 0; player < 6; player++) {
                int is = x.player(player, 4);
                for (int what = 0; what <= 2; what++) {
                    DUE.is("8 " + player + " is " + what + ", " + doing, bits[what] >> player & 1, is == what ? 1 : 0);
                }
            }
        }
    }

    /** "SILENT is THE CONCERT, if nobody PLAYS"; "STATE: it is SILENT" */
    private static void silentIfNobodyPlays() {
        silent("no players", Due.concert("OB10"));
        goesOn("a player", Due.concert("OP1900B10"), 1);
        silent("all are tired", Runs.of("OP1100P1100B10B10", "b1"));
        goesOn("all but one are tired", Runs.of("OP1100P1200B10B10B10", "b1 r0"), 0);
        goesOn("one rests", Runs.of("OP1100P1200B10B10B10", "b2 r1"), 1);
        silent("all are paid", Runs.of("OP1900P1900B10", "g2 p0 p1"));
        goesOn("all but one are paid", Runs.of("OP1900P1900B10", "g2 p0"), 1);
        goesOn("the pay is undone", Runs.of("OP1900P1900B10", "g2 p0 p1 u1"), 1);
        silent("some paid, some tired", Runs.of("OP1900P1100B10B10", "g1 p0 b1"));
    }

    /** "or there are no BARS" */
    private static void silentIfThereAreNoBars() {
        silent("no bars", Due.concert("OP1900"));
        silent("nothing", new HatGoesRound());
        goesOn("a bar", Due.concert("OP1900B00"), 1);
        DUE.is("8 one plays where there are no bars", Due.concert("OP1900").count(5), 1);
    }

    /** "or the last BAR is over (OVER)" */
    private static void silentIfTheLastBarIsOver() {
        goesOn("ahead of the last", Runs.of("OP1900B10B10", "b1"), 1);
        silent("over", Runs.of("OP1900B10B10", "b2"));
        DUE.is("8 one plays where it is over", Runs.of("OP1900B10B10", "b2").count(5), 1);
        goesOn("from the first", Runs.of("OP1900B10B10", "b2 e1"), 1);
        goesOn("the last is undone", Runs.of("OP1900B10B10", "b2 u1"), 1);
    }

    /** "A BAR: how many PLAY then" */
    private static void barTellsHowManyPlayThen() {
        HatGoesRound x = Due.concert("OP1300P1200P1100B10B10B10B10");
        DUE.is("8 the third is tired", x.bar(), 2);
        DUE.is("8 the second is tired", x.bar(), 1);
        DUE.is("8 all are tired", x.bar(), 0);
        DUE.is("8 silent", x.bar(), HatGoesRound.STATE);
        DUE.is("8 six", Due.concert("OP1900P1900P1900P1900P1900P1900B10").bar(), 6);
        DUE.is("8 back in the bar", Due.concert("OP1131P1900B10").bar(), 2);
    }

    /** "each PLAYER that PLAYS has 1 less WIND" */
    private static void eachHasOneLessWind() {
        for (int noise = 0; noise <= 9; noise++) {
            wind("OP1900B" + noise + "0", "b1", 0, 8);
            wind("OP1910B" + noise + "0", "b1", 0, 8);
            wind("OP1930B" + noise + "0", "b1", 0, 8);
        }
        wind("OP1900B90B90", "b2", 0, 7);
    }

    /** "a BASS by a NOISE of 5 or more 2 less" */
    private static void bassHasTwoLessByNoiseOfFive() {
        for (int noise = 0; noise <= 9; noise++) {
            wind("OP1920P1900B" + noise + "0", "b1", 0, noise >= 5 ? 7 : 8);
        }
        wind("OP1920P1900B40B50", "b2", 0, 6);
        who("OP1220P1900B40", "b1", 3);
        who("OP1220P1900B50", "b1", 2);
        who("OP1320P1900B50", "b1", 3);
    }

    /** "(0 at least)" */
    private static void windIsZeroAtLeast() {
        wind("OP1120P1900B50", "b1", 0, 0);
        wind("OP1220P1900B50", "b1", 0, 0);
        wind("OP1020P1900B50", "b1", 0, 0);
        wind("OP1000P1900B50", "b1", 0, 0);
        wind("OP1320P1900B50", "b1", 0, 1);
    }

    private static void whoDoesNotPlayKeepsItsWind() {
        wind("OP1900P1900B10B10", "g1 p0 b2", 0, 9);
        wind("OP1911P1100P1900B10B10", "b1", 0, 8);
        wind("OP1911P1100P1900B10B10", "b2", 0, 8);
        wind("OP1911P1100P1900B10B10", "b2", 2, 7);
    }

    /** "each that PLAYS and has no WIND is TIRED" */
    private static void whoHasNoWindIsTired() {
        stands("OP1000P1900B10", "", 3, 0, 0);
        stands("OP1000P1900B10", "b1", 2, 0, 1);
        stands("OP1100P1900B10", "b1", 2, 0, 1);
        stands("OP1200P1900B10", "b1", 3, 0, 0);
        stands("OP1200P1900B10B10", "b2", 2, 0, 1);
        stands("OP1000P1900B10", "g1 p0 b1", 2, 1, 0);
    }

    /** "look to a PLAYER that there is": one that there is not tires nobody */
    private static void leanerLooksToOneThatThereIs() {
        who("OP1911B10", "b1", 1);
        who("OP1911P1100B10", "b1", 0);
        who("OP1915P1900P1900P1900P1100B10", "b1", 15);
        who("OP1914P1900P1900P1900P1100B10", "b1", 14);
    }

    /** "and that does not PLAY (now)" */
    private static void leanerLooksToOneThatDoesNotPlayNow() {
        who("OP1911P1200B10", "b1", 3);
        who("OP1911P1100B10", "b1", 0);
        who("OP1911P1900B10", "g1 p1", 1);
        who("OP1911P1900B10", "g1 p1 b1", 0);
        who("OP1910B10", "b1", 1);
        who("OP1911P1100B10B10", "b1 r1", 2);
        who("OP1911P1200B10B10B10B10", "b2 r0 r1 b1", 3);
    }

    /** "LEANERS by number ... (one that became TIRED counts for later ones)", and not for earlier ones */
    private static void tiredLeanerCountsForLaterOnes() {
        who("OP1100P1910P1911P1912B10", "b1", 0);
        who("OP1911P1912P1100B10B10", "b1", 1);
        who("OP1911P1912P1100B10B10", "b2", 0);
        who("OP1912P1100P1911B10B10", "b1", 1);
        who("OP1911P1910P1900B10B10", "g1 p1 b1", 4);
    }

    private static void onlyLeanersLean() {
        who("OP1901P1100B10", "b1", 1);
        who("OP1911P1100B10", "b1", 0);
        who("OP1921P1100P1900B10", "b1", 5);
        who("OP1931P1100P1900B10", "b1", 5);
    }

    /** "LEANERS ... that PLAY": one that is paid stays so */
    private static void leanerThatDoesNotPlayStaysAsItIs() {
        stands("OP1911P1100P1900B10", "g1 p0 b1", 4, 1, 2);
        stands("OP1911P1100P1900B10", "b1", 4, 0, 3);
    }

    /** "BASSES that PLAY, if nobody but BASSES PLAYS (now), are TIRED (all at once)" */
    private static void bassesAloneAreTired() {
        stands("OP1920B10", "b1", 0, 0, 1);
        stands("OP1920P1920P1920B10", "b1", 0, 0, 7);
        stands("OP1920P1900B10", "g1 p1 b1", 0, 2, 1);
        stands("OP1920P1920P1900B10", "g2 p0 p2 b1", 0, 5, 2);
        stands("OP1920P1100B10", "b1", 0, 0, 3);
        wind("OP1920B10", "b1", 0, 8);
    }

    /** ... and if another one PLAYS, they are not */
    private static void bassesWithAnotherPlayOn() {
        who("OP1920P1900B10", "b1", 3);
        who("OP1920P1200B10", "b1", 3);
        who("OP1920P1911B10", "b1", 3);
        who("OP1920P1931B10", "b1", 3);
        who("OP1920P1920P1900P1920B10", "b1", 15);
        who("OP1920P1900P1900B10", "g1 p1 b1", 5);
        who("OP1900P1920B10", "", 3);
    }

    /** LEANERS; "then BASSES"; "then DRUMS" */
    private static void bassesComeBehindLeanersAndAheadOfDrums() {
        who("OP1920P1912P1100B10", "b1", 0);
        who("OP1911P1920P1100B10", "b1", 3);
        who("OP1920P1130B10", "b1", 0);
        who("OP1920P1130P1200B10", "b1", 7);
    }

    /** "DRUMS by number that are TIRED (since this BAR, too) ... PLAY again, with 2 of WIND" */
    private static void drumComesBackWithTwoOfWind() {
        stands("OP1131P1900B10", "b1", 3, 0, 0);
        wind("OP1131P1900B10", "b1", 0, 2);
        wind("OP1031P1900B10", "b1", 0, 2);
        wind("OP1331P1900B10B10B10", "b3", 0, 2);
        wind("OP1331P1900B10B10B10", "b2", 0, 1);
        wind("OP1131P1900B90B90B90", "b2", 0, 1);
        wind("OP1131P1900B90B90B90", "b3", 0, 2);
        who("OP1101P1900B10", "b1", 2);
        who("OP1111P1900B10", "b1", 2);
        who("OP1121P1900B10", "b1", 2);
    }

    /** "and look to a PLAYER that PLAYS (now)" */
    private static void drumLooksToOneThatPlaysNow() {
        who("OP1131P1200B10", "b1", 3);
        who("OP1131P1100P1900B10", "b1", 4);
        who("OP1131P1912P1100P1900B10", "b1", 8);
        who("OP1131P1900P1900B10", "g1 p1 b1", 4);
        who("OP1130P1900B10", "b1", 2);
        who("OP1132P1900B10", "b1", 2);
        who("OP1131P1900B10", "b1", 3);
    }

    /** "one that is PAID stays so" */
    private static void drumThatIsPaidStaysSo() {
        stands("OP1131P1900B10B10", "g1 p0 b1", 2, 1, 0);
        stands("OP1131P1900B10B10", "b1 g1 p0 b1", 2, 1, 0);
        stands("OP1131P1900B10B10", "b2", 3, 0, 0);
    }

    /** A drum that was TIRED ahead of this BAR comes back, too, as soon as the one that it looks to PLAYS. */
    private static void drumTiredSinceAnEarlierBar() {
        who("OP1231P1200P1900B10B10B10B10", "b2", 4);
        who("OP1231P1200P1900B10B10B10B10", "b3", 4);
        who("OP1231P1200P1900B10B10B10B10", "b2 r1", 6);
        who("OP1231P1200P1900B10B10B10B10", "b2 r1 b1", 7);
        who("OP1131P1100P1900B10B10B10B10", "b1 r1 b1", 4);
    }

    /** "DRUMS by number": one that came back counts for later ones, and not for earlier ones */
    private static void drumsComeBackByNumber() {
        who("OP1131P1132P1900B10B10", "b1", 6);
        who("OP1131P1132P1900B10B10", "b2", 7);
        who("OP1132P1130P1900B10B10", "b1", 7);
        who("OP1131P1130P1900B10B10", "b1", 4);
    }

    /** The bars that come, one by one, until it is OVER; then who is taken. */
    private static void comes(String text, int taken, int... bars) {
        HatGoesRound x = Due.concert(text);
        for (int i = 0; i < bars.length; i++) {
            DUE.is("8 " + text + ": comes " + i, x.count(8), bars[i]);
            x.bar();
        }
        silent(text + ": behind " + bars.length, x);
        DUE.is("8 " + text + ": taken", x.count(9), taken);
    }

    /** "REPEAT r (0 to 7): 0 none, else behind it, the first time, BAR r less 1 comes next" */
    private static void repeatIsTakenTheFirstTime() {
        comes("OP1900B10B10B10", 0, 0, 1, 2);
        comes("OP1900B11B10B10", 1, 0, 0, 1, 2);
        comes("OP1900B10B11B10", 2, 0, 1, 0, 1, 2);
        comes("OP1900B11B11B10", 3, 0, 0, 1, 0, 1, 2);
        HatGoesRound x = Due.concert("OP1900B11B10");
        DUE.is("8 not taken ahead of it", x.score(0, 2), 0);
        x.bar();
        DUE.is("8 taken behind it", x.score(0, 2), 1);
        x.bar();
        DUE.is("8 the second time the next bar", x.count(8), 1);
    }

    /** "a REPEAT that was not taken yet BAR r less 1 (it is taken)": back, to itself, to the next, to the last */
    private static void repeatToABarThatThereIs() {
        comes("OP1900B10B12B10", 2, 0, 1, 1, 2);
        comes("OP1900B12B10B10", 1, 0, 1, 2);
        comes("OP1900B13B10B10", 1, 0, 2);
        comes("OP1900B17B10B10B10B10B10B10", 1, 0, 6);
        comes("OP1900B17B10B10B10B10B10B10B10", 1, 0, 6, 7);
    }

    /** "(... if there is no such BAR, as without it)" */
    private static void repeatToNoSuchBar() {
        comes("OP1900B14B10B10", 0, 0, 1, 2);
        comes("OP1900B17B10B10", 0, 0, 1, 2);
        comes("OP1900B17B10B10B10B10B10", 0, 0, 1, 2, 3, 4, 5);
        comes("OP1900B12", 0, 0);
        comes("OP1900B11", 1, 0, 0);
    }

    /** "else the next BAR; behind the last one it is OVER" */
    private static void behindTheLastBarItIsOver() {
        comes("OP1900B10", 0, 0);
        comes("OP1900B10B10", 0, 0, 1);
        comes("OP1900B10B12", 2, 0, 1, 1);
        comes("OP1900B10B13", 0, 0, 1);
        comes("OP1900B10B10B10B10B10B10B10B10", 0, 0, 1, 2, 3, 4, 5, 6, 7);
    }

    /** What comes next is looked at in each BAR, also if nobody PLAYS behind it. */
    private static void pageIsTurnedWhenNobodyIsLeft() {
        DUE.is("8 the next bar", Runs.of("OP1100B10B10", "b1 r0").count(8), 1);
        DUE.is("8 by a repeat", Runs.of("OP1100B11B10", "b1 r0").count(8), 0);
        DUE.is("8 it is taken", Runs.of("OP1100B11B10", "b1").count(9), 1);
        DUE.is("8 over", Runs.of("OP1100B10", "b1 r0").count(8), HatGoesRound.NONE);
    }

    /** "THE TIME is one more" */
    private static void theTimeIsOneMore() {
        DUE.is("8 at first", Due.concert("OP1900B11B10").count(3), 0);
        DUE.is("8 one bar", Runs.of("OP1900B11B10", "b1").count(3), 1);
        DUE.is("8 by a repeat, too", Runs.of("OP1900B11B10", "b2").count(3), 2);
        HatGoesRound x = Runs.of("OP1900B11B10", "b3");
        DUE.is("8 over", x.count(3), 3);
        x.bar();
        DUE.is("8 a bar that is refused", x.count(3), 3);
        DUE.is("8 no bar", Runs.of("OP1300P1100B11B10", "b1 g5 p0 r1 e1").count(3), 1);
    }

    /** "An object is used for at most 512 calls": THE TIME goes on to the last of them. */
    private static void all512CallsAnswer() {
        HatGoesRound x = Due.concert("OP1131P1230B11B11B11B11B11B11B11B11");
        // 35 letters, a wipe and the concert; then 44 bars and one encore, over and over
        int calls = 37;
        int time = 0;
        while (calls < 511) {
            calls++;
            if (calls % 45 == 37) {
                DUE.is("8 call " + calls + ", from the first bar on", x.encore(), 2);
            } else {
                DUE.is("8 call " + calls, x.bar(), 2);
                time++;
            }
        }
        DUE.is("8 the time at call 512", x.count(3), time);
    }
}
