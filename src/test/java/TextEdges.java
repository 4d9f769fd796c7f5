import java.math.BigInteger;

/** Promises 1 to 7 once more: every sentence that names an edge, by a test of its own, on both sides of it. */
public final class TextEdges {
    private static final Due DUE = new Due("TextEdges");
    private static final String DIGITS = "0123456789";
    private static final String SIX = "OP1000P1000P1000P1000P1000P1000";
    private static final String EIGHT = "OB00B00B00B00B00B00B00B00";
    private static final String WHOLE = SIX + EIGHT.substring(1);

    public static void main(String[] args) {
        nobodyNothing();
        constantsAreAsTold();
        lettersFrom0To255();
        lettersAreAtMost56();
        wipedTextIsEmpty();
        everySignIsWithinItsRange();
        partsAreNoneOrMore();
        playersAreAtMostSix();
        barsAreAtMostEight();
        playersAndBarsAreNumberedEachForItself();
        lookedToIsToldOrNot();
        faultIsOfTheFirstLetter();
        faultIsTheLengthIfOnlyNotAtItsEnd();
        faultSetsTheLengthAside();
        faultLooksAtTheTextAsItIs();
        concertNeedsATextWithoutFault();
        concertTellsPlayersAndBars();
        concertLeavesTheText();
        concertIsMadeAnew();
        concertEmptiesTheRow();
        concertTakesWhatWasKept();
        concertLeavesHeardAndSeed();
        playerIsThereOrUnknown();
        playerIsAskedFiveThings();
        playerTellsItsWindAsItIsNow();
        barIsThereOrUnknown();
        barIsAskedThreeThings();
        DUE.end();
    }

    /** "HatGoesRound(): Nobody, nothing." */
    private static void nobodyNothing() {
        HatGoesRound x = new HatGoesRound();
        for (int what = 0; what <= 11; what++) {
            DUE.is("1 count " + what, x.count(what), what == 8 ? -9 : 0);
        }
        long[] got = {x.fault(), x.player(0, 0), x.score(0, 0), x.bar(), x.pay(0), x.rest(0), x.encore(), x.undo(),
            x.later(30, 0), x.later(0, 1), x.stops(), x.hush(9, 0), x.hush(9, 1), x.loud(12, 0), x.loud(12, 1),
            x.judge(1, 500), x.judge(1, 501), x.judge(1, 0), x.hear(0, 0, 0), x.unhear(), x.pays(0), x.pays(1),
            x.share(0, true), x.rests(0), x.rests(1), x.strings(9, 5, true), x.strings(9, 5, false), x.nights(30),
            x.again(0), x.again(1), x.keep(0), x.wipe()};
        long[] due = {0, -1, -1, -3, -1, -1, -3, -3,
            0, -9, 0, 0, 0, 6, 0,
            -9, 0, 0, -1, 0, 1, 0,
            -1, 1, 0, 1, 1, 0,
            -3, -3, 0, 0};
        for (int i = 0; i < due.length; i++) {
            DUE.is("1 answer " + i, got[i], due[i]);
        }
        DUE.is("1 the seed", new HatGoesRound().seed(1), 0);
    }

    /** "NONE is -9", and the other constants of the face. */
    private static void constantsAreAsTold() {
        DUE.is("NONE", HatGoesRound.NONE, -9);
        DUE.is("UNKNOWN", HatGoesRound.UNKNOWN, -1);
        DUE.is("OUTSIDE", HatGoesRound.OUTSIDE, -2);
        DUE.is("STATE", HatGoesRound.STATE, -3);
        DUE.is("FULL", HatGoesRound.FULL, -4);
    }

    /** "A letter (0 to 255) comes behind THE TEXT: how long it is. OUTSIDE" */
    private static void lettersFrom0To255() {
        HatGoesRound x = new HatGoesRound();
        int[] outside = {-1, 256, 257, -256, 'O' + 256, 'O' - 256, Integer.MIN_VALUE, Integer.MAX_VALUE};
        for (int letter : outside) {
            DUE.is("2 write(" + letter + ")", x.write(letter), HatGoesRound.OUTSIDE);
            DUE.is("2 nothing came", x.count(0), 0);
        }
        int[] within = {0, 1, 254, 255};
        for (int i = 0; i < within.length; i++) {
            DUE.is("2 write(" + within[i] + ")", x.write(within[i]), i + 1);
        }
    }

    /** "letters (56 at most)"; "FULL: there are 56" */
    private static void lettersAreAtMost56() {
        HatGoesRound x = Due.written(WHOLE);
        DUE.is("2 there are 55", x.count(0), 55);
        DUE.is("2 the 56th", x.write('B'), 56);
        DUE.is("2 the 57th", x.write('B'), HatGoesRound.FULL);
        DUE.is("2 still 56", x.count(0), 56);
        DUE.is("2 wiped", x.wipe(), 56);
        DUE.is("2 room again", x.write('O'), 1);
        DUE.is("2 nothing of the old ones", x.fault(), HatGoesRound.NONE);
    }

    /** "THE TEXT is empty: how long it was" */
    private static void wipedTextIsEmpty() {
        int[] lengths = {0, 1, 55, 56};
        for (int length : lengths) {
            HatGoesRound x = new HatGoesRound();
            for (int i = 0; i < length; i++) {
                x.write('O');
            }
            DUE.is("3 wipe of " + length, x.wipe(), length);
            DUE.is("3 empty", x.count(0), 0);
            DUE.is("3 wiped twice", x.wipe(), 0);
        }
    }

    /** Each of the 256 signs behind a text: those that may come, and whether it is at its end by them. */
    private static void nextSign(String before, String may, boolean isAtItsEnd) {
        for (int sign = 0; sign <= 255; sign++) {
            boolean fits = may.indexOf(sign) >= 0;
            int due = !fits ? before.length() : isAtItsEnd ? HatGoesRound.NONE : before.length() + 1;
            DUE.is("4 sign " + sign + " behind " + before, Due.written(before + (char) sign).fault(), due);
        }
    }

    /** "PRICE p (1 to 9), WIND w (0 to 9), KIND k: 0 to 3, PLAYER n (0 to 5)"; "NOISE o (0 to 9), REPEAT r (0 to 7)" */
    private static void everySignIsWithinItsRange() {
        nextSign("", "O", true);
        nextSign("O", "PB", false);
        nextSign("OP", "123456789", false);
        nextSign("OP9", DIGITS, false);
        nextSign("OP99", "0123", false);
        nextSign("OP993", "012345", true);
        nextSign("OP9935", "PB", false);
        nextSign("OB", DIGITS, false);
        nextSign("OB9", "01234567", true);
        nextSign("OB97", "PB", false);
    }

    /** "O, then PARTS, none or more" */
    private static void partsAreNoneOrMore() {
        DUE.is("4 none", Due.written("O").fault(), HatGoesRound.NONE);
        DUE.is("4 one", Due.written("OB00").fault(), HatGoesRound.NONE);
        DUE.is("4 most", Due.written(WHOLE).fault(), HatGoesRound.NONE);
        DUE.is("4 no O", Due.written("").fault(), 0);
        DUE.is("4 a part without O", Due.written("B00").fault(), 0);
        DUE.is("4 O is no part", Due.written("OB00O").fault(), 4);
    }

    /** "PLAYERS (6 at most)" */
    private static void playersAreAtMostSix() {
        nextSign(SIX.substring(0, 26), "PB", false);
        nextSign(SIX, "B", false);
        nextSign(SIX + "B00", "B", false);
        DUE.is("4 the sixth", Due.written(SIX).concert(), 60);
        DUE.is("4 the seventh", Due.written(SIX + "P1000").fault(), 31);
        DUE.is("4 the seventh, bars between", Due.written("OB00" + SIX.substring(1) + "B00P").fault(), 37);
    }

    /** "BARS (8 at most)" */
    private static void barsAreAtMostEight() {
        nextSign(EIGHT.substring(0, 22), "PB", false);
        nextSign(EIGHT, "P", false);
        nextSign(EIGHT + "P1000", "P", false);
        nextSign(WHOLE, "", false);
        DUE.is("4 the eighth", Due.written(EIGHT).concert(), 8);
        DUE.is("4 the ninth", Due.written(EIGHT + "B00").fault(), 25);
        DUE.is("4 the ninth, a player between", Due.written("OP1000" + EIGHT.substring(1) + "P1000B").fault(), 35);
    }

    /** "are numbered as they are told, each for itself" */
    private static void playersAndBarsAreNumberedEachForItself() {
        HatGoesRound x = Due.concert("OB10P3900B20B40P5900");
        DUE.is("4 bar 0", x.score(0, 0), 1);
        DUE.is("4 bar 1", x.score(1, 0), 2);
        DUE.is("4 bar 2", x.score(2, 0), 4);
        DUE.is("4 player 0", x.player(0, 0), 3);
        DUE.is("4 player 1", x.player(1, 0), 5);
    }

    /** "who looks to PLAYER n (0 to 5, told or not)" */
    private static void lookedToIsToldOrNot() {
        for (int n = 0; n <= 5; n++) {
            HatGoesRound x = Due.written("OP190" + n + "P1900");
            DUE.is("4 looks to " + n, x.concert(), 20);
            DUE.is("6 looks to " + n, x.player(0, 3), n);
        }
        DUE.is("4 looks to 6", Due.written("OP1906P1900").fault(), 5);
    }

    /** "the first letter by which THE TEXT can be no CONCERT, whatever came behind it" */
    private static void faultIsOfTheFirstLetter() {
        String[] behind = {"", "X", "O", "B00", "P1000", "0"};
        for (String rest : behind) {
            DUE.is("4 place 0", Due.written("B" + rest).fault(), 0);
            DUE.is("4 place 1", Due.written("OX" + rest).fault(), 1);
            DUE.is("4 place 2", Due.written("OP0" + rest).fault(), 2);
            DUE.is("4 place 6", Due.written("OB00B:" + rest).fault(), 5);
        }
        DUE.is("4 of two the first", Due.written("OP0B99").fault(), 2);
        DUE.is("4 whole but for the last", Due.written(WHOLE.substring(0, 54) + "8").fault(), 54);
    }

    /** "its length, if it is only not at its end; NONE: none" */
    private static void faultIsTheLengthIfOnlyNotAtItsEnd() {
        String text = "OB97P9935B00P1000";
        String wholeAt = "1 4 9 12 17";
        for (int length = 0; length <= text.length(); length++) {
            boolean isWhole = (" " + wholeAt + " ").contains(" " + length + " ");
            DUE.is("4 the first " + length, Due.written(text.substring(0, length)).fault(),
                isWhole ? HatGoesRound.NONE : length);
        }
        DUE.is("4 empty", new HatGoesRound().fault(), 0);
        DUE.is("4 one letter less than the most", Due.written(WHOLE.substring(0, 54)).fault(), 54);
    }

    /** "(its length set aside)": a letter is no fault because there are 56 of them, but because no part is left. */
    private static void faultSetsTheLengthAside() {
        DUE.is("4 55 letters", Due.written(WHOLE).fault(), HatGoesRound.NONE);
        DUE.is("4 56 letters, a player too many", Due.written(WHOLE + "P").fault(), 55);
        DUE.is("4 56 letters, a bar too many", Due.written(WHOLE + "B").fault(), 55);
        DUE.is("4 56 letters, the fault before", Due.written("X" + WHOLE).fault(), 0);
    }

    private static void faultLooksAtTheTextAsItIs() {
        HatGoesRound x = Due.concert("OP1900B10");
        x.write('X');
        DUE.is("4 not the concert's", x.fault(), 9);
        x.wipe();
        DUE.is("4 wiped", x.fault(), 0);
        DUE.is("4 the concert is there", x.player(0, 1), 9);
    }

    /** "STATE: a FAULT" */
    private static void concertNeedsATextWithoutFault() {
        String[] faulty = {"", "X", "OP", "OP100", "OB0", "OB08", "OX", SIX + "P", EIGHT + "B", WHOLE + "O"};
        for (String text : faulty) {
            DUE.is("5 concert of " + text, Due.written(text).concert(), HatGoesRound.STATE);
        }
        HatGoesRound x = Due.written("OP100");
        DUE.is("5 a letter is missing", x.concert(), HatGoesRound.STATE);
        x.write('0');
        DUE.is("5 it has come", x.concert(), 10);
        x.write('0');
        DUE.is("5 a letter too many", x.concert(), HatGoesRound.STATE);
    }

    /** "10 times PLAYERS, and BARS" */
    private static void concertTellsPlayersAndBars() {
        DUE.is("5 none of both", Due.written("O").concert(), 0);
        DUE.is("5 one bar", Due.written("OB00").concert(), 1);
        DUE.is("5 one player", Due.written("OP1000").concert(), 10);
        DUE.is("5 most of both", Due.written(WHOLE).concert(), 68);
    }

    /** "THE TEXT (that stays as it is)" */
    private static void concertLeavesTheText() {
        HatGoesRound x = Due.written("OB00");
        x.concert();
        DUE.is("5 its length", x.count(0), 4);
        x.write('B');
        x.write('9');
        x.write('7');
        DUE.is("5 written on", x.concert(), 2);
        DUE.is("5 the old bar", x.score(0, 0), 0);
        DUE.is("5 the new bar", x.score(1, 0), 9);
    }

    /** "all PLAYERS PLAY with their WIND, nobody is PAID, BAR 0 comes first, no REPEAT is taken, HAT 0, TIME 0" */
    private static void concertIsMadeAnew() {
        HatGoesRound x = Runs.of("OP1300P1100P1000P1900B11B10", "g9 p0 b2");
        int[] before = {2, 8, 8, 1, 6, 1, 1};
        int[] anew = {0, 0, 15, 0, 0, 0, 0};
        int[] asked = {3, 4, 5, 6, 7, 8, 9};
        for (int i = 0; i < asked.length; i++) {
            DUE.is("5 before, count " + asked[i], x.count(asked[i]), before[i]);
        }
        DUE.is("5 concert", x.concert(), 42);
        for (int i = 0; i < asked.length; i++) {
            DUE.is("5 anew, count " + asked[i], x.count(asked[i]), anew[i]);
        }
        int[] winds = {3, 1, 0, 9};
        for (int player = 0; player < winds.length; player++) {
            DUE.is("5 wind of " + player, x.player(player, 1), winds[player]);
            DUE.is("5 plays " + player, x.player(player, 4), 0);
        }
        DUE.is("5 not taken", x.score(0, 2), 0);
    }

    /** "(THE ROW of ACTS is empty ...)" */
    private static void concertEmptiesTheRow() {
        HatGoesRound x = Runs.of("OP1300B10", "g9 b1");
        DUE.is("5 acts before", x.count(10), 2);
        x.concert();
        DUE.is("5 acts", x.count(10), 0);
        DUE.is("5 none to undo", x.undo(), HatGoesRound.STATE);
        x.give(1);
        DUE.is("5 only the new one", x.undo(), 0);
    }

    /** "(... what was kept is gone ...)" */
    private static void concertTakesWhatWasKept() {
        for (int slot = 0; slot <= 1; slot++) {
            HatGoesRound x = Runs.of("OP1300B10", "k0 k1");
            x.write('X');
            DUE.is("5 a fault", x.concert(), HatGoesRound.STATE);
            DUE.is("5 kept still, " + slot, x.again(slot), 0);
            Due.tell(x, "OP1300B10").concert();
            DUE.is("5 gone, " + slot, x.again(slot), HatGoesRound.STATE);
        }
    }

    /** "(... HEARD, THE SEED stay)" */
    private static void concertLeavesHeardAndSeed() {
        HatGoesRound x = Due.concert("OP1300B10");
        x.hear(0, 0, 0);
        x.seed(BigInteger.ONE.shiftLeft(62).longValue());
        x.concert();
        DUE.is("5 heard", x.count(11), 1);
        DUE.is("5 what was heard", x.pays(1), 1);
        DUE.is("5 the seed", x.seed(0), 1L << 62);
    }

    /** "UNKNOWN (there is no such PLAYER ...)", and that before OUTSIDE */
    private static void playerIsThereOrUnknown() {
        String[] texts = {"O", "OB00", "OP1900", "OP1900P1900B00", SIX};
        int[] players = {0, 0, 1, 2, 6};
        for (int i = 0; i < texts.length; i++) {
            HatGoesRound x = Due.concert(texts[i]);
            int[] numbers = {Integer.MIN_VALUE, -1, 0, players[i] - 1, players[i], 6, 32, Integer.MAX_VALUE};
            for (int player : numbers) {
                boolean isThere = player >= 0 && player < players[i];
                DUE.is("6 player " + player + " of " + texts[i], x.player(player, 0), isThere ? 1 : -1);
                DUE.is("6 first UNKNOWN, " + player, x.player(player, 5), isThere ? -2 : -1);
            }
        }
    }

    /** "(what = 0) ... (4 ...)"; "OUTSIDE" */
    private static void playerIsAskedFiveThings() {
        HatGoesRound x = Due.concert("OP7625");
        int[] whats = {Integer.MIN_VALUE, -1, 0, 1, 2, 3, 4, 5, 6, Integer.MAX_VALUE};
        int[] due = {-2, -2, 7, 6, 2, 5, 0, -2, -2, -2};
        for (int i = 0; i < whats.length; i++) {
            DUE.is("6 what " + whats[i], x.player(0, whats[i]), due[i]);
        }
    }

    /** "WIND as it is now (1)"; "what it is (4: 0 PLAYS, 1 PAID, 2 TIRED)" */
    private static void playerTellsItsWindAsItIsNow() {
        HatGoesRound x = Runs.of("OP1200P1900B00B00", "b1");
        DUE.is("6 one left", x.player(0, 1), 1);
        DUE.is("6 plays", x.player(0, 4), 0);
        x.bar();
        DUE.is("6 none left", x.player(0, 1), 0);
        DUE.is("6 tired", x.player(0, 4), 2);
        Runs.go(x, "g1 p1");
        DUE.is("6 paid", x.player(1, 4), 1);
        DUE.is("6 the paid one's wind", x.player(1, 1), 7);
    }

    /** "UNKNOWN (there is no such ... BAR ...)", and that before OUTSIDE */
    private static void barIsThereOrUnknown() {
        String[] texts = {"O", SIX, "OB10", "OB10P1900B10", "OB10B10B10B10B10B10B10B10"};
        int[] bars = {0, 0, 1, 2, 8};
        for (int i = 0; i < texts.length; i++) {
            HatGoesRound x = Due.concert(texts[i]);
            int[] numbers = {Integer.MIN_VALUE, -1, 0, bars[i] - 1, bars[i], 8, 32, Integer.MAX_VALUE};
            for (int bar : numbers) {
                boolean isThere = bar >= 0 && bar < bars[i];
                DUE.is("7 bar " + bar + " of " + texts[i], x.score(bar, 0), isThere ? 1 : -1);
                DUE.is("7 first UNKNOWN, " + bar, x.score(bar, 3), isThere ? -2 : -1);
            }
        }
    }

    /** "NOISE (what = 0), REPEAT (1), 1 if that is taken (2)"; "OUTSIDE" */
    private static void barIsAskedThreeThings() {
        HatGoesRound x = Due.concert("OP1900B91B40");
        int[] whats = {Integer.MIN_VALUE, -1, 0, 1, 2, 3, 4, Integer.MAX_VALUE};
        int[] due = {-2, -2, 9, 1, 0, -2, -2, -2};
        for (int i = 0; i < whats.length; i++) {
            DUE.is("7 what " + whats[i], x.score(0, whats[i]), due[i]);
        }
        x.bar();
        DUE.is("7 taken", x.score(0, 2), 1);
        DUE.is("7 the other is not", x.score(1, 2), 0);
    }
}
