/** Promises 9 to 13 once more: every sentence that names an edge, by a test of its own, on both sides of it. */
public final class ActEdges {
    private static final Due DUE = new Due("ActEdges");

    public static void main(String[] args) {
        giftIsFrom1To9();
        hatHas99AtMost();
        giftIsAnActAlsoAt99();
        payIsByItsPriceFromTheHat();
        payOfOneThatPlays();
        payOfNoSuchPlayer();
        paidDoesNotPlayWhateverComes();
        payChangesNoWind();
        restOfOneThatIsTired();
        restOfOneWithoutWindAsTold();
        restGivesWindAsTold();
        restOfNoSuchPlayer();
        restAlsoWhenItIsOver();
        againNeedsBars();
        againTakesNoRepeat();
        againLeavesPlayersAsTheyAre();
        againTellsHowManyPlay();
        actsAre14AtMost();
        allFiveKindsAreActs();
        refusedIsNoAct();
        undoTellsHowManyAreLeft();
        undoNeedsAnAct();
        undoGivesBackAllThatWas();
        undoneActsMakeRoom();
        DUE.end();
    }

    private static void is(String sentence, long got, long want) {
        DUE.is(sentence, got, want);
    }

    /** "n (1 to 9) more in THE HAT"; "OUTSIDE: n" */
    private static void giftIsFrom1To9() {
        int[] outside = {Integer.MIN_VALUE, -9, -1, 0, 10, 11, Integer.MAX_VALUE};
        for (int n : outside) {
            HatGoesRound x = Runs.of("OP1900B10", "g5");
            is("9 give(" + n + ")", x.give(n), HatGoesRound.OUTSIDE);
            is("9 the hat after give(" + n + ")", x.count(4), 5);
        }
        for (int n = 1; n <= 9; n++) {
            is("9 give(" + n + ")", Runs.of("OP1900B10", "g5").give(n), 5 + n);
            is("9 without a concert", new HatGoesRound().give(n), n);
        }
    }

    private static HatGoesRound withHat(int hat) {
        HatGoesRound x = Due.concert("OP9900P9900B10");
        int left = hat;
        while (left > 0) {
            int n = Math.min(9, left);
            x.give(n);
            left -= n;
        }
        return x;
    }

    /** "(99 at most)" */
    private static void hatHas99AtMost() {
        is("9 89 and 9", withHat(89).give(9), 98);
        is("9 90 and 9", withHat(90).give(9), 99);
        is("9 91 and 9", withHat(91).give(9), 99);
        is("9 98 and 1", withHat(98).give(1), 99);
        is("9 98 and 2", withHat(98).give(2), 99);
        is("9 99 and 1", withHat(99).give(1), 99);
        is("9 99 and 9", withHat(99).give(9), 99);
        is("9 99 less 9", withHat(99).pay(0), 90);
        HatGoesRound x = withHat(98);
        x.give(9);
        x.pay(0);
        is("9 what was too much is gone", x.count(4), 90);
    }

    /** "an ACT also where it is 99 already" */
    private static void giftIsAnActAlsoAt99() {
        HatGoesRound x = withHat(99);
        is("9 eleven acts", x.count(10), 11);
        x.give(1);
        is("9 one more", x.count(10), 12);
        is("9 undone", x.undo(), 11);
        is("9 still 99", x.count(4), 99);
        is("9 undone, too", x.undo(), 10);
        is("9 90 again", x.count(4), 90);
        x = withHat(97);
        x.give(9);
        x.undo();
        is("9 what it was, not 9 less", x.count(4), 97);
    }

    /** "by its PRICE from THE HAT"; "STATE: ... THE HAT has less" */
    private static void payIsByItsPriceFromTheHat() {
        for (int price = 1; price <= 9; price++) {
            String text = "OP" + price + "900B10";
            if (price > 1) {
                is("10 one less than " + price, Runs.of(text, "g" + (price - 1)).pay(0), HatGoesRound.STATE);
            } else {
                is("10 an empty hat", Due.concert(text).pay(0), HatGoesRound.STATE);
            }
            is("10 just " + price, Runs.of(text, "g" + price).pay(0), 0);
            is("10 one more than " + price, Runs.of(text, "g" + price + " g1").pay(0), 1);
        }
    }

    /** "a PLAYER that PLAYS"; "STATE: it does not PLAY" */
    private static void payOfOneThatPlays() {
        String text = "OP1100P1900B10B10";
        is("10 plays", Runs.of(text, "g9").pay(0), 8);
        is("10 is tired", Runs.of(text, "g9 b1").pay(0), HatGoesRound.STATE);
        is("10 plays again", Runs.of(text, "g9 b1 r0").pay(0), 8);
        is("10 is paid", Runs.of(text, "g9 p0").pay(0), HatGoesRound.STATE);
        is("10 the other one", Runs.of(text, "g9 p0").pay(1), 7);
        is("10 plays, without wind", Runs.of("OP1000B10", "g9").pay(0), 8);
        is("10 plays, and it is over", Runs.of("OP1900B10", "g9 b1").pay(0), 8);
        is("10 plays, and there are no bars", Runs.of("OP1900", "g9").pay(0), 8);
    }

    /** "UNKNOWN (there is no such PLAYER ...)" */
    private static void payOfNoSuchPlayer() {
        int[] unknown = {Integer.MIN_VALUE, -1, 2, 5, 6, 32, Integer.MAX_VALUE};
        for (int player : unknown) {
            is("10 pay(" + player + ")", Runs.of("OP1900P1900B10", "g9").pay(player), HatGoesRound.UNKNOWN);
        }
        is("10 pay(0)", Runs.of("OP1900P1900B10", "g9").pay(0), 8);
        is("10 pay(1)", Runs.of("OP1900P1900B10", "g9").pay(1), 8);
        is("10 the sixth", Runs.of("OP1900P1900P1900P1900P1900P1900B10", "g9").pay(5), 8);
    }

    /** "it does not PLAY, whatever comes" */
    private static void paidDoesNotPlayWhateverComes() {
        HatGoesRound x = Runs.of("OP1131P1900B11B10", "g9 p0 b2 e1 b2");
        is("10 paid still", x.player(0, 4), 1);
        is("10 no rest", x.rest(0), HatGoesRound.STATE);
        is("10 the other one plays", x.count(5), 2);
        is("10 not paid any more, if undone", Runs.of("OP1131P1900B11B10", "g9 p0 u1").player(0, 4), 0);
    }

    private static void payChangesNoWind() {
        HatGoesRound x = Runs.of("OP1700P1900B10B10", "b1 g9 p0 b1");
        is("10 wind as it was", x.player(0, 1), 6);
        is("10 the other one's", x.player(1, 1), 7);
    }

    /** "a PLAYER that is TIRED"; "STATE: it is not TIRED" */
    private static void restOfOneThatIsTired() {
        is("11 plays", Runs.of("OP1200P1900B10B10", "b1").rest(0), HatGoesRound.STATE);
        is("11 tired by wind", Runs.of("OP1200P1900B10B10", "b2").rest(0), 2);
        is("11 rested already", Runs.of("OP1200P1900B10B10", "b2 r0").rest(0), HatGoesRound.STATE);
        is("11 paid", Runs.of("OP1200P1900B10B10", "g1 p0 b2").rest(0), HatGoesRound.STATE);
        is("11 a tired leaner", Runs.of("OP1911P1100B10B10", "b1").rest(0), 9);
        is("11 a tired bass", Runs.of("OP1920B10B10", "b1").rest(0), 9);
        is("11 a tired drum", Runs.of("OP1131P1100B10B10", "b1").rest(0), 1);
    }

    /** "or its WIND as told is 0" */
    private static void restOfOneWithoutWindAsTold() {
        is("11 told 0", Runs.of("OP1000P1900B10", "b1").rest(0), HatGoesRound.STATE);
        is("11 told 1", Runs.of("OP1100P1900B10", "b1").rest(0), 1);
        is("11 told 9", Runs.of("OP1911P1100B10", "b1").rest(0), 9);
        // the wind that a drum came back with is not the wind as told
        is("11 a drum told 0", Runs.of("OP1031P1300P9900B10B10B10B10B10", "b4").rest(0), HatGoesRound.STATE);
        is("11 a drum told 1", Runs.of("OP1131P1300P9900B10B10B10B10B10", "b4").rest(0), 1);
    }

    /** "has its WIND as told again, and PLAYS" */
    private static void restGivesWindAsTold() {
        HatGoesRound x = Runs.of("OP1911P1200P1900B10B10B10B10", "b2");
        is("11 the leaner's wind", x.player(0, 1), 7);
        is("11 rest", x.rest(0), 9);
        is("11 its wind", x.player(0, 1), 9);
        is("11 it plays", x.player(0, 4), 0);
        is("11 the others stay", x.count(7), 2);
    }

    /** "UNKNOWN (there is no such PLAYER ...)" */
    private static void restOfNoSuchPlayer() {
        int[] unknown = {Integer.MIN_VALUE, -1, 2, 5, 6, 32, Integer.MAX_VALUE};
        for (int player : unknown) {
            is("11 rest(" + player + ")", Runs.of("OP1100P1100B10", "b1").rest(player), HatGoesRound.UNKNOWN);
        }
        is("11 rest(0)", Runs.of("OP1100P1100B10", "b1").rest(0), 1);
        is("11 rest(1)", Runs.of("OP1100P1100B10", "b1").rest(1), 1);
    }

    private static void restAlsoWhenItIsOver() {
        HatGoesRound x = Runs.of("OP1100P1900B10", "b1 r0");
        is("11 both play", x.count(5), 3);
        is("11 it is over", x.count(8), HatGoesRound.NONE);
    }

    /** "STATE: there are no BARS" */
    private static void againNeedsBars() {
        is("12 nothing", new HatGoesRound().encore(), HatGoesRound.STATE);
        is("12 players, no bars", Due.concert("OP1900").encore(), HatGoesRound.STATE);
        is("12 a bar, no players", Due.concert("OB10").encore(), 0);
        is("12 a bar, a player", Due.concert("OP1900B10").encore(), 1);
        is("12 over", Runs.of("OP1900B10", "b1").encore(), 1);
        is("12 nobody plays", Runs.of("OP1900B10", "g1 p0").encore(), 0);
    }

    /** "THE CONCERT from BAR 0 on, no REPEAT is taken" */
    private static void againTakesNoRepeat() {
        HatGoesRound x = Runs.of("OP1900B11B12B10", "b5");
        is("12 both are taken", x.count(9), 3);
        is("12 over", x.count(8), HatGoesRound.NONE);
        x.encore();
        is("12 none is taken", x.count(9), 0);
        is("12 bar 0", x.count(8), 0);
        x.bar();
        is("12 the repeat is there again", x.count(8), 0);
        is("12 it is taken again", x.count(9), 1);
        is("12 from the middle", Runs.of("OP1900B10B10B10", "b1 e1").count(8), 0);
        is("12 from the beginning", Runs.of("OP1900B10B10B10", "e1").count(8), 0);
    }

    /** "(players as they are)" */
    private static void againLeavesPlayersAsTheyAre() {
        HatGoesRound x = Runs.of("OP1100P1500P1900B10B10", "g9 p2 b1 e1");
        is("12 plays", x.count(5), 2);
        is("12 paid", x.count(6), 4);
        is("12 tired", x.count(7), 1);
        is("12 wind of 0", x.player(0, 1), 0);
        is("12 wind of 1", x.player(1, 1), 4);
        is("12 wind of 2", x.player(2, 1), 9);
        is("12 the hat", x.count(4), 8);
        is("12 the time", x.count(3), 1);
    }

    /** "AGAIN: how many PLAY" */
    private static void againTellsHowManyPlay() {
        is("12 three", Due.concert("OP1100P1500P1900B10B10").encore(), 3);
        is("12 two", Runs.of("OP1100P1500P1900B10B10", "b1").encore(), 2);
        is("12 none", Runs.of("OP1100B10B10", "b1").encore(), 0);
    }

    /** "are a row (14 at most; of more the first one is forgotten)" */
    private static void actsAre14AtMost() {
        int[] given = {13, 14, 15, 16, 28, 29, 60};
        for (int acts : given) {
            HatGoesRound x = new HatGoesRound();
            for (int i = 1; i <= acts; i++) {
                x.give(1);
                is("13 acts after " + i, x.count(10), Math.min(14, i));
            }
            int left = Math.min(14, acts);
            while (left > 0) {
                left--;
                is("13 undo", x.undo(), left);
            }
            is("13 none is left of " + acts, x.undo(), HatGoesRound.STATE);
            is("13 the hat of the forgotten ones", x.count(4), Math.max(0, acts - 14));
        }
    }

    /** "ACTS (BARS, GIVEN, PAID, RESTED, AGAIN)", and nothing else */
    private static void allFiveKindsAreActs() {
        HatGoesRound x = Due.concert("OP1200P1100B10B10B10");
        String[] doings = {"b1", "g9", "p0", "r1", "e1"};
        for (int i = 0; i < doings.length; i++) {
            Runs.go(x, doings[i]);
            is("13 acts after " + doings[i], x.count(10), i + 1);
        }
        x.keep(0);
        x.hear(0, 0, 0);
        x.unhear();
        x.seed(3);
        x.nights(30);
        x.write('O');
        x.wipe();
        is("13 no acts", x.count(10), 5);
        for (int left = 4; left >= 0; left--) {
            is("13 undo", x.undo(), left);
        }
    }

    private static void refusedIsNoAct() {
        HatGoesRound x = Runs.of("OP5100P1900B10", "b1");
        int[] refused = {x.bar(), x.give(0), x.give(10), x.pay(0), x.pay(1), x.pay(2), x.rest(1), x.rest(2)};
        int[] due = {-3, -2, -2, -3, -3, -1, -3, -1};
        for (int i = 0; i < due.length; i++) {
            is("13 refused " + i, refused[i], due[i]);
        }
        is("13 one act", x.count(10), 1);
        is("13 it is undone", x.undo(), 0);
        is("13 its time is undone", x.count(3), 0);
    }

    /** "The last ACT is undone: how many are left" */
    private static void undoTellsHowManyAreLeft() {
        is("13 of one", Runs.of("OP1900B10", "g1").undo(), 0);
        is("13 of two", Runs.of("OP1900B10", "g1 b1").undo(), 1);
        is("13 of 14", Runs.of("OP1900B10", "g1 g1 g1 g1 g1 g1 g1 g1 g1 g1 g1 g1 g1 g1").undo(), 13);
        is("13 of 15", Runs.of("OP1900B10", "g1 g1 g1 g1 g1 g1 g1 g1 g1 g1 g1 g1 g1 g1 g1").undo(), 13);
    }

    /** "STATE: there is none" */
    private static void undoNeedsAnAct() {
        is("13 none", new HatGoesRound().undo(), HatGoesRound.STATE);
        HatGoesRound x = Runs.of("OP1900B10", "g1");
        is("13 one", x.undo(), 0);
        is("13 none is left", x.undo(), HatGoesRound.STATE);
        is("13 nothing is less", x.count(4), 0);
    }

    private static void undoGivesBackAllThatWas() {
        String[] doings = {"b1", "g9", "p1", "r2", "e1", "b1 b1", "b1"};
        String before = "g3 b1 p0";
        for (String doing : doings) {
            HatGoesRound x = Runs.of("OP1400P2231P3110P1900B11B20B12", before + " " + doing);
            Runs.go(x, "u" + doing.split(" ").length);
            HatGoesRound y = Runs.of("OP1400P2231P3110P1900B11B20B12", before);
            DUE.same("13 undone: " + doing, Runs.everything(x), Runs.everything(y));
        }
    }

    private static void undoneActsMakeRoom() {
        HatGoesRound x = new HatGoesRound();
        for (int i = 0; i < 20; i++) {
            x.give(1);
        }
        x.undo();
        x.undo();
        is("13 18 in the hat", x.count(4), 18);
        x.give(5);
        is("13 13 acts", x.count(10), 13);
        x.give(5);
        x.give(5);
        is("13 14 acts", x.count(10), 14);
        for (int i = 0; i < 14; i++) {
            x.undo();
        }
        is("13 what the first one found", x.count(4), 7);
        is("13 none is left", x.undo(), HatGoesRound.STATE);
    }
}
