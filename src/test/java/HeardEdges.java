/** Promises 19 to 21 once more: every sentence that names an edge, by a test of its own, on both sides of it. */
public final class HeardEdges {
    private static final Due DUE = new Due("HeardEdges");

    public static void main(String[] args) {
        heardIsOfAPlayerThatThereIs();
        heardIsBehind0To9Bars();
        heardIsThatItPlayedOrNot();
        heardAre6AtMost();
        refusalsOfHearAreInOrder();
        unhearTellsHowMuchThereWas();
        paysIsAskedTwoThings();
        paysWithNothingHeard();
        paysNoSet();
        paysTheLeastSetFirst();
        paysOnlySetsOfWhoPlays();
        paysBehindNBars();
        paysBehindTheLastBar();
        paysAsTheConcertIsWhenAsked();
        paysLooksAtNothingOfPlayersThatAreGone();
        paysLooksAgainAtPlayersThatAreBack();
        DUE.end();
    }

    private static void is(String sentence, long got, long want) {
        DUE.is(sentence, got, want);
    }

    private static void pays(String sentence, HatGoesRound x, int many, int first) {
        is("21 how many, " + sentence, x.pays(0), many);
        is("21 the first, " + sentence, x.pays(1), first);
    }

    /** "UNKNOWN": there is no such PLAYER */
    private static void heardIsOfAPlayerThatThereIs() {
        String[] texts = {"OB10", "OP1900B10", "OP1900P1900B10", "OP1900P1900P1900P1900P1900P1900B10"};
        int[] players = {0, 1, 2, 6};
        for (int i = 0; i < texts.length; i++) {
            int[] numbers = {Integer.MIN_VALUE, -1, 0, players[i] - 1, players[i], 6, 32, Integer.MAX_VALUE};
            for (int player : numbers) {
                boolean isThere = player >= 0 && player < players[i];
                HatGoesRound x = Due.concert(texts[i]);
                is("19 hear of " + player, x.hear(player, 0, 0), isThere ? 1 : HatGoesRound.UNKNOWN);
                is("19 heard of " + player, x.count(11), isThere ? 1 : 0);
            }
        }
    }

    /** "behind n BARS (0 to 9)"; "OUTSIDE: n" */
    private static void heardIsBehind0To9Bars() {
        int[] numbers = {Integer.MIN_VALUE, -1, 0, 1, 8, 9, 10, 11, Integer.MAX_VALUE};
        for (int n : numbers) {
            HatGoesRound x = Due.concert("OP1900B10");
            is("19 behind " + n, x.hear(0, n, 0), n >= 0 && n <= 9 ? 1 : HatGoesRound.OUTSIDE);
        }
    }

    /** "a PLAYER PLAYED (1), or not (0)"; "OUTSIDE: ... plays (0, 1)" */
    private static void heardIsThatItPlayedOrNot() {
        int[] numbers = {Integer.MIN_VALUE, -1, 0, 1, 2, Integer.MAX_VALUE};
        for (int plays : numbers) {
            HatGoesRound x = Due.concert("OP1900B10");
            is("19 plays " + plays, x.hear(0, 0, plays), plays == 0 || plays == 1 ? 1 : HatGoesRound.OUTSIDE);
        }
    }

    /** "6 such at most, none at first"; "FULL: 6" */
    private static void heardAre6AtMost() {
        HatGoesRound x = Due.concert("OP1900B10");
        is("19 none at first", x.count(11), 0);
        for (int many = 1; many <= 6; many++) {
            is("19 the one " + many, x.hear(0, many, 1), many);
        }
        is("19 one more", x.hear(0, 0, 0), HatGoesRound.FULL);
        is("19 still six", x.count(11), 6);
        pays("the seventh is not heard", x, 1, 0);
        x.unhear();
        is("19 room again", x.hear(0, 0, 0), 1);
        // the sixth counts
        x = Due.concert("OP1900B10");
        for (int many = 1; many <= 5; many++) {
            x.hear(0, 0, 1);
        }
        pays("five", x, 1, 0);
        x.hear(0, 0, 0);
        pays("six", x, 0, HatGoesRound.NONE);
    }

    /** "of several the first that a call names": UNKNOWN, OUTSIDE, FULL */
    private static void refusalsOfHearAreInOrder() {
        HatGoesRound x = Due.concert("OP1900B10");
        is("19 UNKNOWN before OUTSIDE, n", x.hear(1, 10, 0), HatGoesRound.UNKNOWN);
        is("19 UNKNOWN before OUTSIDE, plays", x.hear(1, 0, 2), HatGoesRound.UNKNOWN);
        for (int many = 1; many <= 6; many++) {
            x.hear(0, 0, 1);
        }
        is("19 UNKNOWN before FULL", x.hear(1, 0, 0), HatGoesRound.UNKNOWN);
        is("19 UNKNOWN before both", x.hear(-1, -1, -1), HatGoesRound.UNKNOWN);
        is("19 OUTSIDE before FULL, n", x.hear(0, 10, 0), HatGoesRound.OUTSIDE);
        is("19 OUTSIDE before FULL, plays", x.hear(0, 0, 2), HatGoesRound.OUTSIDE);
        is("19 FULL", x.hear(0, 0, 0), HatGoesRound.FULL);
    }

    /** "Nothing is HEARD: how much there was" */
    private static void unhearTellsHowMuchThereWas() {
        for (int many = 0; many <= 6; many++) {
            HatGoesRound x = Due.concert("OP1900P1900B10");
            for (int i = 0; i < many; i++) {
                x.hear(0, 0, 0);
            }
            pays(many + " heard", x, many == 0 ? 4 : 2, many == 0 ? 0 : 1);
            is("20 unhear", x.unhear(), many);
            is("20 nothing", x.count(11), 0);
            pays("nothing is heard", x, 4, 0);
            is("20 unhear twice", x.unhear(), 0);
        }
    }

    /** "how many (what = 0 ...), the first (1 ...). OUTSIDE" */
    private static void paysIsAskedTwoThings() {
        HatGoesRound x = Due.concert("OP1900B10");
        int[] whats = {Integer.MIN_VALUE, -1, 0, 1, 2, Integer.MAX_VALUE};
        int[] due = {-2, -2, 2, 0, -2, -2};
        for (int i = 0; i < whats.length; i++) {
            is("21 what " + whats[i], x.pays(whats[i]), due[i]);
        }
    }

    /** Nothing is HEARD: each set of PLAYERS that PLAY will do, that of nobody first. */
    private static void paysWithNothingHeard() {
        pays("nothing", new HatGoesRound(), 1, 0);
        pays("nobody", Due.concert("OB10"), 1, 0);
        pays("one", Due.concert("OP1900B10"), 2, 0);
        pays("six", Due.concert("OP1900P1900P1900P1900P1900P1900B10"), 64, 0);
    }

    /** "(what = 0; 0, if none)"; "NONE: none" */
    private static void paysNoSet() {
        HatGoesRound x = Due.concert("OP1900P1900B10B10");
        x.hear(0, 1, 0);
        pays("one way round", x, 2, 1);
        x.hear(0, 0, 1);
        pays("no way round", x, 0, HatGoesRound.NONE);
        x = Due.concert("OP1900P1900B10B10");
        x.hear(0, 1, 1);
        x.hear(1, 1, 1);
        pays("only nobody", x, 1, 0);
    }

    /** "the first (bits, the least ...)" */
    private static void paysTheLeastSetFirst() {
        HatGoesRound x = Due.concert("OP1911P9910P1900B10B10");
        x.hear(0, 1, 0);
        pays("by number, not by price", x, 6, 1);
        x.hear(0, 0, 1);
        pays("the one that it looks to", x, 2, 2);
        x.hear(2, 1, 0);
        pays("and the third", x, 1, 6);
    }

    /** "some PLAYERS that PLAY being PAID first" */
    private static void paysOnlySetsOfWhoPlays() {
        String text = "OP1100P1900P1900B10B10";
        pays("all play", Due.concert(text), 8, 0);
        pays("one is tired", Runs.of(text, "b1"), 4, 0);
        pays("one is paid, too", Runs.of(text, "b1 g1 p1"), 2, 0);
        HatGoesRound x = Runs.of(text, "b1 g1 p1");
        x.hear(2, 0, 0);
        pays("only the third can be paid", x, 1, 4);
        x.hear(0, 0, 0);
        x.hear(1, 0, 0);
        pays("the others do not play", x, 1, 4);
        x.hear(0, 0, 1);
        pays("who is tired does not play", x, 0, HatGoesRound.NONE);
    }

    /** "behind n BARS (0 to 9)": each n is looked at when it comes, 0 at once, 9 at the last */
    private static void paysBehindNBars() {
        String text = "OP1900P1900B11B11B11B11";
        for (int n = 0; n <= 9; n++) {
            HatGoesRound x = Due.concert(text);
            x.hear(0, n, 1);
            pays("it played behind " + n, x, n < 9 ? 2 : 0, n < 9 ? 0 : HatGoesRound.NONE);
            x.unhear();
            x.hear(0, n, 0);
            pays("it did not play behind " + n, x, n < 9 ? 2 : 4, n < 9 ? 1 : 0);
        }
        for (int wind = 1; wind <= 9; wind++) {
            HatGoesRound x = Due.concert("OP1" + wind + "00B11B11B11B11");
            x.hear(0, wind - 1, 1);
            pays("its wind lasts so long", x, 1, 0);
            x.unhear();
            x.hear(0, wind, 1);
            pays("and no longer", x, 0, HatGoesRound.NONE);
        }
    }

    private static void paysBehindTheLastBar() {
        HatGoesRound x = Due.concert("OP1900P1100B10");
        x.hear(0, 9, 1);
        x.hear(1, 9, 0);
        pays("it is as the last bar left it", x, 2, 0);
        x.hear(1, 0, 1);
        pays("it was not ahead of it", x, 1, 0);
    }

    /** "in THE CONCERT as it is when that is asked (not when it was told)" */
    private static void paysAsTheConcertIsWhenAsked() {
        HatGoesRound x = Due.concert("OP1200P1900B10B10B10");
        x.hear(0, 1, 1);
        pays("when it was told", x, 2, 0);
        x.bar();
        pays("a bar later", x, 0, HatGoesRound.NONE);
        x.undo();
        pays("a bar undone", x, 2, 0);
        Runs.go(x, "g1 p1");
        pays("one is paid", x, 1, 0);
        Runs.go(x, "u1 k0 b2");
        pays("both bars are over", x, 0, HatGoesRound.NONE);
        Runs.go(x, "a0");
        pays("gone on from", x, 2, 0);
        x.unhear();
        Runs.go(x, "b2");
        x.hear(0, 0, 0);
        pays("told when it was tired", x, 2, 0);
        x.concert();
        pays("asked anew", x, 2, 1);
    }

    /** "(of PLAYERS that there are not any more nothing is looked at)" */
    private static void paysLooksAtNothingOfPlayersThatAreGone() {
        HatGoesRound x = Due.concert("OP1900P1900P1900B10");
        x.hear(2, 0, 1);
        x.hear(2, 0, 0);
        pays("it can not be", x, 0, HatGoesRound.NONE);
        Due.tell(x, "OP1900P1900B10").concert();
        is("21 heard still", x.count(11), 2);
        pays("the third is gone", x, 4, 0);
        x.hear(1, 0, 0);
        pays("the second is there", x, 2, 2);
        Due.tell(x, "OP1900B10").concert();
        pays("the second is gone", x, 2, 0);
        Due.tell(x, "O").concert();
        pays("all are gone", x, 1, 0);
        is("21 three are heard still", x.count(11), 3);
    }

    private static void paysLooksAgainAtPlayersThatAreBack() {
        HatGoesRound x = Due.concert("OP1900P1900B10");
        x.hear(1, 0, 0);
        Due.tell(x, "OP1900B10").concert();
        pays("gone", x, 2, 0);
        Due.tell(x, "OP1900P1900P1900B10").concert();
        pays("there again", x, 4, 2);
    }
}
