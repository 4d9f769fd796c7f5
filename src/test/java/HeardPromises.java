/** Promises 19 to 21: what is heard, and who can have been paid by it. */
public final class HeardPromises {
    private static final Due DUE = new Due("HeardPromises");

    public static void main(String[] args) {
        promise19();
        promise20();
        promise21();
        DUE.end();
    }

    private static void promise19() {
        HatGoesRound x = Due.concert("OP1900P1900B10");
        DUE.is("19 player 2", x.hear(2, 0, 0), HatGoesRound.UNKNOWN);
        DUE.is("19 player -1", x.hear(-1, 10, 2), HatGoesRound.UNKNOWN);
        int[][] outside = {{0, -1, 0}, {0, 10, 0}, {0, 0, -1}, {1, 9, 2}};
        for (int[] row : outside) {
            DUE.is("19 outside", x.hear(row[0], row[1], row[2]), HatGoesRound.OUTSIDE);
        }
        DUE.is("19 nothing is heard", x.count(11), 0);
        for (int many = 1; many <= 6; many++) {
            DUE.is("19 hear", x.hear(many % 2, many + 3, many / 2 % 2), many);
        }
        DUE.is("19 full", x.hear(0, 0, 0), HatGoesRound.FULL);
        DUE.is("19 first unknown", x.hear(2, 0, 0), HatGoesRound.UNKNOWN);
        DUE.is("19 first outside", x.hear(0, 10, 0), HatGoesRound.OUTSIDE);
        DUE.is("19 six", x.count(11), 6);
        DUE.is("19 no act", x.count(10), 0);
    }

    private static void promise20() {
        HatGoesRound x = Due.concert("OP1900P1900B10");
        DUE.is("20 none", x.unhear(), 0);
        x.hear(0, 0, 0);
        x.hear(1, 0, 0);
        DUE.is("20 pays", x.pays(0), 1);
        DUE.is("20 two", x.unhear(), 2);
        DUE.is("20 none is left", x.unhear(), 0);
        DUE.is("20 count", x.count(11), 0);
        DUE.is("20 pays then", x.pays(0), 4);
        DUE.is("20 hear", x.hear(0, 0, 1), 1);
    }

    private static void pays(HatGoesRound x, int many, int first) {
        DUE.is("21 how many", x.pays(0), many);
        DUE.is("21 the first", x.pays(1), first);
    }

    private static void promise21() {
        HatGoesRound x = Due.concert("OP5900P5910P5100P5132B10B10B10B10B10B10B10B10");
        pays(x, 16, 0);
        x.hear(1, 1, 0);
        pays(x, 12, 1);
        x.hear(0, 0, 1);
        pays(x, 4, 2);
        x.hear(2, 0, 0);
        pays(x, 2, 6);
        x.hear(3, 0, 1);
        pays(x, 1, 6);
        x.hear(3, 9, 1);
        pays(x, 0, HatGoesRound.NONE);
        DUE.is("21 nothing is changed", x.count(5) + x.count(6) + x.count(3), 15);
        DUE.is("21 what 2", x.pays(2), HatGoesRound.OUTSIDE);
        DUE.is("21 what -1", x.pays(-1), HatGoesRound.OUTSIDE);
        // what was heard stays for the next concert; of players that are gone nothing is looked at
        Due.tell(x, "OP1900P1910B10").concert();
        DUE.is("21 heard stays", x.count(11), 5);
        pays(x, 1, 2);
        Due.tell(x, "O").concert();
        pays(x, 1, 0);
        // it is asked of the concert as it is now
        x = Due.concert("OP1300P1910B10B10B10B10");
        x.hear(1, 2, 0);
        pays(x, 3, 1);
        Due.bars(x, 1);
        pays(x, 4, 0);
        x.undo();
        x.give(9);
        x.pay(0);
        pays(x, 2, 0);
        x.unhear();
        x.hear(0, 0, 1);
        pays(x, 0, HatGoesRound.NONE);
        // behind the last bar it is as it was behind that one
        x = Due.concert("OP1900B10");
        x.hear(0, 9, 1);
        pays(x, 1, 0);
    }
}
