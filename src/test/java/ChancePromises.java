import java.math.BigInteger;

/** Promises 22 to 26: shares, two streets at rest, strings, the seed and its nights. */
public final class ChancePromises {
    private static final Due DUE = new Due("ChancePromises");

    public static void main(String[] args) {
        promise22();
        promise23();
        promise24();
        promise25();
        promise26();
        DUE.end();
    }

    private static void share(HatGoesRound x, int player, int above, int below) {
        DUE.is("22 share " + player + " above", x.share(player, true), above);
        DUE.is("22 share " + player + " below", x.share(player, false), below);
    }

    private static void promise22() {
        HatGoesRound x = Due.concert("OP1900P1900B30B40");
        share(x, 0, 7, 1);
        share(x, 1, 7, 1);
        x = Due.concert("OP1900P1910B30B40B50B50B50B50B90");
        share(x, 0, 39, 1);
        share(x, 1, 15, 1);
        x = Due.concert("OP1900P1910B30B50");
        share(x, 0, 21, 2);
        share(x, 1, 11, 2);
        x = Due.concert("OP1900P1910P1911B30B50");
        share(x, 0, 73, 6);
        share(x, 1, 43, 6);
        share(x, 2, 14, 3);
        // a drum that has not come never comes back
        x = Due.concert("OP1131P1900B30B30");
        share(x, 0, 9, 2);
        share(x, 1, 15, 2);
        // who is tired is so when it has come: a drum comes back by the one that it looks to
        x = Due.bars(Due.concert("OP1131P1132P1900B10B30B40"), 1);
        DUE.is("22 the first drum is tired", x.count(7), 1);
        share(x, 0, 2, 1);
        share(x, 1, 9, 1);
        share(x, 2, 7, 1);
        x.give(9);
        x.pay(2);
        share(x, 2, 0, 1);
        String was = Due.allOf(x);
        DUE.is("22 player 3", x.share(3, true), HatGoesRound.UNKNOWN);
        DUE.is("22 player -1", x.share(-1, false), HatGoesRound.UNKNOWN);
        DUE.is("22 player 3, below", x.share(3, false), HatGoesRound.UNKNOWN);
        DUE.same("22 nothing is changed", Due.allOf(x), was);
        x = Due.bars(Due.concert("OP1900P1100B30B40"), 2);
        share(x, 0, 0, 1);
        share(x, 1, 0, 1);
    }

    private static void promise23() {
        // by the price of silence: how many pairs are at rest, the first
        int[][] due = {{1, 2, 1}, {3, 2, 1}, {4, 3, 2}, {6, 3, 2}, {7, 3, 0}, {9, 3, 0}, {10, 2, 0}, {12, 2, 0},
            {13, 1, 0}, {18, 1, 0}};
        for (int[] row : due) {
            int one = Math.min(9, row[0]);
            int other = row[0] - one;
            String text = "OP" + one + "900" + (other > 0 ? "P" + other + "900" : "") + "B10B10B10B10";
            HatGoesRound x = Due.concert(text);
            DUE.is("23 how many, price " + row[0], x.rests(0), row[1]);
            DUE.is("23 the first, price " + row[0], x.rests(1), row[2]);
            DUE.is("23 nothing is changed", x.count(6) + x.count(10), 0);
            DUE.is("23 what 2", x.rests(2), HatGoesRound.OUTSIDE);
            DUE.is("23 what -1", x.rests(-1), HatGoesRound.OUTSIDE);
        }
        String[] silentInThree = {"O", "OP9900B10B10B10", "OP9300B10B10B10B10"};
        for (String text : silentInThree) {
            DUE.is("23 silent by itself", Due.concert(text).rests(0), 1);
            DUE.is("23 nobody gives", Due.concert(text).rests(1), 0);
        }
        DUE.is("23 not in three bars", Due.concert("OP9400B10B10B10B10").rests(0), 3);
        DUE.is("23 not in three bars, too", Due.concert("OP5400B10B10B10B10").rests(1), 2);
    }

    private static void strings(HatGoesRound x, int n, int tenths, int above, int below) {
        DUE.is("24 strings(" + n + ", " + tenths + ") above", x.strings(n, tenths, true), above);
        DUE.is("24 strings(" + n + ", " + tenths + ") below", x.strings(n, tenths, false), below);
    }

    private static void promise24() {
        HatGoesRound x = Due.concert("OP1900B10B10B10");
        strings(x, 1, 3, 3, 10);
        strings(x, 0, 5, 1, 2);
        strings(x, 2, 0, 0, 1);
        strings(x, 2, 10, 1, 1);
        strings(x, 3, 3, 1, 1);
        x = Due.concert("OP1900P1910B10B10B10");
        strings(x, 0, 3, 9, 100);
        strings(x, 1, 3, 3, 10);
        strings(x, 0, 5, 1, 4);
        // a torn drum comes back, with its wind or without
        x = Due.concert("OP1931P1900B10B10B10B10");
        strings(x, 1, 2, 1, 25);
        x = Due.concert("OP1920P1920P1900B10B10B10B10");
        strings(x, 0, 1, 1, 1000);
        strings(x, 1, 1, 1, 10);
        x = Due.concert("OP1900P1900P1900P1900P1900P1900B10B10");
        strings(x, 1, 1, 1, 1000000);
        strings(x, 1, 7, 117649, 1000000);
        x.give(9);
        x.pay(5);
        strings(x, 1, 1, 1, 100000);
        strings(new HatGoesRound(), 0, 0, 1, 1);
        strings(new HatGoesRound(), 9, 10, 1, 1);
        String was = Due.allOf(x);
        int[][] outside = {{-1, 0}, {10, 0}, {0, -1}, {0, 11}};
        for (int[] row : outside) {
            DUE.is("24 outside", x.strings(row[0], row[1], true), HatGoesRound.OUTSIDE);
            DUE.is("24 outside", x.strings(row[0], row[1], false), HatGoesRound.OUTSIDE);
        }
        DUE.same("24 nothing is changed", Due.allOf(x), was);
    }

    private static void promise25() {
        HatGoesRound x = new HatGoesRound();
        DUE.is("25 at first", x.seed(Long.MIN_VALUE), 0);
        DUE.is("25 what it was", x.seed(-5), Long.MIN_VALUE);
        DUE.is("25 what it was then", x.seed(5), -5);
        DUE.is("25 no act", x.count(10), 0);
    }

    private static long next(long seed) {
        return BigInteger.valueOf(seed).multiply(new BigInteger("6364136223846793005"))
            .add(new BigInteger("1442695040888963407")).longValue();
    }

    private static int draw(long seed) {
        return BigInteger.valueOf(seed).and(BigInteger.ONE.shiftLeft(64).subtract(BigInteger.ONE)).shiftRight(33)
            .mod(BigInteger.valueOf(26)).intValue();
    }

    private static void doDrawn(HatGoesRound x, int drawn) {
        if (drawn <= 5) {
            x.pay(drawn);
        } else if (drawn <= 11) {
            x.rest(drawn - 6);
        } else if (drawn <= 14) {
            x.give(drawn - 11);
        } else if (drawn == 15) {
            x.encore();
        } else {
            x.bar();
        }
    }

    private static void promise26() {
        nightsAsPlayed("OP3300P2100P5231P4910P1130P2200B31B51B11B21B10", 63);
        nightsAsPlayed("OP3300P2100P5231P4900P9900B30B50", 31);
        nightsAsPlayed("OP3300P2900", 3);
        HatGoesRound x = new HatGoesRound();
        x.seed(9);
        int[] outside = {0, -1, 31, Integer.MAX_VALUE};
        for (int m : outside) {
            DUE.is("26 nights(" + m + ")", x.nights(m), HatGoesRound.OUTSIDE);
        }
        DUE.is("26 the seed is left", x.seed(0), 9);
    }

    private static void nightsAsPlayed(String text, int all) {
        for (int run = 0; run < 200; run++) {
            HatGoesRound asked = Due.concert(text);
            HatGoesRound played = Due.concert(text);
            long seed = run * 1234567890123456789L;
            asked.seed(seed);
            asked.give(3);
            played.give(3);
            int m = 30 - run * 7 % 30;
            int together = 0;
            for (int i = 0; i < m; i++) {
                seed = next(seed);
                doDrawn(played, draw(seed));
                together += Integer.bitCount(played.count(5));
            }
            DUE.is("26 nights(" + m + ")", asked.nights(m), together);
            DUE.is("26 the hat stays", asked.count(4), 3);
            DUE.is("26 the time stays", asked.count(3), 0);
            DUE.is("26 all play", asked.count(5), all);
            DUE.is("26 one act", asked.count(10), 1);
            DUE.is("26 the seed", asked.seed(0), seed);
        }
    }
}
