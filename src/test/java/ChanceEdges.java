import java.math.BigInteger;
import java.util.Arrays;

/** Promises 22 to 26 once more: every sentence that names an edge, by a test of its own, on both sides of it. */
public final class ChanceEdges {
    private static final Due DUE = new Due("ChanceEdges");
    private static final BigInteger TWO_TO_64 = BigInteger.ONE.shiftLeft(64);

    public static void main(String[] args) {
        shareIsOfAPlayerThatThereIs();
        shareIsOfNoiseIn6Bars();
        shareIsInLeastTerms();
        shareOfNothing();
        shareOfOthersThatNeverPlay();
        shareOfWhoHasComeAsItIs();
        restsAreAskedTwoThings();
        restsByAsMuchAsHushTells();
        restsSetTheHatAside();
        restsAreBehind3Bars();
        restsWhenItIsSilentAnyway();
        stringsAreIn0To9Bars();
        stringsTearBy0To10Tenths();
        stringsAreAFractionInLeastTerms();
        stringsWithoutAnyThatPlays();
        stringsTearOnlyWhoPlays();
        seedIsALong();
        nightsAre1To30();
        nightsWrapIn64Bits();
        nightsTakeTheUpper31Bits();
        nightsDrawEachOf26();
        nightsDoOnlyWhatCanBe();
        nightsCountHowManyPlayEachTime();
        nightsChangeOnlyTheSeed();
        DUE.end();
    }

    private static void is(String sentence, long got, long want) {
        DUE.is(sentence, got, want);
    }

    private static void share(String text, String doings, int player, int above, int below) {
        HatGoesRound x = Runs.of(text, doings);
        is("22 above, " + player + " of " + text + " " + doings, x.share(player, true), above);
        is("22 below, " + player + " of " + text + " " + doings, x.share(player, false), below);
    }

    /** "UNKNOWN", of both parts of the FRACTION */
    private static void shareIsOfAPlayerThatThereIs() {
        String[] texts = {"O", "OP1900B10", "OP1900P1900B10", "OP1900P1900P1900P1900P1900P1900B10"};
        int[] players = {0, 1, 2, 6};
        for (int i = 0; i < texts.length; i++) {
            HatGoesRound x = Due.concert(texts[i]);
            int[] numbers = {Integer.MIN_VALUE, -1, 0, players[i] - 1, players[i], 6, 32, Integer.MAX_VALUE};
            for (int player : numbers) {
                boolean isThere = player >= 0 && player < players[i];
                is("22 above, " + player, x.share(player, true), isThere ? 1 : HatGoesRound.UNKNOWN);
                is("22 below, " + player, x.share(player, false), isThere ? 1 : HatGoesRound.UNKNOWN);
            }
        }
    }

    /** "NOISE that comes in 6 BARS" */
    private static void shareIsOfNoiseIn6Bars() {
        share("OP1900B10B10B10B10B10B00", "", 0, 5, 1);
        share("OP1900B10B10B10B10B10B10", "", 0, 6, 1);
        share("OP1900B10B10B10B10B10B10B10", "", 0, 6, 1);
        share("OP1900B00B00B00B00B00B70B90", "", 0, 7, 1);
        share("OP1900B00B00B00B00B00B00B90", "", 0, 0, 1);
        share("OP1900B00B00B00B00B00B00B90", "b1", 0, 9, 1);
        share("OP1500B10B10B10B10B10B10", "", 0, 5, 1);
    }

    /** "in least terms"; "below (1 and more)" */
    private static void shareIsInLeastTerms() {
        // alone 8 for the first and 3 for the leaner, both 16: (8 + 13) / 2 and (3 + 8) / 2
        share("OP1900P1910B30B50", "", 0, 21, 2);
        share("OP1900P1910B30B50", "", 1, 11, 2);
        // 6 and 2, both 12: (6 + 10) / 2 and (2 + 6) / 2
        share("OP1900P1910B20B40", "", 0, 8, 1);
        share("OP1900P1910B20B40", "", 1, 4, 1);
        share("OP1900P1900P1900P1900P1900P1900B90", "", 5, 9, 1);
    }

    /** What is not more by it: 0 by 1. */
    private static void shareOfNothing() {
        share("OP1900P1900", "", 0, 0, 1);
        share("OP1900B00", "", 0, 0, 1);
        share("OP1900B90", "b1", 0, 0, 1);
        share("OP1900P1900B90", "g1 p0", 0, 0, 1);
        share("OP1100P1900B90B90", "b1", 0, 0, 1);
        share("OP1100P1900B90B90", "b1", 1, 9, 1);
    }

    /** "(others do not PLAY, and never again ...)" */
    private static void shareOfOthersThatNeverPlay() {
        // the drum comes back only when it has come: alone 3, 6 for the other, both 12
        share("OP1131P1900B30B30", "", 0, 9, 2);
        share("OP1131P1900B30B30", "", 1, 15, 2);
        // a leaner beside one that has not come is tired behind its first bar: alone 3, 6 for the other, both 12
        share("OP1911P1900B30B30", "", 0, 9, 2);
        share("OP1911P1900B30B30", "", 1, 15, 2);
    }

    /** "(... who has come is as it is now)" */
    private static void shareOfWhoHasComeAsItIs() {
        share("OP1100P1900B10B50B50", "", 0, 1, 1);
        share("OP1200P1900B10B50B50", "b1", 0, 5, 1);
        share("OP1200P1900B10B50B50", "b2", 0, 0, 1);
        share("OP1200P1900B10B50B50", "b2 r0", 0, 5, 1);
        share("OP1200P1900B10B50B50", "g1 p0", 0, 0, 1);
        share("OP1200P1900B10B50B50", "b2", 1, 5, 1);
    }

    private static void rests(String text, String doings, int many, int first) {
        HatGoesRound x = Runs.of(text, doings);
        is("23 how many, " + text + " " + doings, x.rests(0), many);
        is("23 the first, " + text + " " + doings, x.rests(1), first);
    }

    /** "how many (what = 0 ...), the first (1 ...). OUTSIDE" */
    private static void restsAreAskedTwoThings() {
        HatGoesRound x = Due.concert("OP5900B10B10B10B10");
        int[] whats = {Integer.MIN_VALUE, -1, 0, 1, 2, Integer.MAX_VALUE};
        int[] due = {-2, -2, 3, 2, -2, -2};
        for (int i = 0; i < whats.length; i++) {
            is("23 what " + whats[i], x.rests(whats[i]), due[i]);
        }
    }

    /** "as much as HUSH in 3 BARS tells, or more": 3, 6, 9, 12 are just as much; then one more is too much */
    private static void restsByAsMuchAsHushTells() {
        int[][] prices = {{1, 0}, {2, 0}, {3, 0}, {4, 0}, {5, 0}, {6, 0}, {7, 0}, {8, 0}, {9, 0}, {9, 1}, {9, 2}, {9, 3},
            {9, 4}, {9, 9}};
        int[] many = {2, 2, 2, 3, 3, 3, 3, 3, 3, 2, 2, 2, 1, 1};
        int[] first = {1, 1, 1, 2, 2, 2, 0, 0, 0, 0, 0, 0, 0, 0};
        for (int i = 0; i < prices.length; i++) {
            String other = prices[i][1] > 0 ? "P" + prices[i][1] + "900" : "";
            rests("OP" + prices[i][0] + "900" + other + "B10B10B10B10", "", many[i], first[i]);
        }
    }

    /** "(whatever THE HAT has)" */
    private static void restsSetTheHatAside() {
        rests("OP5900B10B10B10B10", "", 3, 2);
        rests("OP5900B10B10B10B10", "g4", 3, 2);
        rests("OP5900B10B10B10B10", "g5", 3, 2);
        rests("OP5900B10B10B10B10", "g9 g9", 3, 2);
    }

    /** "if it is SILENT behind 3 BARS then" */
    private static void restsAreBehind3Bars() {
        rests("OP5200B10B10B10B10", "", 1, 0);
        rests("OP5300B10B10B10B10", "", 1, 0);
        rests("OP5400B10B10B10B10", "", 3, 2);
        rests("OP5900B10B10B10", "", 1, 0);
        rests("OP5900B10B10B10B10", "", 3, 2);
        rests("OP5900B10B10B10B10", "b1", 1, 0);
    }

    /** HUSH tells 0: nobody gives. */
    private static void restsWhenItIsSilentAnyway() {
        rests("O", "", 1, 0);
        rests("OP5900", "", 1, 0);
        rests("OP5900B10", "b1", 1, 0);
        rests("OP5900B10B10B10B10", "g5 p0", 1, 0);
    }

    private static void strings(String text, String doings, int n, int x, int above, int below) {
        HatGoesRound hat = Runs.of(text, doings);
        is("24 above, " + text + " " + doings + " " + n + " " + x, hat.strings(n, x, true), above);
        is("24 below, " + text + " " + doings + " " + n + " " + x, hat.strings(n, x, false), below);
    }

    /** "in n BARS (0 to 9)"; "OUTSIDE: n", of both parts */
    private static void stringsAreIn0To9Bars() {
        String text = "OP1900B11B11B11B11";
        int[] outside = {Integer.MIN_VALUE, -1, 10, 11, Integer.MAX_VALUE};
        for (int n : outside) {
            strings(text, "", n, 5, HatGoesRound.OUTSIDE, HatGoesRound.OUTSIDE);
        }
        for (int n = 0; n <= 9; n++) {
            strings(text, "", n, 5, 1, n < 9 ? 2 : 1);
        }
    }

    /** "by x tenths (0 to 10)"; "OUTSIDE: ... x", of both parts */
    private static void stringsTearBy0To10Tenths() {
        String text = "OP1900B10B10";
        int[] outside = {Integer.MIN_VALUE, -1, 11, 12, Integer.MAX_VALUE};
        for (int x : outside) {
            strings(text, "", 0, x, HatGoesRound.OUTSIDE, HatGoesRound.OUTSIDE);
        }
        int[] above = {0, 1, 1, 3, 2, 1, 3, 7, 4, 9, 1};
        int[] below = {1, 10, 5, 10, 5, 2, 5, 10, 5, 10, 1};
        for (int x = 0; x <= 10; x++) {
            strings(text, "", 0, x, above[x], below[x]);
        }
    }

    /** "a FRACTION"; "in least terms" */
    private static void stringsAreAFractionInLeastTerms() {
        strings("OP1900P1900B10B10", "", 0, 5, 1, 4);
        strings("OP1900P1900B10B10", "", 0, 3, 9, 100);
        strings("OP1900P1910B10B10", "", 1, 3, 3, 10);
        strings("OP1900P1900P1900P1900P1900P1900B10B10", "", 0, 1, 1, 1000000);
        strings("OP1900P1900P1900P1900P1900P1900B10B10", "", 0, 9, 531441, 1000000);
        strings("OP1900P1900P1900P1900P1900P1900B10B10", "", 0, 10, 1, 1);
        strings("OP1900P1900P1900P1900P1900P1900B10B10", "", 0, 0, 0, 1);
    }

    /** "(without any that PLAYS: 1 by 1)" */
    private static void stringsWithoutAnyThatPlays() {
        for (int x = 0; x <= 10; x += 5) {
            strings("O", "", 0, x, 1, 1);
            strings("OB10", "", 9, x, 1, 1);
            strings("OP1100B10B10", "b1", 0, x, 1, 1);
            strings("OP1900B10B10", "g1 p0", 0, x, 1, 1);
        }
        strings("OP1100B10B10", "b1 r0", 0, 5, 1, 2);
    }

    /** "each PLAYER that PLAYS": who is tired or paid has no string that tears */
    private static void stringsTearOnlyWhoPlays() {
        strings("OP1900P1900P1100B10B10", "", 0, 1, 1, 1000);
        strings("OP1900P1900P1100B10B10", "b1", 0, 1, 1, 100);
        strings("OP1900P1900P1100B10B10", "b1 g1 p0", 0, 1, 1, 10);
        // silent anyhow
        strings("OP1900B10B10", "b2", 0, 0, 1, 1);
        strings("OP1900", "", 0, 0, 1, 1);
    }

    /** "THE SEED, a long; 0 at first": "what it was" */
    private static void seedIsALong() {
        HatGoesRound x = new HatGoesRound();
        long[] seeds = {Long.MIN_VALUE, Long.MAX_VALUE, -1, 0, 1, 1L << 32, Integer.MIN_VALUE};
        long was = 0;
        for (long seed : seeds) {
            is("25 what it was", x.seed(seed), was);
            was = seed;
        }
    }

    /** "m times (1 to 30)"; "OUTSIDE: m" */
    private static void nightsAre1To30() {
        int[] outside = {Integer.MIN_VALUE, -1, 0, 31, 32, Integer.MAX_VALUE};
        for (int m : outside) {
            HatGoesRound x = Due.concert("OP1900B10");
            x.seed(5);
            is("26 nights(" + m + ")", x.nights(m), HatGoesRound.OUTSIDE);
            is("26 the seed is left", x.seed(0), 5);
        }
        long seed = 5;
        for (int m = 1; m <= 30; m++) {
            seed = next(seed);
            HatGoesRound x = Due.concert("OP9900");
            x.seed(5);
            is("26 nights(" + m + ")", x.nights(m), m);
            is("26 the seed, m times", x.seed(0), seed);
        }
    }

    /** What THE SEED becomes, reckoned without any wrapping. */
    private static long next(long seed) {
        BigInteger all = BigInteger.valueOf(seed).multiply(new BigInteger("6364136223846793005"))
            .add(new BigInteger("1442695040888963407")).mod(TWO_TO_64);
        return all.testBit(63) ? all.subtract(TWO_TO_64).longValueExact() : all.longValueExact();
    }

    private static int drawn(long seed) {
        return BigInteger.valueOf(seed).mod(TWO_TO_64).divide(BigInteger.ONE.shiftLeft(33))
            .mod(BigInteger.valueOf(26)).intValueExact();
    }

    /** "becomes x times 6364136223846793005 and 1442695040888963407 (64 bits, wrapping)" */
    private static void nightsWrapIn64Bits() {
        HatGoesRound first = new HatGoesRound();
        first.nights(1);
        is("26 from 0", first.seed(0), 1442695040888963407L);
        long[] seeds = {1, -1, 2, -2, Long.MAX_VALUE, Long.MIN_VALUE, Long.MAX_VALUE - 1, 1L << 62, 1L << 33, 1L << 32};
        for (long seed : seeds) {
            HatGoesRound x = new HatGoesRound();
            x.seed(seed);
            x.nights(1);
            is("26 from " + seed, x.seed(0), next(seed));
        }
    }

    /** "its upper 31 bits": also of an x below 0, which has a 1 as the highest */
    private static void nightsTakeTheUpper31Bits() {
        int below = 0;
        int above = 0;
        for (long seed = 0; seed < 300; seed++) {
            HatGoesRound x = Runs.of("OP1100P1900B10B10B10B10", "b1");
            x.seed(seed);
            int drawn = drawn(next(seed));
            // player 0 is tired: only its rest is one more
            is("26 from " + seed + " " + drawn, x.nights(1), drawn == 6 ? 2 : 1);
            below += drawn == 6 && next(seed) < 0 ? 1 : 0;
            above += drawn == 6 && next(seed) >= 0 ? 1 : 0;
        }
        is("26 drawn below 0", below > 0 ? 1 : 0, 1);
        is("26 drawn above 0", above > 0 ? 1 : 0, 1);
    }

    /** The least seed by which these are drawn, one behind the other. */
    private static long seedOf(int... draws) {
        for (long seed = 0; seed < 1000000; seed++) {
            long x = seed;
            int i = 0;
            while (i < draws.length) {
                x = next(x);
                if (drawn(x) != draws[i]) {
                    break;
                }
                i++;
            }
            if (i == draws.length) {
                return seed;
            }
        }
        throw new IllegalStateException("no such seed");
    }

    private static void nights(String text, String doings, int want, int... draws) {
        HatGoesRound x = Runs.of(text, doings);
        x.seed(seedOf(draws));
        DUE.is("26 " + text + " " + doings + " by " + Arrays.toString(draws), x.nights(draws.length), want);
    }

    /** "0 to 5 that PLAYER is PAID, 6 to 11 that less 6 PLAYER is RESTED, 12 to 14 ... GIVEN, 15 AGAIN, 16 ... A BAR" */
    private static void nightsDrawEachOf26() {
        String six = "OP1900P2900P3900P4900P5900P6900B10B10";
        for (int player = 0; player <= 5; player++) {
            nights(six, "g" + (player + 1), 5, player);
            nights(six, player == 0 ? "" : "g" + player, 6, player);
            nights("OP1100P1100P1100P1100P1100P1100B10B10", "b1", 1, 6 + player);
            // when all but one are paid, only that one can be paid, or rest
            StringBuilder others = new StringBuilder("g9 ");
            for (int other = 0; other <= 5; other++) {
                others.append(other == player ? "" : "p" + other + " ");
            }
            for (int drawn = 0; drawn <= 11; drawn++) {
                nights("OP1100P1100P1100P1100P1100P1100B10B10", others.toString(), drawn == player ? 0 : 1, drawn);
                nights("OP1100P1100P1100P1100P1100P1100B10B10", others + "b1", drawn == 6 + player ? 1 : 0, drawn);
            }
        }
        for (int given = 1; given <= 3; given++) {
            for (int price = 1; price <= 4; price++) {
                nights("OP" + price + "900B10", "", price <= given ? 1 : 2, 11 + given, 0);
            }
        }
        for (int drawn = 12; drawn <= 25; drawn++) {
            nights("OP1100B10B10", "", drawn >= 16 ? 0 : 1, drawn);
        }
        // it is over, and from the first bar on again
        for (int drawn = 12; drawn <= 25; drawn++) {
            nights("OP1200B10", "b1", drawn == 15 ? 1 : 2, drawn, 16);
        }
    }

    /** "each if it can be" */
    private static void nightsDoOnlyWhatCanBe() {
        nights("OP1900B10", "", 1, 0);
        nights("OP1900B10", "g1", 0, 0);
        nights("OP1900B10", "g1", 1, 1);
        nights("OP1900B10", "g1", 1, 6);
        nights("OP1000P1900B10", "b1", 1, 6);
        nights("OP1100P1900B10", "b1", 2, 6);
        nights("OP1100P1900B10", "g1 p0 b1", 1, 6);
        nights("OP1900", "", 1, 15);
        nights("OP1900", "", 1, 16);
        nights("OP1100B10", "", 0, 16);
        nights("OP1200B10", "b1", 1, 16);
    }

    /** "how many PLAY, each time, together" */
    private static void nightsCountHowManyPlayEachTime() {
        nights("OP1100P1200P1300B10B10B10", "", 2, 16);
        nights("OP1100P1200P1300B10B10B10", "", 2 + 1, 16, 25);
        nights("OP1100P1200P1300B10B10B10", "", 2 + 1 + 0, 20, 20, 20);
        nights("OP1100P1200P1300B10B10B10", "", 3 + 3 + 2, 12, 13, 16);
        nights("OP1100P1200P1300B10B10B10", "", 2 + 3 + 1, 16, 6, 16);
    }

    /** "(Nothing changes but THE SEED.)" */
    private static void nightsChangeOnlyTheSeed() {
        String text = "OP3300P2100P5231P4910P1130P2200B31B51B11B21B10";
        for (long seed = 1; seed <= 20; seed++) {
            HatGoesRound x = Runs.of(text, "g9 k0 b2 p0");
            HatGoesRound y = Runs.of(text, "g9 k0 b2 p0");
            x.seed(seed);
            x.nights(30);
            long then = seed;
            for (int i = 0; i < 30; i++) {
                then = next(then);
            }
            y.seed(then);
            DUE.same("26 from " + seed, Runs.everything(x), Runs.everything(y));
        }
    }
}
