/** Promises 14 to 18: what asks of bars to come, and changes nothing. */
public final class BarsToCome {
    private static final Due DUE = new Due("BarsToCome");
    /** Two drums that bring each other back for ever, and 44 bars. */
    private static final String LONG = "OP1131P1230B11B11B11B11B11B11B11B11";

    public static void main(String[] args) {
        promise14();
        promise15();
        promise16();
        promise17();
        promise18Answers();
        promise18Refusals();
        DUE.end();
    }

    private static void promise14() {
        String[] texts = {LONG, "OP1300P1910P1131B10B22B90B41", "OP1920P1400P1311B50B10B91", "O", "OP1900", "OB10"};
        for (String text : texts) {
            HatGoesRound played = Due.concert(text);
            HatGoesRound asked = Due.concert(text);
            for (int n = 0; n <= 30; n++) {
                DUE.is("14 " + text + " who in " + n, asked.later(n, 0), played.count(5));
                DUE.is("14 " + text + " what in " + n, asked.later(n, 1), played.count(8));
                played.bar();
            }
            DUE.is("14 nothing is changed", asked.count(3) + asked.count(10), 0);
        }
        HatGoesRound x = Due.concert("OP1100P1900B10B10");
        DUE.is("14 over: who plays", x.later(30, 0), 2);
        DUE.is("14 over: none comes", x.later(2, 1), HatGoesRound.NONE);
        DUE.is("14 in 1 bar", x.later(1, 1), 1);
        int[][] outside = {{-1, 0}, {31, 0}, {0, 2}, {0, -1}, {31, 2}};
        for (int[] row : outside) {
            DUE.is("14 later(" + row[0] + ", " + row[1] + ")", x.later(row[0], row[1]), HatGoesRound.OUTSIDE);
        }
    }

    private static void promise15() {
        DUE.is("15 nobody", new HatGoesRound().stops(), 0);
        DUE.is("15 no bars", Due.concert("OP1900").stops(), 0);
        DUE.is("15 nobody plays", Due.concert("OB10B10").stops(), 0);
        DUE.is("15 by wind", Due.concert("OP1300P1200B10B10B10B10").stops(), 3);
        DUE.is("15 by bars", Due.concert("OP1300P1900B10B11").stops(), 4);
        HatGoesRound x = Due.concert(LONG);
        for (int played = 0; played < 44; played++) {
            DUE.is("15 after " + played, x.stops(), 44 - played > 30 ? HatGoesRound.NONE : 44 - played);
            x.bar();
        }
        DUE.is("15 over", x.stops(), 0);
        DUE.is("15 the time", x.count(3), 44);
    }

    private static void hush(String text, int n, int price, int set) {
        HatGoesRound x = Due.concert(text);
        DUE.is("16 " + text + " how much in " + n, x.hush(n, 0), price);
        DUE.is("16 " + text + " who in " + n, x.hush(n, 1), set);
    }

    private static void promise16() {
        hush("OP3900P2900P5900B10B10", 0, 10, 7);
        hush("OP3900P2900P5900B10B10", 1, 10, 7);
        hush("OP3900P2900P5900B10B10", 2, 0, 0);
        hush("OP3100P2900P5900B10B10", 1, 7, 6);
        hush("OP1900P9910B10B10", 0, 10, 3);
        hush("OP1900P9910B10B10", 1, 1, 1);
        hush("O", 9, 0, 0);
        // one bass whom two lean on: of like sums the fewest are paid
        hush("OP1912P1912P2920B10B10", 1, 2, 4);
        hush("OP1912P1912P3920B10B10", 1, 2, 3);
        hush("OP1912P2912P2920B10B10", 1, 2, 4);
        // two that lean on each other: of like ones the least
        hush("OP2911P2910B10B10", 1, 2, 1);
        hush("OP3911P2910B10B10", 1, 2, 2);
        hush("OP9900P2912P2911B10B10B10", 1, 11, 3);
        // a drum comes back, unless the one that it looks to is paid
        hush("OP4131P3200B10B10B10B10B10B10", 2, 3, 2);
        hush("OP2131P3200B10B10B10B10B10B10", 2, 2, 1);
        hush("OP2131P3200B10B10B10B10B10B10", 1, 3, 2);
        hush("OP4131P3900B10B10B10B10B10B10", 5, 3, 2);
        hush("OP4931P3900B10B10B10B10B10B10", 5, 7, 3);
        hush("OP4931P3900B10B10B10B10B10B10B10B10", 8, 0, 0);
        hush("OP4831P3900B11B11B11B10B10B10B10B10", 9, 3, 2);
        HatGoesRound x = Due.bars(Due.concert("OP3100P2900B10B10B10"), 1);
        DUE.is("16 who is tired is not paid", x.hush(0, 1), 2);
        String was = Due.allOf(x);
        int[][] outside = {{-1, 0}, {10, 0}, {0, -1}, {0, 2}};
        for (int[] row : outside) {
            DUE.is("16 hush(" + row[0] + ", " + row[1] + ")", x.hush(row[0], row[1]), HatGoesRound.OUTSIDE);
        }
        x.hush(9, 0);
        DUE.same("16 nothing is changed", Due.allOf(x), was);
    }

    private static void loud(HatGoesRound x, int n, int who, int noise) {
        DUE.is("17 who in " + n, x.loud(n, 0), who);
        DUE.is("17 how much in " + n, x.loud(n, 1), noise);
    }

    private static void promise17() {
        HatGoesRound x = Due.concert("OP1200P1900B30B40B50");
        loud(x, 1, 6, 6);
        loud(x, 2, 6, 14);
        loud(x, 3, 6, 19);
        loud(x, 12, 6, 19);
        Due.bars(x, 2);
        loud(x, 1, 0, 10);
        x = Due.bars(Due.concert("OP1000P1900B10B30"), 1);
        loud(x, 1, 6, 3);
        x = Due.bars(Due.concert("OP1100P1100P1900B10B30B40"), 1);
        loud(x, 2, 0, 10);
        x = Due.bars(Due.concert("OP1100P1200P1900B10B30B40"), 2);
        loud(x, 1, 0, 8);
        x = Due.bars(Due.concert("OP1100P1200P1900B10B10B30B40"), 2);
        loud(x, 2, 1, 14);
        x = Due.bars(Due.concert("OP1100P1100P1900B10B00"), 1);
        loud(x, 3, 0, 0);
        x = Due.bars(Due.concert("OP1100P1200P1900B10"), 1);
        loud(x, 3, 0, 0);
        loud(new HatGoesRound(), 1, 6, 0);
        x = Due.concert("OP1900P1000B10B90");
        x.give(9);
        x.pay(0);
        x.bar();
        loud(x, 1, 6, 0);
        loud(Due.concert("OP1900P1900B11B21B31B41B51B61"), 12, 6, 32);
        loud(Due.concert("OP1131P1230B11B21B31B41B51B61"), 11, 6, 42);
        loud(Due.concert("OP1131P1230B11B21B31B41B51B61"), 12, 6, 46);
        String was = Due.allOf(x);
        int[][] outside = {{0, 0}, {13, 0}, {-1, 1}, {1, -1}, {1, 2}};
        for (int[] row : outside) {
            DUE.is("17 loud(" + row[0] + ", " + row[1] + ")", x.loud(row[0], row[1]), HatGoesRound.OUTSIDE);
        }
        DUE.same("17 nothing is changed", Due.allOf(x), was);
    }

    private static void judged(String text, int gifts, int n, long row, int want) {
        HatGoesRound x = Due.concert(text);
        for (int i = 0; i < gifts; i++) {
            x.give(9);
        }
        String was = Due.allOf(x);
        DUE.is("18 judge(" + n + ", " + row + ")", x.judge(n, row), want);
        DUE.same("18 judge(" + n + ", " + row + ")", Due.allOf(x), was);
    }

    private static void judged(int n, long row, int want) {
        judged("OP5200P3000B10B10B10", 0, n, row, want);
    }

    private static void promise18Answers() {
        int none = HatGoesRound.NONE;
        long[] can = {0, 101, 109, 400, 401, 500};
        for (long row : can) {
            judged(1, row, none);
        }
        long[] cannot = {1, 10, 11, 90, 100, 110, 111, 200, 201, 202, 209, 210, 300, 301, 302, 310, 402, 409, 410,
            501, 510, 599, 600, 601, 700, 800, 900, 999};
        for (long row : cannot) {
            judged(1, row, 0);
            judged(2, row, 1);
            judged(4, row * 1000000000L + 400000L, 0);
        }
        judged(4, 105200401505L, 3);
        judged(4, 105200400000L, 2);
        judged(4, 105200000000L, 3);
        judged(3, 105505200L, none);
        judged(3, 105200500L, none);
        judged(3, 105200501L, 2);
        judged(4, 0, 2);
        judged(2, 0, none);
        judged(3, 301L, 2);
        judged(3, 401000300L, 2);
        judged(3, 401000401L, 2);
        judged(4, 401000000300L, none);
        judged(2, 400L, none);
        judged(3, 400L, 2);
        judged(4, 400L, 2);
        judged(4, 109109109527L, none);
        judged(4, 109109109528L, 3);
        judged("OP5200P3000B10B10B10", 11, 2, 109599, none);
        judged("OP5200P3000B10B10B10", 11, 4, 101200201000L, 3);
        judged("O", 0, 2, 101000L, 1);
    }

    private static void promise18Refusals() {
        int outside = HatGoesRound.OUTSIDE;
        judged(0, 0, outside);
        judged(5, 0, outside);
        judged(-1, 0, outside);
        judged(1, -1, outside);
        judged(1, 1000, outside);
        judged(2, 1000000, outside);
        judged(3, 1000000000L, outside);
        judged(4, 1000000000000L, outside);
        judged(4, Long.MAX_VALUE, outside);
        judged(4, Long.MIN_VALUE, outside);
        judged(4, 999999999999L, 0);
        judged(3, 999999999L, 0);
    }
}
