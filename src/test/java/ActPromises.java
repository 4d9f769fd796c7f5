/** Promises 8 to 13: bars, gifts, pay, rests, encores, and all undone. */
public final class ActPromises {
    private static final Due DUE = new Due("ActPromises");

    public static void main(String[] args) {
        promise8Wind();
        promise8Kinds();
        promise8Drums();
        promise8Next();
        promise9();
        promise10();
        promise11();
        promise12();
        promise13();
        DUE.end();
    }

    /** Plays bar after bar: how many play then, who (bits), for each. */
    private static void plays(String text, int... howManyAndWho) {
        HatGoesRound x = Due.concert(text);
        for (int i = 0; i + 1 < howManyAndWho.length; i += 2) {
            DUE.is("8 " + text + " bar " + i / 2, x.bar(), howManyAndWho[i]);
            DUE.is("8 " + text + " who " + i / 2, x.count(5), howManyAndWho[i + 1]);
        }
    }

    private static void winds(String text, int bars, int... want) {
        HatGoesRound x = Due.bars(Due.concert(text), bars);
        for (int player = 0; player < want.length; player++) {
            DUE.is("8 " + text + " wind of " + player, x.player(player, 1), want[player]);
        }
    }

    private static void promise8Wind() {
        plays("OP1200B30B30B30", 1, 1, 0, 0, -3, 0);
        plays("OP1000B30", 0, 0, -3, 0);
        plays("OP1000P1100P1300B30B30B30B30", 1, 4, 1, 4, 0, 0, -3, 0);
        plays("OP1900", -3, 1);
        plays("OB10", -3, 0);
        plays("OP1900B10", 1, 1, -3, 1);
        winds("OP1520P1900B50B40", 1, 3, 8);
        winds("OP1520P1900B50B40", 2, 2, 7);
        winds("OP1120P1900B90", 1, 0, 8);
        winds("OP1120P1010P1530B90", 1, 0, 0, 4);
        HatGoesRound x = Due.bars(Due.concert("OP1900P1100B10B10"), 2);
        DUE.is("8 who does not play spends nothing", x.player(1, 1), 0);
        DUE.is("8 the time", x.count(3), 2);
        DUE.is("8 acts", x.count(10), 2);
        String was = Due.allOf(x);
        DUE.is("8 over", x.bar(), HatGoesRound.STATE);
        DUE.same("8 a refused bar", Due.allOf(x), was);
    }

    private static void promise8Kinds() {
        plays("OP1911P1912P1100B10B10B10", 1, 1, 0, 0);
        plays("OP1100P1910P1911B10B10", 0, 0);
        plays("OP1911P1910B10B10", 2, 3, 2, 3);
        plays("OP1915B10B10", 1, 1, 1, 1);
        plays("OP1910B10B10", 1, 1, 1, 1);
        plays("OP1100P1900P1910B10B10", 1, 2);
        winds("OP1100P1910P1911B10B10", 1, 0, 8, 8);
        HatGoesRound x = Due.concert("OP1900P1910B10B10");
        x.give(1);
        x.pay(0);
        DUE.is("8 a leaner looks when a bar is played", x.count(5), 2);
        DUE.is("8 a leaner beside one that is paid", x.bar(), 0);
        DUE.is("8 it is tired", x.count(7), 2);
        plays("OP1920P1920P1100B00B00", 0, 0);
        winds("OP1920P1920P1100B00B00", 1, 8, 8, 0);
        plays("OP1920P1920P1900B00B00", 3, 7);
        plays("OP1920B00B00", 0, 0);
        plays("OP1920P1912P1200P1200B00B00B00", 4, 15, 0, 0);
        plays("OP1920P1910B00B00B00", 2, 3, 2, 3);
        plays("OP1320P1910B90B90B90", 2, 3, 0, 0);
    }

    private static void promise8Drums() {
        plays("OP1131P1900B10B10B10B10", 2, 3, 2, 3, 2, 3, 2, 3);
        winds("OP1131P1900B10B10B10B10", 1, 2, 8);
        winds("OP1131P1900B10B10B10B10", 2, 1, 7);
        winds("OP1131P1900B10B10B10B10", 3, 2, 6);
        plays("OP1130P1900B10B10", 1, 2, 1, 2);
        plays("OP1135P1900B10B10", 1, 2, 1, 2);
        plays("OP1131P1132P1900B10B10B10", 2, 6, 3, 7);
        plays("OP1132P1130P1900B10B10B10", 3, 7);
        plays("OP1920P1130B00B00", 0, 0);
        plays("OP1131P1110P1900B10B10", 1, 4);
        HatGoesRound x = Due.concert("OP1131P1900B10B10B10");
        x.give(1);
        x.pay(0);
        DUE.is("8 a paid drum stays so", x.bar(), 1);
        DUE.is("8 it is paid", x.count(6), 1);
        x = Due.bars(Due.concert("OP1131P1100P1300B10B10B10"), 1);
        DUE.is("8 whom the drum looks to is tired", x.count(5), 4);
        x.rest(1);
        DUE.is("8 tired since an earlier bar, too late", x.bar(), 1);
        x = Due.bars(Due.concert("OP1131P1200P1300B10B10B10"), 2);
        x.rest(1);
        DUE.is("8 the drum spends its own wind first", x.player(0, 1), 1);
        x = Due.bars(Due.concert("OP1131P1000P9900B10B10B10B10"), 1);
        DUE.is("8 the drum is tired", x.count(7), 3);
        x = Due.bars(Due.concert("OP1131P1332P1100P9900B10B10B10B10B10"), 3);
        DUE.is("8 the drum without its own is tired", x.count(7), 7);
        x.rest(1);
        DUE.is("8 a drum tired since an earlier bar is back", x.bar(), 3);
    }

    private static void comes(String text, int... bars) {
        HatGoesRound x = Due.concert(text);
        for (int i = 0; i < bars.length; i++) {
            DUE.is("8 " + text + " comes " + i, x.count(8), bars[i]);
            x.bar();
        }
        DUE.is("8 " + text + " then", x.count(8), HatGoesRound.NONE);
        DUE.is("8 " + text + " over", x.bar(), HatGoesRound.STATE);
        DUE.is("8 " + text + " time", x.count(3), bars.length);
    }

    private static void promise8Next() {
        comes("OP1900B10B20B30", 0, 1, 2);
        comes("OP1900B10B21B31", 0, 1, 0, 1, 2, 0, 1, 2);
        comes("OP1900B11B10", 0, 0, 1);
        comes("OP1900B13B10B10", 0, 2);
        comes("OP1900B17B10", 0, 1);
        comes("OP1900B13B10", 0, 1);
        comes("OP1900B12B11", 0, 1, 0, 1);
        comes("OP1900B10B12B12", 0, 1, 1, 2, 1, 2);
        HatGoesRound x = Due.concert("OP1900B10B21B31");
        int[] taken = {0, 2, 2, 2, 6, 6, 6, 6};
        for (int want : taken) {
            x.bar();
            DUE.is("8 taken", x.count(9), want);
        }
        DUE.is("8 over, and one plays", x.count(5), 1);
    }

    private static void promise9() {
        HatGoesRound x = new HatGoesRound();
        int[] outside = {0, 10, -1, Integer.MIN_VALUE, Integer.MAX_VALUE};
        for (int n : outside) {
            DUE.is("9 give(" + n + ")", x.give(n), HatGoesRound.OUTSIDE);
        }
        DUE.is("9 no acts", x.count(10), 0);
        int hat = 0;
        for (int n = 1; n <= 9; n++) {
            hat += n;
            DUE.is("9 give(" + n + ")", x.give(n), hat);
        }
        for (int i = 0; i < 10; i++) {
            hat = Math.min(99, hat + 9);
            DUE.is("9 give(9)", x.give(9), hat);
        }
        DUE.is("9 the hat", x.count(4), 99);
        x = new HatGoesRound();
        for (int i = 0; i < 11; i++) {
            x.give(9);
        }
        DUE.is("9 an act at 99, too", x.give(1), 99);
        DUE.is("9 acts", x.count(10), 12);
        DUE.is("9 undone at 99", x.undo(), 11);
        DUE.is("9 still 99", x.count(4), 99);
        DUE.is("9 undone", x.undo(), 10);
        DUE.is("9 before", x.count(4), 90);
    }

    private static void promise10() {
        HatGoesRound x = Due.concert("OP4900P3100B10B10B10");
        DUE.is("10 player 2", x.pay(2), HatGoesRound.UNKNOWN);
        DUE.is("10 player -1", x.pay(-1), HatGoesRound.UNKNOWN);
        x.give(3);
        DUE.is("10 the hat has less", x.pay(0), HatGoesRound.STATE);
        DUE.is("10 one act", x.count(10), 1);
        x.give(5);
        DUE.is("10 pay(0)", x.pay(0), 4);
        DUE.is("10 paid", x.count(6), 1);
        DUE.is("10 does not play", x.count(5), 2);
        DUE.is("10 wind stays", x.player(0, 1), 9);
        DUE.is("10 is paid", x.pay(0), HatGoesRound.STATE);
        DUE.is("10 rests not", x.rest(0), HatGoesRound.STATE);
        x.bar();
        DUE.is("10 is tired", x.pay(1), HatGoesRound.STATE);
        DUE.is("10 encore", x.encore(), 0);
        DUE.is("10 still paid", x.count(6), 1);
        x.undo();
        x.undo();
        x.give(3);
        DUE.is("10 the other one, too", x.pay(1), 4);
        DUE.is("10 both are paid", x.count(6), 3);
        x = Due.concert("OP4900B10");
        x.give(4);
        x.bar();
        DUE.is("10 just enough, and over", x.pay(0), 0);
    }

    private static void promise11() {
        HatGoesRound x = Due.concert("OP1200P1000P1911B10B10B10B10B10");
        DUE.is("11 plays", x.rest(0), HatGoesRound.STATE);
        DUE.is("11 player 3", x.rest(3), HatGoesRound.UNKNOWN);
        DUE.is("11 player -1", x.rest(-1), HatGoesRound.UNKNOWN);
        x.bar();
        DUE.is("11 told without wind", x.rest(1), HatGoesRound.STATE);
        DUE.is("11 the leaner is tired", x.player(2, 4) * 10 + x.player(2, 1), 28);
        DUE.is("11 the leaner", x.rest(2), 9);
        DUE.is("11 it plays", x.count(5), 5);
        x.bar();
        DUE.is("11 both are tired", x.count(5), 0);
        DUE.is("11 rest(0)", x.rest(0), 2);
        DUE.is("11 its wind", x.player(0, 1), 2);
        DUE.is("11 acts", x.count(10), 4);
        x = Due.bars(Due.concert("OP1131P1100B10B10"), 1);
        DUE.is("11 a drum has its wind as told", x.rest(0), 1);
    }

    private static void promise12() {
        HatGoesRound x = Due.concert("OP1200");
        DUE.is("12 no bars", x.encore(), HatGoesRound.STATE);
        DUE.is("12 no acts", x.count(10), 0);
        x = Due.concert("OP1300P1100B12B10");
        Due.bars(x, 2);
        x.give(7);
        DUE.is("12 taken", x.count(9), 1);
        DUE.is("12 over", x.count(8), HatGoesRound.NONE);
        DUE.is("12 encore", x.encore(), 1);
        DUE.is("12 bar 0", x.count(8), 0);
        DUE.is("12 nothing is taken", x.count(9), 0);
        DUE.is("12 wind as it was", x.player(0, 1), 1);
        DUE.is("12 the hat", x.count(4), 7);
        DUE.is("12 the time", x.count(3), 2);
        DUE.is("12 an act", x.count(10), 4);
        x.bar();
        DUE.is("12 nobody plays", x.encore(), 0);
        DUE.is("12 silent", x.count(8), HatGoesRound.NONE);
    }

    private static void promise13() {
        HatGoesRound x = Due.concert("OP1300P2231P3100B31B20B10");
        DUE.is("13 none", x.undo(), HatGoesRound.STATE);
        String[] before = new String[7];
        int acts = 0;
        before[acts++] = Due.allOf(x);
        x.bar();
        before[acts++] = Due.allOf(x);
        x.give(9);
        before[acts++] = Due.allOf(x);
        x.pay(1);
        before[acts++] = Due.allOf(x);
        x.rest(2);
        before[acts++] = Due.allOf(x);
        x.bar();
        before[acts++] = Due.allOf(x);
        x.encore();
        for (int left = acts - 1; left >= 0; left--) {
            DUE.is("13 undo", x.undo(), left);
            DUE.same("13 undone", Due.allOf(x), before[left]);
        }
        DUE.is("13 none is left", x.undo(), HatGoesRound.STATE);
        for (int i = 1; i <= 20; i++) {
            x.give(1);
            DUE.is("13 acts", x.count(10), Math.min(14, i));
        }
        for (int left = 13; left >= 0; left--) {
            DUE.is("13 undo", x.undo(), left);
        }
        DUE.is("13 the first ones are forgotten", x.undo(), HatGoesRound.STATE);
        DUE.is("13 the hat", x.count(4), 6);
        for (int i = 0; i < 3; i++) {
            x.give(1);
        }
        DUE.is("13 it goes on", x.undo(), 2);
        DUE.is("13 the hat then", x.count(4), 8);
    }
}
