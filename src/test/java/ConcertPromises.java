/** Promises 1 to 7: the text and the concert. */
public final class ConcertPromises {
    private static final Due DUE = new Due("ConcertPromises");
    private static final String FULL_TEXT = "OP1000P1000P1000P1000P1000P1000B00B00B00B00B00B00B00B00";

    public static void main(String[] args) {
        promise1();
        promise2();
        promise3();
        promise4();
        promise5();
        promise6();
        promise7();
        DUE.end();
    }

    private static void promise1() {
        HatGoesRound x = new HatGoesRound();
        for (int what = 0; what <= 11; what++) {
            DUE.is("1 count(" + what + ")", x.count(what), what == 8 ? HatGoesRound.NONE : 0);
        }
        DUE.is("1 player", x.player(0, 0), HatGoesRound.UNKNOWN);
        DUE.is("1 score", x.score(0, 0), HatGoesRound.UNKNOWN);
        DUE.is("1 seed", x.seed(1), 0);
        DUE.is("1 again(0)", x.again(0), HatGoesRound.STATE);
        DUE.is("1 again(1)", x.again(1), HatGoesRound.STATE);
        DUE.is("1 bar", x.bar(), HatGoesRound.STATE);
        DUE.is("1 undo", x.undo(), HatGoesRound.STATE);
        DUE.is("1 constants", HatGoesRound.UNKNOWN * 10000 + HatGoesRound.OUTSIDE * 1000 + HatGoesRound.STATE * 100
            + HatGoesRound.FULL * 10 + HatGoesRound.NONE, -12349);
    }

    private static void promise2() {
        HatGoesRound x = new HatGoesRound();
        DUE.is("2 write(-1)", x.write(-1), HatGoesRound.OUTSIDE);
        DUE.is("2 write(256)", x.write(256), HatGoesRound.OUTSIDE);
        DUE.is("2 write(max)", x.write(Integer.MAX_VALUE), HatGoesRound.OUTSIDE);
        DUE.is("2 nothing written", x.count(0), 0);
        DUE.is("2 write(0)", x.write(0), 1);
        DUE.is("2 write(255)", x.write(255), 2);
        for (int length = 3; length <= 56; length++) {
            DUE.is("2 write", x.write('O'), length);
        }
        DUE.is("2 write on a full text", x.write('O'), HatGoesRound.FULL);
        DUE.is("2 write(256) on a full text", x.write(256), HatGoesRound.OUTSIDE);
        DUE.is("2 length", x.count(0), 56);
        x.wipe();
        DUE.is("2 write on a wiped text", x.write('O'), 1);
    }

    private static void promise3() {
        HatGoesRound x = Due.concert("OP1200B30");
        DUE.is("3 wipe", x.wipe(), 9);
        DUE.is("3 wipe again", x.wipe(), 0);
        DUE.is("3 no letters", x.count(0), 0);
        DUE.is("3 the concert stays", x.count(1) * 10 + x.count(2), 11);
        DUE.is("3 the empty text's fault", x.fault(), 0);
        x.write('O');
        DUE.is("3 nothing of the old text", x.fault(), HatGoesRound.NONE);
    }

    private static void faultOf(String text, int want) {
        DUE.is("4 fault of " + text, Due.written(text).fault(), want);
    }

    private static void promise4() {
        String[] good = {"O", "OP1000", "OP9935", "OB00", "OB97", "OB97P1000B00", FULL_TEXT};
        for (String text : good) {
            faultOf(text, HatGoesRound.NONE);
            for (int length = 0; length < text.length(); length++) {
                boolean whole = length > 0 && (text.charAt(length) == 'P' || text.charAt(length) == 'B');
                faultOf(text.substring(0, length), whole ? HatGoesRound.NONE : length);
            }
        }
        String[] bad = {"X", "o", "P", "0", "OO", "OX", "Op", "O1", "OPP", "OP0", "OP1:", "OP1/", "OP104",
            "OP10P", "OP1036", "OP1003P1005P1006", "OBB", "OB:", "OB08", "OB0/", "OB00X", "OP10000", "OB000",
            "OB00P1000B07P1004P0"};
        for (String text : bad) {
            faultOf(text, text.length() - 1);
            faultOf(text + "B00", text.length() - 1);
        }
        faultOf("OP1000P1000P1000P1000P1000P1000P", 31);
        faultOf("OP1000P1000P1000P1000P1000P1000B00P", 34);
        faultOf("OB00B00B00B00B00B00B00B00B", 25);
        faultOf("OB00B00B00B00B00B00B00B00P1000", HatGoesRound.NONE);
        faultOf(FULL_TEXT + "O", 55);
        faultOf(FULL_TEXT + "B", 55);
        faultOf("O" + (char) 255, 1);
        faultOf("O" + (char) 0, 1);
    }

    private static void promise5() {
        HatGoesRound x = new HatGoesRound();
        DUE.is("5 without a text", x.concert(), HatGoesRound.STATE);
        DUE.is("5 two players, one bar", Due.tell(x, "OP1935P2330B97").concert(), 21);
        DUE.is("5 the text stays", x.count(0), 14);
        x.hear(1, 3, 1);
        x.seed(77);
        x.give(9);
        x.pay(0);
        x.bar();
        x.keep(0);
        x.keep(1);
        String was = Due.allOf(Due.tell(x, "OP1935P2330B98"));
        DUE.is("5 a fault", x.concert(), HatGoesRound.STATE);
        DUE.same("5 a refused concert", Due.allOf(x), was);
        DUE.is("5 the old repeat", x.score(0, 1), 7);
        DUE.is("5 whom the old player looks to", x.player(0, 3), 5);
        Due.tell(x, "OB11X");
        DUE.is("5 another fault", x.fault() * 100 + x.concert(), 397);
        DUE.is("5 the old players and bars", x.count(1) * 10 + x.count(2), 21);
        DUE.is("5 the old noise", x.score(0, 0), 9);
        DUE.is("5 what was kept stays", x.again(0), 1);
        x.give(5);
        DUE.is("5 anew", Due.tell(x, "OP1000P1700B01B20B30").concert(), 23);
        int[] counts = {20, 2, 3, 0, 0, 3, 0, 0, 0, 0, 0, 1};
        for (int what = 0; what < counts.length; what++) {
            DUE.is("5 anew count(" + what + ")", x.count(what), counts[what]);
        }
        DUE.is("5 wind of 0", x.player(0, 1), 0);
        DUE.is("5 wind of 1", x.player(1, 1), 7);
        DUE.is("5 plays with no wind", x.player(0, 4), 0);
        DUE.is("5 the row is empty", x.undo(), HatGoesRound.STATE);
        DUE.is("5 slot 0 is gone", x.again(0), HatGoesRound.STATE);
        DUE.is("5 slot 1 is gone", x.again(1), HatGoesRound.STATE);
        DUE.is("5 the seed stays", x.seed(0), 77);
        DUE.is("5 nobody, nothing", Due.tell(x, "O").concert(), 0);
        DUE.is("5 nobody plays", x.count(5), 0);
        x.encore();
        x.give(1);
        Due.tell(x, "OP1900B11").concert();
        x.bar();
        DUE.is("5 a repeat is taken", x.count(9), 1);
        x.concert();
        DUE.is("5 no repeat is taken", x.count(9), 0);
        DUE.is("5 bar 0 comes", x.count(8), 0);
        DUE.is("5 the most", Due.tell(x, FULL_TEXT).concert(), 68);
    }

    private static void promise6() {
        HatGoesRound x = Due.concert("OP3425P9310P1301P7130P2000B90B10B10");
        int[][] told = {{3, 4, 2, 5, 0}, {9, 3, 1, 0, 0}, {1, 3, 0, 1, 0}, {7, 1, 3, 0, 0}, {2, 0, 0, 0, 0}};
        for (int player = 0; player < told.length; player++) {
            for (int what = 0; what < 5; what++) {
                DUE.is("6 player(" + player + ", " + what + ")", x.player(player, what), told[player][what]);
            }
            DUE.is("6 what 5", x.player(player, 5), HatGoesRound.OUTSIDE);
            DUE.is("6 what -1", x.player(player, -1), HatGoesRound.OUTSIDE);
        }
        DUE.is("6 player 5", x.player(5, 0), HatGoesRound.UNKNOWN);
        DUE.is("6 player -1", x.player(-1, 0), HatGoesRound.UNKNOWN);
        DUE.is("6 first unknown", x.player(5, 9), HatGoesRound.UNKNOWN);
        x.give(9);
        x.pay(2);
        x.bar();
        DUE.is("6 a bass by noise", x.player(0, 1), 2);
        DUE.is("6 paid", x.player(2, 4), 1);
        DUE.is("6 the wind of who is paid", x.player(2, 1), 3);
        DUE.is("6 tired", x.player(4, 4), 2);
        DUE.is("6 price stays", x.player(2, 0), 1);
        DUE.is("6 plays", x.player(0, 4), 0);
        DUE.is("6 a drum is back", x.player(3, 4) * 10 + x.player(3, 1), 2);
    }

    private static void promise7() {
        HatGoesRound x = Due.concert("OB91P1900B02B37");
        int[][] told = {{9, 1, 0}, {0, 2, 0}, {3, 7, 0}};
        for (int bar = 0; bar < told.length; bar++) {
            for (int what = 0; what < 3; what++) {
                DUE.is("7 score(" + bar + ", " + what + ")", x.score(bar, what), told[bar][what]);
            }
            DUE.is("7 what 3", x.score(bar, 3), HatGoesRound.OUTSIDE);
            DUE.is("7 what -1", x.score(bar, -1), HatGoesRound.OUTSIDE);
        }
        DUE.is("7 bar 3", x.score(3, 0), HatGoesRound.UNKNOWN);
        DUE.is("7 bar -1", x.score(-1, 0), HatGoesRound.UNKNOWN);
        DUE.is("7 first unknown", x.score(3, 3), HatGoesRound.UNKNOWN);
        x.bar();
        DUE.is("7 taken", x.score(0, 2), 1);
        Due.bars(x, 2);
        DUE.is("7 taken, too", x.score(1, 2), 1);
        DUE.is("7 it goes on", x.count(8), 1);
        Due.bars(x, 2);
        DUE.is("7 no such bar, not taken", x.score(2, 2), 0);
        DUE.is("7 over", x.count(8), HatGoesRound.NONE);
        x.encore();
        DUE.is("7 again not taken", x.score(0, 2), 0);
    }
}
