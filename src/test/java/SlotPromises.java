/** Promises 27 to 29: kept, gone on from, counted. */
public final class SlotPromises {
    private static final Due DUE = new Due("SlotPromises");

    public static void main(String[] args) {
        promise27And28();
        promise28Refusals();
        promise29();
        DUE.end();
    }

    private static void promise27And28() {
        HatGoesRound x = Due.concert("OP1400P2131P3110B31B20B12");
        x.give(9);
        Due.bars(x, 2);
        x.pay(0);
        DUE.is("27 keep(1)", x.keep(1), 2);
        DUE.is("27 no act", x.count(10), 4);
        int[] was = states(x);
        x.rest(2);
        x.encore();
        x.give(1);
        x.bar();
        DUE.is("27 keep(0)", x.keep(0), 3);
        int[] later = states(x);
        x.hear(0, 0, 0);
        x.seed(5);
        Due.tell(x, "O");
        DUE.is("28 again(1)", x.again(1), 2);
        alike("28 slot 1", states(x), was);
        DUE.is("28 the row is empty", x.count(10), 0);
        DUE.is("28 nothing to undo", x.undo(), HatGoesRound.STATE);
        DUE.is("28 heard stays", x.count(11), 1);
        DUE.is("28 the text stays", x.count(0), 1);
        DUE.is("28 the seed stays", x.seed(0), 5);
        DUE.is("28 again(0)", x.again(0), 3);
        alike("28 slot 0", states(x), later);
        x.bar();
        x.give(9);
        DUE.is("28 again(1), kept still", x.again(1), 2);
        alike("28 slot 1 still", states(x), was);
        x.give(2);
        x.keep(1);
        x.give(2);
        DUE.is("28 kept anew", x.again(1), 2);
        DUE.is("28 the hat kept anew", x.count(4), was[1] + 2);
    }

    private static int[] states(HatGoesRound x) {
        int[] all = {x.count(3), x.count(4), x.count(5), x.count(6), x.count(7), x.count(8), x.count(9),
            x.player(0, 1), x.player(1, 1), x.player(2, 1)};
        return all;
    }

    private static void alike(String name, int[] got, int[] want) {
        for (int i = 0; i < want.length; i++) {
            DUE.is(name + " part " + i, got[i], want[i]);
        }
    }

    private static void promise28Refusals() {
        HatGoesRound x = Due.concert("OP1400B10B10");
        int[] unknown = {-1, 2, 31, 32, Integer.MIN_VALUE, Integer.MAX_VALUE};
        for (int slot : unknown) {
            DUE.is("27 keep(" + slot + ")", x.keep(slot), HatGoesRound.UNKNOWN);
            DUE.is("28 again(" + slot + ")", x.again(slot), HatGoesRound.UNKNOWN);
        }
        x.bar();
        DUE.is("28 none kept", x.again(0), HatGoesRound.STATE);
        DUE.is("28 none kept", x.again(1), HatGoesRound.STATE);
        DUE.is("28 the row is left", x.count(10), 1);
        x.keep(0);
        DUE.is("28 only the other", x.again(1), HatGoesRound.STATE);
        x.bar();
        x.concert();
        DUE.is("28 gone with the concert", x.again(0), HatGoesRound.STATE);
    }

    private static void promise29() {
        HatGoesRound x = Due.concert("OP1900P1000P1900P1500B11B10B10");
        x.give(7);
        x.pay(2);
        x.bar();
        x.hear(3, 1, 1);
        x.hear(3, 2, 1);
        int[] counts = {30, 4, 3, 1, 6, 9, 4, 2, 0, 1, 3, 2};
        for (int what = 0; what < counts.length; what++) {
            DUE.is("29 count(" + what + ")", x.count(what), counts[what]);
        }
        DUE.is("29 count(12)", x.count(12), HatGoesRound.OUTSIDE);
        DUE.is("29 count(-1)", x.count(-1), HatGoesRound.OUTSIDE);
        x.bar();
        DUE.is("29 the bar that comes", x.count(8), 1);
        x = Due.bars(Due.concert("OP1100B10B10"), 1);
        DUE.is("29 nobody plays", x.count(8), HatGoesRound.NONE);
        x.rest(0);
        DUE.is("29 one plays again", x.count(8), 1);
        DUE.is("29 no players, no bits", Due.concert("OB10").count(7), 0);
    }
}
