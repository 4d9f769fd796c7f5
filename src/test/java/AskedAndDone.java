import java.math.BigInteger;
import java.util.ArrayList;
import java.util.List;
import java.util.Random;

/**
 * Promises 14 to 18 and 21 to 24: what is asked of bars to come must be what comes when it is done. Each question is
 * put to one object; what it asks for is done by acts on others that are brought to the same state.
 */
public final class AskedAndDone {
    private static final Due DUE = new Due("AskedAndDone");
    private static final int RUNS = 1500;
    private static final int DRUM = 3, TIRED = 2;

    private final Random random;
    private final String text;
    private final int[] kinds;
    private final int[] numbers;
    private final HatGoesRound asked;
    private final int players;
    private final int playing;

    private AskedAndDone(int run) {
        random = new Random(run);
        text = text();
        kinds = new int[random.nextInt(16)];
        numbers = new int[kinds.length];
        for (int i = 0; i < kinds.length; i++) {
            kinds[i] = random.nextInt(9);
            numbers[i] = random.nextInt(6);
        }
        asked = state();
        players = asked.count(1);
        playing = asked.count(5);
    }

    public static void main(String[] args) {
        for (int run = 0; run < RUNS; run++) {
            new AskedAndDone(run).askAll();
        }
        DUE.end();
    }

    private String text() {
        StringBuilder all = new StringBuilder("O");
        int many = 1 + random.nextInt(6);
        int windMost = random.nextBoolean() ? 9 : 3;
        for (int i = 0; i < many; i++) {
            all.append('P').append(1 + random.nextInt(9)).append(random.nextInt(windMost + 1)).append(random.nextInt(4))
                .append(random.nextInt(random.nextInt(4) == 0 ? 6 : many));
        }
        for (int bars = 1 + random.nextInt(8); bars > 0; bars--) {
            all.append('B').append(random.nextInt(10)).append(random.nextInt(3) == 0 ? random.nextInt(8) : 0);
        }
        return all.toString();
    }

    /** An object brought to the state of this run; what is refused on the way is refused each time. */
    private HatGoesRound state() {
        HatGoesRound x = Due.concert(text);
        for (int i = 0; i < kinds.length; i++) {
            switch (kinds[i]) {
                case 0 -> x.pay(numbers[i]);
                case 1 -> x.rest(numbers[i]);
                case 2, 3 -> x.give(1 + numbers[i]);
                case 4 -> x.encore();
                default -> x.bar();
            }
        }
        return x;
    }

    /** The same state, and these players really paid, from a hat that has enough for all. */
    private HatGoesRound paid(int set) {
        HatGoesRound x = state();
        for (int i = 0; i < 11; i++) {
            x.give(9);
        }
        for (int player = 0; player < players; player++) {
            if ((set >> player & 1) == 1 && x.pay(player) < 0) {
                throw new IllegalStateException("not paid: " + player + " of " + text);
            }
        }
        return x;
    }

    private void is(String call, long got, long want) {
        DUE.is(text + " " + call, got, want);
    }

    private boolean isOfPlaying(int set) {
        return (set & ~playing) == 0;
    }

    private static boolean isSilent(HatGoesRound x) {
        return x.count(8) == HatGoesRound.NONE;
    }

    private static boolean isSilentBehind(HatGoesRound x, int n) {
        return isSilent(Due.bars(x, n));
    }

    private static int noise(HatGoesRound x, int n) {
        int sum = 0;
        for (int i = 0; i < n && !isSilent(x); i++) {
            sum += x.score(x.count(8), 0) * Integer.bitCount(x.count(5));
            x.bar();
        }
        return sum;
    }

    private void askAll() {
        later();
        stops();
        hush(random.nextInt(10));
        loud(1 + random.nextInt(12));
        judge();
        pays();
        share();
        rests();
        strings(random.nextInt(10), random.nextInt(11));
    }

    /** "IN n BARS (0 to 30): PLAYERS that PLAY (bits); the BAR that comes next" */
    private void later() {
        HatGoesRound done = state();
        for (int n = 0; n <= 30; n++) {
            is("later " + n + ", who", asked.later(n, 0), done.count(5));
            is("later " + n + ", what", asked.later(n, 1), done.count(8));
            done.bar();
        }
    }

    /** "in how many BARS (0 to 30) it is SILENT, if nothing is done; NONE" */
    private void stops() {
        HatGoesRound done = state();
        int bars = 0;
        while (bars <= 30 && !isSilent(done)) {
            done.bar();
            bars++;
        }
        is("stops", asked.stops(), bars <= 30 ? bars : HatGoesRound.NONE);
    }

    private int price(int set) {
        int sum = 0;
        for (int player = 0; player < players; player++) {
            sum += (set >> player & 1) * asked.player(player, 0);
        }
        return sum;
    }

    /** "the least sum of PRICES ... so that it is SILENT behind n BARS ... of like sums the fewest, then the least" */
    private void hush(int n) {
        int best = -1;
        int bestRank = Integer.MAX_VALUE;
        for (int set = 0; set < 64; set++) {
            int rank = isOfPlaying(set) ? price(set) * 1000 + Integer.bitCount(set) * 100 + set : Integer.MAX_VALUE;
            if (rank < bestRank && isSilentBehind(paid(set), n)) {
                best = set;
                bestRank = rank;
            }
        }
        is("hush " + n + ", who", asked.hush(n, 1), best);
        is("hush " + n + ", how much", asked.hush(n, 0), bestRank / 1000);
    }

    /** "the most NOISE that comes in n BARS ... by any one PLAYER RESTED first ... (of like ones the least number)" */
    private void loud(int n) {
        int who = 6;
        int most = noise(state(), n);
        for (int player = players - 1; player >= 0; player--) {
            HatGoesRound done = state();
            if (done.rest(player) >= 0) {
                int noise = noise(done, n);
                who = noise >= most ? player : who;
                most = Math.max(noise, most);
            }
        }
        is("loud " + n + ", who", asked.loud(n, 0), who);
        is("loud " + n + ", how much", asked.loud(n, 1), most);
    }

    /** "the place (from 0 on) of the first that can not be (or is not so); NONE: none" */
    private void judge() {
        int doings = 1 + random.nextInt(4);
        HatGoesRound done = state();
        long row = 0;
        int due = HatGoesRound.NONE;
        for (int i = 0; i < doings; i++) {
            int kind = random.nextInt(6);
            int n = kind == 0 ? 0 : kind == 5 ? random.nextInt(20) : random.nextInt(7);
            row = row * 1000 + kind * 100 + n;
            boolean can = switch (kind) {
                case 0 -> done.bar() >= 0;
                case 1 -> done.give(n) >= 0;
                case 2 -> done.pay(n) >= 0;
                case 3 -> done.rest(n) >= 0;
                case 4 -> done.player(n, 4) == 0;
                default -> done.count(4) >= n;
            };
            due = due == HatGoesRound.NONE && !can ? i : due;
        }
        is("judge " + row, asked.judge(doings, row), due);
    }

    /** "sets of PLAYERS that PLAY by which all that is HEARD is so" */
    private void pays() {
        int[][] heard = new int[1 + random.nextInt(4)][];
        for (int i = 0; i < heard.length; i++) {
            heard[i] = new int[] {random.nextInt(players), random.nextInt(10), random.nextInt(2)};
            asked.hear(heard[i][0], heard[i][1], heard[i][2]);
        }
        int many = 0;
        int first = HatGoesRound.NONE;
        for (int set = 63; set >= 0; set--) {
            if (isOfPlaying(set) && isAsHeard(set, heard)) {
                many++;
                first = set;
            }
        }
        is("pays, how many", asked.pays(0), many);
        is("pays, the first", asked.pays(1), first);
    }

    private boolean isAsHeard(int set, int[][] heard) {
        for (int[] one : heard) {
            HatGoesRound done = Due.bars(paid(set), one[1]);
            if ((done.player(one[0], 4) == 0) != (one[2] == 1)) {
                return false;
            }
        }
        return true;
    }

    private boolean isThere(int kind, int what) {
        for (int player = 0; player < players; player++) {
            if (asked.player(player, 2) == kind && asked.player(player, 4) == what) {
                return true;
            }
        }
        return false;
    }

    /**
     * "by how much in the mean NOISE that comes in 6 BARS is more when it has come than it was": whoever has not come
     * is really paid. Who is tired can't be; it never plays again anyhow, but for a drum.
     */
    private void share() {
        if (isThere(DRUM, TIRED)) {
            return;
        }
        int[] noises = new int[1 << players];
        for (int come = 0; come < noises.length; come++) {
            noises[come] = noise(paid(playing & ~come), 6);
        }
        int[] sums = new int[players];
        int orders = playOrders(new ArrayList<>(), noises, sums);
        for (int player = 0; player < players; player++) {
            fraction("share " + player, asked.share(player, true), asked.share(player, false), sums[player], orders);
        }
    }

    private int playOrders(List<Integer> order, int[] noises, int[] sums) {
        if (order.size() == players) {
            int come = 0;
            for (int player : order) {
                sums[player] += noises[come | 1 << player] - noises[come];
                come |= 1 << player;
            }
            return 1;
        }
        int orders = 0;
        for (int player = 0; player < players; player++) {
            if (!order.contains(player)) {
                order.add(player);
                orders += playOrders(order, noises, sums);
                order.remove(order.size() - 1);
            }
        }
        return orders;
    }

    private void fraction(String call, int above, int below, long wantAbove, long wantBelow) {
        BigInteger common = BigInteger.valueOf(wantAbove).gcd(BigInteger.valueOf(wantBelow));
        is(call + ", above", above, wantAbove / common.longValueExact());
        is(call + ", below", below, wantBelow / common.longValueExact());
    }

    /** "pairs (0 to 2: 0, 3, 6) in which neither has more by another gift alone" */
    private void rests() {
        int[][] has = new int[3][3];
        for (int one = 0; one < 3; one++) {
            for (int other = 0; other < 3; other++) {
                boolean enough = 3 * (one + other) >= asked.hush(3, 0);
                has[one][other] = (isSilentBehind(paid(enough ? asked.hush(3, 1) : 0), 3) ? 8 : 0) - 3 * one;
            }
        }
        int many = 0;
        int first = HatGoesRound.NONE;
        for (int pair = 8; pair >= 0; pair--) {
            int one = pair / 3;
            int other = pair % 3;
            boolean isAtRest = true;
            for (int gift = 0; gift < 3; gift++) {
                isAtRest &= has[gift][other] <= has[one][other] && has[gift][one] <= has[other][one];
            }
            if (isAtRest) {
                many++;
                first = 10 * one + other;
            }
        }
        is("rests, how many", asked.rests(0), many);
        is("rests, the first", asked.rests(1), first);
    }

    /**
     * "each PLAYER that PLAYS is TIRED now by x tenths, by itself: that it is SILENT in n BARS": whoever is torn is
     * really paid, which is the same but for a drum. With drums, only where all are torn, or none.
     */
    private void strings(int n, int tenths) {
        if (isThere(DRUM, 0)) {
            fraction("strings " + n + " by 10", asked.strings(n, 10, true), asked.strings(n, 10, false), 1, 1);
            fraction("strings " + n + " by 0", asked.strings(n, 0, true), asked.strings(n, 0, false),
                isSilentBehind(state(), n) ? 1 : 0, 1);
            return;
        }
        long ways = 0;
        long all = 0;
        for (int set = 0; set < 64; set++) {
            if (isOfPlaying(set)) {
                long way = 1;
                for (int player = 0; player < players; player++) {
                    way *= (playing >> player & 1) == 0 ? 1 : (set >> player & 1) == 1 ? tenths : 10 - tenths;
                }
                all += way;
                ways += isSilentBehind(paid(set), n) ? way : 0;
            }
        }
        fraction("strings " + n + " by " + tenths, asked.strings(n, tenths, true), asked.strings(n, tenths, false), ways, all);
    }
}
