import java.math.BigInteger;
import java.util.ArrayDeque;
import java.util.ArrayList;
import java.util.Deque;
import java.util.List;
import java.util.TreeSet;
import java.util.function.ToIntFunction;
import java.util.regex.Matcher;
import java.util.regex.Pattern;

/**
 * The document once more, written with the whole Java library and by the slowest way: every order, every set,
 * every stage of a bar as the words tell it. It shares no code with the program.
 */
final class Model {
    static final int UNKNOWN = -1, OUTSIDE = -2, STATE = -3, FULL = -4, NONE = -9;
    private static final Pattern CONCERT = Pattern.compile("O(P[1-9][0-9][0-3][0-5]|B[0-9][0-7])*");
    private static final Pattern PART = Pattern.compile("P(.)(.)(.)(.)|B(.)(.)");

    enum Is { PLAYS, PAID, TIRED }

    record Player(int price, int wind, int kind, int looks) { }

    record Bar(int noise, int repeat) { }

    record Said(int player, int bars, int plays) { }

    private final class Stand {
        Is[] is = new Is[players.size()];
        int[] wind = new int[players.size()];
        TreeSet<Integer> taken = new TreeSet<>();
        int next;
        int hat;
        int time;

        Stand() {
            for (int i = 0; i < is.length; i++) {
                is[i] = Is.PLAYS;
                wind[i] = players.get(i).wind();
            }
        }

        Stand copy() {
            Stand other = new Stand();
            other.is = is.clone();
            other.wind = wind.clone();
            other.taken = new TreeSet<>(taken);
            other.next = next;
            other.hat = hat;
            other.time = time;
            return other;
        }

        List<Integer> those(Is what) {
            List<Integer> all = new ArrayList<>();
            for (int i = 0; i < is.length; i++) {
                if (is[i] == what) {
                    all.add(i);
                }
            }
            return all;
        }

        int bits(Is what) {
            int sum = 0;
            for (int i : those(what)) {
                sum += 1 << i;
            }
            return sum;
        }

        boolean silent() {
            return those(Is.PLAYS).isEmpty() || bars.isEmpty() || next == bars.size();
        }

        boolean looksTo(int i, boolean plays) {
            int whom = players.get(i).looks();
            return whom < players.size() && (is[whom] == Is.PLAYS) == plays;
        }

        boolean playOne() {
            if (silent()) {
                return false;
            }
            Bar bar = bars.get(next);
            for (int i : those(Is.PLAYS)) {
                int less = players.get(i).kind() == 2 && bar.noise() >= 5 ? 2 : 1;
                wind[i] = wind[i] > less ? wind[i] - less : 0;
            }
            for (int i : those(Is.PLAYS)) {
                if (wind[i] == 0) {
                    is[i] = Is.TIRED;
                }
            }
            for (int i = 0; i < is.length; i++) {
                if (players.get(i).kind() == 1 && is[i] == Is.PLAYS && looksTo(i, false)) {
                    is[i] = Is.TIRED;
                }
            }
            if (those(Is.PLAYS).stream().allMatch(i -> players.get(i).kind() == 2)) {
                for (int i : those(Is.PLAYS)) {
                    is[i] = Is.TIRED;
                }
            }
            for (int i = 0; i < is.length; i++) {
                if (players.get(i).kind() == 3 && is[i] == Is.TIRED && looksTo(i, true)) {
                    is[i] = Is.PLAYS;
                    wind[i] = 2;
                }
            }
            boolean back = bar.repeat() > 0 && bar.repeat() <= bars.size() && taken.add(next);
            next = back ? bar.repeat() - 1 : next + 1;
            time++;
            return true;
        }

        void playMany(int n) {
            for (int i = 0; i < n; i++) {
                playOne();
            }
        }

        int noise(int n) {
            int sum = 0;
            for (int i = 0; i < n && !silent(); i++) {
                sum += bars.get(next).noise() * those(Is.PLAYS).size();
                playOne();
            }
            return sum;
        }

        boolean giveIt(int n) {
            if (n < 1 || n > 9) {
                return false;
            }
            hat = hat + n > 99 ? 99 : hat + n;
            return true;
        }

        boolean payIt(int i) {
            if (i < 0 || i >= is.length || is[i] != Is.PLAYS || players.get(i).price() > hat) {
                return false;
            }
            hat -= players.get(i).price();
            is[i] = Is.PAID;
            return true;
        }

        boolean restIt(int i) {
            if (i < 0 || i >= is.length || is[i] != Is.TIRED || players.get(i).wind() == 0) {
                return false;
            }
            is[i] = Is.PLAYS;
            wind[i] = players.get(i).wind();
            return true;
        }

        boolean fromTheFirst() {
            if (bars.isEmpty()) {
                return false;
            }
            next = 0;
            taken.clear();
            return true;
        }

        Stand with(int set, Is what) {
            Stand other = copy();
            for (int i = 0; i < is.length; i++) {
                if ((set >> i & 1) == 1) {
                    other.is[i] = what;
                }
            }
            return other;
        }

        List<Integer> setsOfPlaying() {
            List<Integer> sets = new ArrayList<>();
            for (int set = 0; set < 1 << is.length; set++) {
                if ((set | bits(Is.PLAYS)) == bits(Is.PLAYS)) {
                    sets.add(set);
                }
            }
            return sets;
        }
    }

    private String text = "";
    private List<Player> players = new ArrayList<>();
    private List<Bar> bars = new ArrayList<>();
    private Stand now = new Stand();
    private final Deque<Stand> row = new ArrayDeque<>();
    private final List<Said> said = new ArrayList<>();
    private final Stand[] slots = new Stand[2];
    private long seed;

    int write(int letter) {
        if (letter < 0 || letter > 255) {
            return OUTSIDE;
        }
        if (text.length() == 56) {
            return FULL;
        }
        text += (char) letter;
        return text.length();
    }

    int wipe() {
        int was = text.length();
        text = "";
        return was;
    }

    private static boolean canBecome(String start) {
        Matcher m = CONCERT.matcher(start);
        return (m.matches() || m.hitEnd()) && start.chars().filter(c -> c == 'P').count() <= 6
            && start.chars().filter(c -> c == 'B').count() <= 8;
    }

    int fault() {
        for (int i = 0; i < text.length(); i++) {
            if (!canBecome(text.substring(0, i + 1))) {
                return i;
            }
        }
        return CONCERT.matcher(text).matches() ? NONE : text.length();
    }

    int concert() {
        if (fault() != NONE) {
            return STATE;
        }
        players = new ArrayList<>();
        bars = new ArrayList<>();
        Matcher m = PART.matcher(text);
        while (m.find()) {
            if (m.group(1) != null) {
                players.add(new Player(figure(m, 1), figure(m, 2), figure(m, 3), figure(m, 4)));
            } else {
                bars.add(new Bar(figure(m, 5), figure(m, 6)));
            }
        }
        now = new Stand();
        row.clear();
        slots[0] = null;
        slots[1] = null;
        return 10 * players.size() + bars.size();
    }

    private static int figure(Matcher m, int group) {
        return Integer.parseInt(m.group(group));
    }

    private boolean noPlayer(int i) {
        return i < 0 || i >= players.size();
    }

    int player(int i, int what) {
        if (noPlayer(i)) {
            return UNKNOWN;
        }
        Player p = players.get(i);
        int[] all = {p.price(), now.wind[i], p.kind(), p.looks(), now.is[i].ordinal()};
        return what < 0 || what >= all.length ? OUTSIDE : all[what];
    }

    int score(int i, int what) {
        if (i < 0 || i >= bars.size()) {
            return UNKNOWN;
        }
        int[] all = {bars.get(i).noise(), bars.get(i).repeat(), now.taken.contains(i) ? 1 : 0};
        return what < 0 || what >= all.length ? OUTSIDE : all[what];
    }

    private int act(int refusal, boolean can, Stand before, ToIntFunction<Stand> answer) {
        if (!can) {
            now = before;
            return refusal;
        }
        row.addLast(before);
        if (row.size() > 14) {
            row.removeFirst();
        }
        return answer.applyAsInt(now);
    }

    int bar() {
        Stand before = now.copy();
        return act(STATE, now.playOne(), before, s -> s.those(Is.PLAYS).size());
    }

    int give(int n) {
        Stand before = now.copy();
        return act(OUTSIDE, now.giveIt(n), before, s -> s.hat);
    }

    int pay(int i) {
        Stand before = now.copy();
        return noPlayer(i) ? UNKNOWN : act(STATE, now.payIt(i), before, s -> s.hat);
    }

    int rest(int i) {
        Stand before = now.copy();
        return noPlayer(i) ? UNKNOWN : act(STATE, now.restIt(i), before, s -> s.wind[i]);
    }

    int encore() {
        Stand before = now.copy();
        return act(STATE, now.fromTheFirst(), before, s -> s.those(Is.PLAYS).size());
    }

    int undo() {
        if (row.isEmpty()) {
            return STATE;
        }
        now = row.removeLast();
        return row.size();
    }

    private static boolean within(int n, int least, int most) {
        return n >= least && n <= most;
    }

    int later(int n, int what) {
        if (!within(n, 0, 30) || !within(what, 0, 1)) {
            return OUTSIDE;
        }
        Stand then = now.copy();
        then.playMany(n);
        return what == 0 ? then.bits(Is.PLAYS) : then.silent() ? NONE : then.next;
    }

    int stops() {
        for (int n = 0; n <= 30; n++) {
            Stand then = now.copy();
            then.playMany(n);
            if (then.silent()) {
                return n;
            }
        }
        return NONE;
    }

    private int price(int set) {
        int sum = 0;
        for (int i = 0; i < players.size(); i++) {
            sum += (set >> i & 1) * players.get(i).price();
        }
        return sum;
    }

    private int hushSet(int n) {
        List<Integer> sets = new ArrayList<>();
        for (int set : now.setsOfPlaying()) {
            Stand then = now.with(set, Is.PAID);
            then.playMany(n);
            if (then.silent()) {
                sets.add(set);
            }
        }
        sets.sort((a, b) -> price(a) != price(b) ? price(a) - price(b)
            : Integer.bitCount(a) != Integer.bitCount(b) ? Integer.bitCount(a) - Integer.bitCount(b) : a - b);
        return sets.get(0);
    }

    int hush(int n, int what) {
        if (!within(n, 0, 9) || !within(what, 0, 1)) {
            return OUTSIDE;
        }
        return what == 0 ? price(hushSet(n)) : hushSet(n);
    }

    int loud(int n, int what) {
        if (!within(n, 1, 12) || !within(what, 0, 1)) {
            return OUTSIDE;
        }
        int who = 6;
        int most = now.copy().noise(n);
        for (int i = players.size() - 1; i >= 0; i--) {
            Stand then = now.copy();
            if (then.restIt(i)) {
                int noise = then.noise(n);
                if (noise >= most) {
                    most = noise;
                    who = i;
                }
            }
        }
        return what == 0 ? who : most;
    }

    int judge(int n, long figures) {
        if (!within(n, 1, 4) || figures < 0 || Long.toString(figures).length() > 3 * n) {
            return OUTSIDE;
        }
        String all = "0".repeat(3 * n - Long.toString(figures).length()) + figures;
        Stand then = now.copy();
        for (int i = 0; i < n; i++) {
            String doing = all.substring(3 * i, 3 * i + 3);
            int last = doing.charAt(2) - '0';
            boolean can = doing.equals("000") ? then.playOne()
                : doing.startsWith("10") ? then.giveIt(last)
                : doing.startsWith("20") ? then.payIt(last)
                : doing.startsWith("30") ? then.restIt(last)
                : doing.startsWith("40") ? !noPlayer(last) && then.is[last] == Is.PLAYS
                : doing.startsWith("5") && then.hat >= Integer.parseInt(doing.substring(1));
            if (!can) {
                return i;
            }
        }
        return NONE;
    }

    int hear(int i, int n, int plays) {
        if (noPlayer(i)) {
            return UNKNOWN;
        }
        if (!within(n, 0, 9) || !within(plays, 0, 1)) {
            return OUTSIDE;
        }
        if (said.size() == 6) {
            return FULL;
        }
        said.add(new Said(i, n, plays));
        return said.size();
    }

    int unhear() {
        int was = said.size();
        said.clear();
        return was;
    }

    int pays(int what) {
        if (!within(what, 0, 1)) {
            return OUTSIDE;
        }
        List<Integer> sets = new ArrayList<>();
        for (int set : now.setsOfPlaying()) {
            boolean all = true;
            for (Said one : said) {
                Stand then = now.with(set, Is.PAID);
                then.playMany(one.bars());
                all &= noPlayer(one.player()) || (then.is[one.player()] == Is.PLAYS) == (one.plays() == 1);
            }
            if (all) {
                sets.add(set);
            }
        }
        return what == 0 ? sets.size() : sets.isEmpty() ? NONE : sets.get(0);
    }

    private void orders(List<Integer> come, int who, int[] sumAndMany) {
        if (come.size() == players.size()) {
            int present = 0;
            for (int i : come) {
                int everybody = (1 << players.size()) - 1;
                int without = now.with(everybody & ~present, Is.PAID).noise(6);
                present |= 1 << i;
                if (i == who) {
                    sumAndMany[0] += now.with(everybody & ~present, Is.PAID).noise(6) - without;
                }
            }
            sumAndMany[1]++;
            return;
        }
        for (int i = 0; i < players.size(); i++) {
            if (!come.contains(i)) {
                come.add(i);
                orders(come, who, sumAndMany);
                come.remove(come.size() - 1);
            }
        }
    }

    private static int fraction(BigInteger above, BigInteger below, boolean upper) {
        BigInteger common = above.gcd(below);
        return (upper ? above : below).divide(common).intValueExact();
    }

    int share(int i, boolean upper) {
        if (noPlayer(i)) {
            return UNKNOWN;
        }
        int[] sumAndMany = new int[2];
        orders(new ArrayList<>(), i, sumAndMany);
        return fraction(BigInteger.valueOf(sumAndMany[0]), BigInteger.valueOf(sumAndMany[1]), upper);
    }

    private int streetHas(int own, int others) {
        Stand then = now.copy();
        int set = hushSet(3);
        if (own + others >= price(set)) {
            then = now.with(set, Is.PAID);
        }
        then.playMany(3);
        return (then.silent() ? 8 : 0) - own;
    }

    int rests(int what) {
        if (!within(what, 0, 1)) {
            return OUTSIDE;
        }
        List<Integer> pairs = new ArrayList<>();
        int[] gifts = {0, 3, 6};
        for (int a = 0; a < 3; a++) {
            for (int b = 0; b < 3; b++) {
                boolean still = true;
                for (int gift : gifts) {
                    still &= streetHas(gift, gifts[b]) <= streetHas(gifts[a], gifts[b]);
                    still &= streetHas(gift, gifts[a]) <= streetHas(gifts[b], gifts[a]);
                }
                if (still) {
                    pairs.add(10 * a + b);
                }
            }
        }
        return what == 0 ? pairs.size() : pairs.isEmpty() ? NONE : pairs.get(0);
    }

    /** How often, of ten to the power of the players that play, it is silent: each string by itself. */
    private long silentWays(List<Integer> playing, int at, Stand torn, int n, int x) {
        if (at == playing.size()) {
            Stand then = torn.copy();
            then.playMany(n);
            return then.silent() ? 1 : 0;
        }
        return x * silentWays(playing, at + 1, torn.with(1 << playing.get(at), Is.TIRED), n, x)
            + (10 - x) * silentWays(playing, at + 1, torn, n, x);
    }

    int strings(int n, int x, boolean upper) {
        if (!within(n, 0, 9) || !within(x, 0, 10)) {
            return OUTSIDE;
        }
        List<Integer> playing = now.those(Is.PLAYS);
        return fraction(BigInteger.valueOf(silentWays(playing, 0, now, n, x)), BigInteger.TEN.pow(playing.size()),
            upper);
    }

    long seed(long v) {
        long was = seed;
        seed = v;
        return was;
    }

    int nights(int m) {
        if (!within(m, 1, 30)) {
            return OUTSIDE;
        }
        Stand then = now.copy();
        int sum = 0;
        for (int i = 0; i < m; i++) {
            seed = BigInteger.valueOf(seed).multiply(new BigInteger("6364136223846793005"))
                .add(new BigInteger("1442695040888963407")).longValue();
            long upper = Long.parseLong("0" + ("0".repeat(64) + Long.toBinaryString(seed))
                .substring(Long.toBinaryString(seed).length()).substring(0, 31), 2);
            int left = (int) (upper % 26);
            if (left >= 16) {
                then.playOne();
            } else if (left == 15) {
                then.fromTheFirst();
            } else if (left >= 12) {
                then.giveIt(left - 11);
            } else if (left >= 6) {
                then.restIt(left - 6);
            } else {
                then.payIt(left);
            }
            sum += then.those(Is.PLAYS).size();
        }
        return sum;
    }

    int keep(int slot) {
        if (!within(slot, 0, 1)) {
            return UNKNOWN;
        }
        slots[slot] = now.copy();
        return now.time;
    }

    int again(int slot) {
        if (!within(slot, 0, 1)) {
            return UNKNOWN;
        }
        if (slots[slot] == null) {
            return STATE;
        }
        now = slots[slot].copy();
        row.clear();
        return now.time;
    }

    int count(int what) {
        int taken = 0;
        for (int i : now.taken) {
            taken += 1 << i;
        }
        int[] all = {text.length(), players.size(), bars.size(), now.time, now.hat, now.bits(Is.PLAYS),
            now.bits(Is.PAID), now.bits(Is.TIRED), now.silent() ? NONE : now.next, taken, row.size(), said.size()};
        return what < 0 || what >= all.length ? OUTSIDE : all[what];
    }
}
