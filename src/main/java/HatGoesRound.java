/**
 * An orchestra plays for nothing until it is bribed to stop.
 *
 * All calls of a run share one room, so that all objects and arrays are made by the constructor: no later
 * call makes any. Questions about bars to come are played on a copy of the moment that is used again.
 */
public final class HatGoesRound {
    public static final int UNKNOWN = -1, OUTSIDE = -2, STATE = -3, FULL = -4, NONE = -9;

    private static final int LETTERS_MOST = 56, PLAYERS_MOST = 6, BARS_MOST = 8;
    private static final int SETS = 64;
    private static final int ACTS_MOST = 14, SLOTS = 2, HEARD_MOST = 6, DOINGS_MOST = 4;
    private static final int HAT_MOST = 99, GIFT_MOST = 9;
    // AHEAD_MOST holds for what is hushed, heard or torn: the document tells all three 9 bars.
    private static final int LATER_MOST = 30, AHEAD_MOST = 9, LOUD_MOST = 12, NIGHTS_MOST = 30;
    private static final int SHARE_BARS = 6, REST_BARS = 3, GIFTS = 3, GIFT_STEP = 3, QUIET_WORTH = 8;
    private static final int TENTHS = 10;
    private static final int ROUNDS_MOST = 64;
    private static final int NOBODY = 6;

    private static final int LEANER = 1, BASS = 2, DRUM = 3;
    private static final int PLAYER_FIGURES = 4, BAR_FIGURES = 2;
    private static final int BASS_NOISE = 5, DRUM_WIND = 2;
    private static final int[] FACTORIALS = {1, 1, 2, 6, 24, 120, 720};

    private static final long SEED_TIMES = 6364136223846793005L, SEED_MORE = 1442695040888963407L;
    private static final int SEED_SHIFT = 33, SEED_KINDS = 26;

    private final int[] letters = new int[LETTERS_MOST];
    private int length;
    private Told told = new Told();
    private Told draft = new Told();
    private final Moment now = new Moment();
    private final Moment before = new Moment();
    private final Moment work = new Moment();
    private final Acts acts = new Acts();
    private final Moment[] kept = new Moment[SLOTS];
    private int keptSlots;
    private final Heard heard = new Heard();
    private long chance;
    private final int[] noises = new int[SETS];

    public HatGoesRound() {
        for (int slot = 0; slot < kept.length; slot++) {
            kept[slot] = new Moment();
        }
    }

    // ---- the concert

    public int write(int letter) {
        if (letter < 0 || letter > 255) {
            return OUTSIDE;
        }
        if (length >= LETTERS_MOST) {
            return FULL;
        }
        put(letters, length, letter);
        length++;
        return length;
    }

    public int wipe() {
        int was = length;
        length = 0;
        return was;
    }

    public int fault() {
        return draft.read(letters, length);
    }

    public int concert() {
        if (draft.read(letters, length) != NONE) {
            return STATE;
        }
        Told old = told;
        told = draft;
        draft = old;
        now.begin(told);
        acts.clear();
        keptSlots = 0;
        return 10 * told.players + told.bars;
    }

    public int player(int player, int what) {
        if (!told.hasPlayer(player)) {
            return UNKNOWN;
        }
        switch (what) {
            case 0:
                return at(told.prices, player);
            case 1:
                return now.windOf(player);
            case 2:
                return at(told.kinds, player);
            case 3:
                return at(told.looks, player);
            case 4:
                return now.isPlaying(player) ? 0 : now.isPaid(player) ? 1 : 2;
            default:
                return OUTSIDE;
        }
    }

    public int score(int bar, int what) {
        if (!told.hasBar(bar)) {
            return UNKNOWN;
        }
        switch (what) {
            case 0:
                return at(told.noises, bar);
            case 1:
                return at(told.repeats, bar);
            case 2:
                return now.isTaken(bar) ? 1 : 0;
            default:
                return OUTSIDE;
        }
    }

    // ---- acts

    public int bar() {
        before.become(now);
        if (!now.playBar(told)) {
            return STATE;
        }
        acts.add(before);
        return now.howManyPlay();
    }

    public int give(int n) {
        before.become(now);
        if (!now.takeGift(n)) {
            return OUTSIDE;
        }
        acts.add(before);
        return now.hat;
    }

    public int pay(int player) {
        if (!told.hasPlayer(player)) {
            return UNKNOWN;
        }
        before.become(now);
        if (!now.payFromHat(told, player)) {
            return STATE;
        }
        acts.add(before);
        return now.hat;
    }

    public int rest(int player) {
        if (!told.hasPlayer(player)) {
            return UNKNOWN;
        }
        before.become(now);
        if (!now.restPlayer(told, player)) {
            return STATE;
        }
        acts.add(before);
        return now.windOf(player);
    }

    public int encore() {
        before.become(now);
        if (!now.beginAgain(told)) {
            return STATE;
        }
        acts.add(before);
        return now.howManyPlay();
    }

    public int undo() {
        if (!acts.takeLast(now)) {
            return STATE;
        }
        return acts.size;
    }

    // ---- bars to come

    public int later(int n, int what) {
        if (n < 0 || n > LATER_MOST || what < 0 || what > 1) {
            return OUTSIDE;
        }
        work.become(now);
        work.playBars(told, n);
        return what == 0 ? work.playing : work.barToCome(told);
    }

    public int stops() {
        work.become(now);
        for (int n = 0; n <= LATER_MOST; n++) {
            if (!work.playBar(told)) {
                return n;
            }
        }
        return NONE;
    }

    public int hush(int n, int what) {
        if (n < 0 || n > AHEAD_MOST || what < 0 || what > 1) {
            return OUTSIDE;
        }
        int set = cheapestHush(n);
        return what == 0 ? told.priceOf(set) : set;
    }

    public int loud(int n, int what) {
        if (n < 1 || n > LOUD_MOST || what < 0 || what > 1) {
            return OUTSIDE;
        }
        int who = NOBODY;
        int most = -1;
        for (int player = 0; player <= NOBODY; player++) {
            work.become(now);
            if (player == NOBODY || work.restPlayer(told, player)) {
                int noise = work.playNoise(told, n);
                if (noise > most) {
                    most = noise;
                    who = player;
                }
            }
        }
        return what == 0 ? who : most;
    }

    public int judge(int n, long row) {
        if (n < 1 || n > DOINGS_MOST) {
            return OUTSIDE;
        }
        long unit = 1;
        for (int i = 0; i < n; i++) {
            unit *= 1000;
        }
        if (row < 0 || row >= unit) {
            return OUTSIDE;
        }
        work.become(now);
        for (int place = 0; place < n; place++) {
            unit /= 1000;
            if (unit < 1 || !work.doIfItCanBe(told, (int) (row / unit % 1000))) {
                return place;
            }
        }
        return NONE;
    }

    // ---- heard

    public int hear(int player, int n, int plays) {
        if (!told.hasPlayer(player)) {
            return UNKNOWN;
        }
        if (n < 0 || n > AHEAD_MOST || plays < 0 || plays > 1) {
            return OUTSIDE;
        }
        if (heard.size >= HEARD_MOST) {
            return FULL;
        }
        heard.add(player, n, plays);
        return heard.size;
    }

    public int unhear() {
        int was = heard.size;
        heard.size = 0;
        return was;
    }

    public int pays(int what) {
        if (what < 0 || what > 1) {
            return OUTSIDE;
        }
        int many = 0;
        int first = NONE;
        for (int set = 0; set < SETS; set++) {
            if (now.isSetOfPlaying(set) && explainsHeard(set)) {
                many++;
                if (first == NONE) {
                    first = set;
                }
            }
        }
        return what == 0 ? many : first;
    }

    // ---- shares, rests, chances

    public int share(int player, boolean upper) {
        if (!told.hasPlayer(player)) {
            return UNKNOWN;
        }
        int everybody = told.everybody();
        for (int come = 0; come <= everybody; come++) {
            work.become(now);
            work.payFreely(everybody & ~come);
            put(noises, come, work.playNoise(told, SHARE_BARS));
        }
        int own = 1 << player;
        int above = 0;
        for (int come = 0; come <= everybody; come++) {
            if ((come & own) == 0) {
                int came = Integer.bitCount(come);
                int orders = at(FACTORIALS, came) * at(FACTORIALS, told.players - 1 - came);
                above += orders * (at(noises, come | own) - at(noises, come));
            }
        }
        return fraction(above, at(FACTORIALS, told.players), upper);
    }

    public int rests(int what) {
        if (what < 0 || what > 1) {
            return OUTSIDE;
        }
        int price = told.priceOf(cheapestHush(REST_BARS));
        int many = 0;
        int first = NONE;
        for (int one = 0; one < GIFTS; one++) {
            for (int other = 0; other < GIFTS; other++) {
                if (isBestAnswer(one, other, price) && isBestAnswer(other, one, price)) {
                    many++;
                    if (first == NONE) {
                        first = 10 * one + other;
                    }
                }
            }
        }
        return what == 0 ? many : first;
    }

    public int strings(int n, int x, boolean upper) {
        if (n < 0 || n > AHEAD_MOST || x < 0 || x > TENTHS) {
            return OUTSIDE;
        }
        int many = now.howManyPlay();
        int above = 0;
        for (int set = 0; set < SETS; set++) {
            if (now.isSetOfPlaying(set)) {
                work.become(now);
                work.tire(set);
                work.playBars(told, n);
                if (work.isSilent(told)) {
                    int torn = Integer.bitCount(set);
                    above += power(x, torn) * power(TENTHS - x, many - torn);
                }
            }
        }
        return fraction(above, power(TENTHS, many), upper);
    }

    public long seed(long v) {
        long was = chance;
        chance = v;
        return was;
    }

    public int nights(int m) {
        if (m < 1 || m > NIGHTS_MOST) {
            return OUTSIDE;
        }
        work.become(now);
        int together = 0;
        for (int i = 0; i < m; i++) {
            chance = chance * SEED_TIMES + SEED_MORE;
            work.doByChance(told, (int) ((chance >>> SEED_SHIFT) % SEED_KINDS));
            together += work.howManyPlay();
        }
        return together;
    }

    // ---- slots

    public int keep(int slot) {
        Moment held = momentAt(kept, slot);
        if (held == null) {
            return UNKNOWN;
        }
        held.become(now);
        keptSlots |= 1 << slot;
        return now.time;
    }

    public int again(int slot) {
        Moment held = momentAt(kept, slot);
        if (held == null) {
            return UNKNOWN;
        }
        if ((keptSlots >> slot & 1) == 0) {
            return STATE;
        }
        now.become(held);
        acts.clear();
        return now.time;
    }

    public int count(int what) {
        switch (what) {
            case 0:
                return length;
            case 1:
                return told.players;
            case 2:
                return told.bars;
            case 3:
                return now.time;
            case 4:
                return now.hat;
            case 5:
                return now.playing;
            case 6:
                return now.paid;
            case 7:
                return now.tired(told);
            case 8:
                return now.barToCome(told);
            case 9:
                return now.taken;
            case 10:
                return acts.size;
            case 11:
                return heard.size;
            default:
                return OUTSIDE;
        }
    }

    // ---- what several calls need

    private int cheapestHush(int n) {
        // Whoever pays everybody has silence at once, so that there is an answer to begin with.
        int best = now.playing;
        for (int set = 0; set < SETS; set++) {
            if (now.isSetOfPlaying(set) && told.isCheaper(set, best) && isSilentBehind(set, n)) {
                best = set;
            }
        }
        return best;
    }

    private boolean isSilentBehind(int paidSet, int n) {
        work.become(now);
        work.payFreely(paidSet);
        work.playBars(told, n);
        return work.isSilent(told);
    }

    private boolean explainsHeard(int paidSet) {
        work.become(now);
        work.payFreely(paidSet);
        for (int n = 0; n <= AHEAD_MOST; n++) {
            if (!heard.agrees(told, work, n)) {
                return false;
            }
            work.playBars(told, 1);
        }
        return true;
    }

    private static boolean isBestAnswer(int own, int others, int price) {
        int has = streetHas(own, others, price);
        for (int gift = 0; gift < GIFTS; gift++) {
            if (streetHas(gift, others, price) > has) {
                return false;
            }
        }
        return true;
    }

    private static int streetHas(int own, int others, int price) {
        // Whom the hush names brings silence, and for less there is none: so the price alone decides it.
        boolean silence = GIFT_STEP * (own + others) >= price;
        return (silence ? QUIET_WORTH : 0) - GIFT_STEP * own;
    }

    private static int power(int base, int times) {
        int product = 1;
        for (int i = 0; i < times; i++) {
            product *= base;
        }
        return product;
    }

    private static int fraction(int above, int below, boolean upper) {
        int divisor = Math.abs(above);
        int left = below;
        for (int round = 0; round < ROUNDS_MOST && left > 0; round++) {
            int smaller = divisor % left;
            divisor = left;
            left = smaller;
        }
        // No fraction has 0 below, so that this is never the answer; it is the look at the divisor.
        if (divisor < 1) {
            return OUTSIDE;
        }
        return upper ? above / divisor : below / divisor;
    }

    private static int at(int[] row, int place) {
        return place >= 0 && place < row.length ? row[place] : 0;
    }

    private static void put(int[] row, int place, int value) {
        if (place >= 0 && place < row.length) {
            row[place] = value;
        }
    }

    private static Moment momentAt(Moment[] row, int place) {
        return place >= 0 && place < row.length ? row[place] : null;
    }

    /** What a text tells of players and bars; nothing of it changes while the concert goes on. */
    private static final class Told {
        int players;
        int bars;
        final int[] prices = new int[PLAYERS_MOST];
        final int[] winds = new int[PLAYERS_MOST];
        final int[] kinds = new int[PLAYERS_MOST];
        final int[] looks = new int[PLAYERS_MOST];
        final int[] noises = new int[BARS_MOST];
        final int[] repeats = new int[BARS_MOST];

        Told() {
        }

        /** Takes in what the letters tell, as far as they can be a concert: the first fault, or NONE. */
        int read(int[] letters, int length) {
            players = 0;
            bars = 0;
            if (length < 1 || at(letters, 0) != 'O') {
                return 0;
            }
            boolean inPlayer = false;
            int due = 0;
            for (int place = 1; place < length; place++) {
                int letter = at(letters, place);
                if (due == 0) {
                    inPlayer = letter == 'P';
                    due = figuresOfNewPart(letter);
                    if (due == 0) {
                        return place;
                    }
                } else {
                    int value = letter - '0';
                    if (!(inPlayer ? takePlayerFigure(due, value) : takeBarFigure(due, value))) {
                        return place;
                    }
                    due--;
                }
            }
            return due == 0 ? NONE : length;
        }

        int figuresOfNewPart(int letter) {
            if (letter == 'P' && players < PLAYERS_MOST) {
                players++;
                return PLAYER_FIGURES;
            }
            if (letter == 'B' && bars < BARS_MOST) {
                bars++;
                return BAR_FIGURES;
            }
            return 0;
        }

        boolean takePlayerFigure(int due, int value) {
            int player = players - 1;
            switch (due) {
                case 4:
                    return takeWithin(prices, player, value, 1, 9);
                case 3:
                    return takeWithin(winds, player, value, 0, 9);
                case 2:
                    return takeWithin(kinds, player, value, 0, DRUM);
                case 1:
                    return takeWithin(looks, player, value, 0, PLAYERS_MOST - 1);
                default:
                    return false;
            }
        }

        boolean takeBarFigure(int due, int value) {
            int bar = bars - 1;
            switch (due) {
                case 2:
                    return takeWithin(noises, bar, value, 0, 9);
                case 1:
                    return takeWithin(repeats, bar, value, 0, 7);
                default:
                    return false;
            }
        }

        boolean takeWithin(int[] row, int place, int value, int least, int most) {
            if (value < least || value > most) {
                return false;
            }
            put(row, place, value);
            return true;
        }

        boolean hasPlayer(int player) {
            return player >= 0 && player < players;
        }

        boolean hasBar(int bar) {
            return bar >= 0 && bar < bars;
        }

        int everybody() {
            return (1 << players) - 1;
        }

        int priceOf(int set) {
            int sum = 0;
            for (int player = 0; player < players; player++) {
                if ((set >> player & 1) == 1) {
                    sum += at(prices, player);
                }
            }
            return sum;
        }

        boolean isCheaper(int set, int than) {
            int byPrice = Integer.compare(priceOf(set), priceOf(than));
            int bySize = Integer.compare(Integer.bitCount(set), Integer.bitCount(than));
            return byPrice != 0 ? byPrice < 0 : bySize != 0 ? bySize < 0 : set < than;
        }
    }

    /** How a concert stands; who neither plays nor is paid is tired. */
    private static final class Moment {
        int playing;
        int paid;
        int next;
        int taken;
        int hat;
        int time;
        final int[] wind = new int[PLAYERS_MOST];

        Moment() {
        }

        void begin(Told told) {
            playing = told.everybody();
            paid = 0;
            next = 0;
            taken = 0;
            hat = 0;
            time = 0;
            for (int player = 0; player < PLAYERS_MOST; player++) {
                put(wind, player, told.hasPlayer(player) ? at(told.winds, player) : 0);
            }
        }

        void become(Moment other) {
            playing = other.playing;
            paid = other.paid;
            next = other.next;
            taken = other.taken;
            hat = other.hat;
            time = other.time;
            for (int player = 0; player < PLAYERS_MOST; player++) {
                put(wind, player, at(other.wind, player));
            }
        }

        boolean isPlaying(int player) {
            return (playing >> player & 1) == 1;
        }

        boolean isPaid(int player) {
            return (paid >> player & 1) == 1;
        }

        boolean isTaken(int bar) {
            return (taken >> bar & 1) == 1;
        }

        boolean isTired(int player) {
            return !isPlaying(player) && !isPaid(player);
        }

        boolean isSetOfPlaying(int set) {
            return (set & ~playing) == 0;
        }

        int tired(Told told) {
            return told.everybody() & ~playing & ~paid;
        }

        int windOf(int player) {
            return at(wind, player);
        }

        int howManyPlay() {
            return Integer.bitCount(playing);
        }

        boolean isSilent(Told told) {
            return playing == 0 || next >= told.bars;
        }

        int barToCome(Told told) {
            return isSilent(told) ? NONE : next;
        }

        boolean playBar(Told told) {
            if (isSilent(told)) {
                return false;
            }
            spendWind(told);
            tireLeaners(told);
            tireLonelyBasses(told);
            wakeDrums(told);
            turnPage(told);
            time++;
            return true;
        }

        void spendWind(Told told) {
            boolean loud = at(told.noises, next) >= BASS_NOISE;
            for (int player = 0; player < told.players; player++) {
                if (isPlaying(player)) {
                    int spent = loud && at(told.kinds, player) == BASS ? 2 : 1;
                    int left = Math.max(0, windOf(player) - spent);
                    put(wind, player, left);
                    if (left == 0) {
                        tire(1 << player);
                    }
                }
            }
        }

        void tireLeaners(Told told) {
            for (int player = 0; player < told.players; player++) {
                int looksTo = at(told.looks, player);
                if (at(told.kinds, player) == LEANER && told.hasPlayer(looksTo) && !isPlaying(looksTo)) {
                    tire(1 << player);
                }
            }
        }

        void tireLonelyBasses(Told told) {
            for (int player = 0; player < told.players; player++) {
                if (isPlaying(player) && at(told.kinds, player) != BASS) {
                    return;
                }
            }
            playing = 0;
        }

        void wakeDrums(Told told) {
            for (int player = 0; player < told.players; player++) {
                int looksTo = at(told.looks, player);
                if (at(told.kinds, player) == DRUM && isTired(player) && told.hasPlayer(looksTo) && isPlaying(looksTo)) {
                    playing |= 1 << player;
                    put(wind, player, DRUM_WIND);
                }
            }
        }

        void turnPage(Told told) {
            int back = at(told.repeats, next) - 1;
            if (told.hasBar(back) && !isTaken(next)) {
                taken |= 1 << next;
                next = back;
            } else {
                next++;
            }
        }

        /** Plays so many bars, or fewer if it is silent before: the noise of them. */
        int playNoise(Told told, int n) {
            int sum = 0;
            for (int i = 0; i < n && !isSilent(told); i++) {
                sum += at(told.noises, next) * howManyPlay();
                playBar(told);
            }
            return sum;
        }

        void playBars(Told told, int n) {
            for (int i = 0; i < n; i++) {
                playBar(told);
            }
        }

        boolean takeGift(int n) {
            if (n < 1 || n > GIFT_MOST) {
                return false;
            }
            hat = Math.min(HAT_MOST, hat + n);
            return true;
        }

        boolean payFromHat(Told told, int player) {
            if (!told.hasPlayer(player) || !isPlaying(player) || hat < at(told.prices, player)) {
                return false;
            }
            hat -= at(told.prices, player);
            payFreely(1 << player);
            return true;
        }

        boolean restPlayer(Told told, int player) {
            if (!told.hasPlayer(player) || !isTired(player) || at(told.winds, player) == 0) {
                return false;
            }
            put(wind, player, at(told.winds, player));
            playing |= 1 << player;
            return true;
        }

        boolean beginAgain(Told told) {
            if (told.bars == 0) {
                return false;
            }
            next = 0;
            taken = 0;
            return true;
        }

        /** Whoever is in the set plays no more, whatever the hat has. */
        void payFreely(int set) {
            playing &= ~set;
            paid |= set;
        }

        void tire(int set) {
            playing &= ~set;
        }

        boolean doIfItCanBe(Told told, int figures) {
            int first = figures / 100;
            int last = figures % 10;
            if (first == 5) {
                return hat >= figures % 100;
            }
            if (figures / 10 % 10 != 0) {
                return false;
            }
            switch (first) {
                case 0:
                    return last == 0 && playBar(told);
                case 1:
                    return takeGift(last);
                case 2:
                    return payFromHat(told, last);
                case 3:
                    return restPlayer(told, last);
                case 4:
                    return told.hasPlayer(last) && isPlaying(last);
                default:
                    return false;
            }
        }

        void doByChance(Told told, int drawn) {
            if (drawn < 6) {
                payFromHat(told, drawn);
            } else if (drawn < 12) {
                restPlayer(told, drawn - 6);
            } else if (drawn < 15) {
                takeGift(drawn - 11);
            } else if (drawn == 15) {
                beginAgain(told);
            } else {
                playBar(told);
            }
        }
    }

    /** The moments before the last acts; of more than there is room for the oldest is forgotten. */
    private static final class Acts {
        final Moment[] befores = new Moment[ACTS_MOST];
        int first;
        int size;

        Acts() {
            for (int place = 0; place < befores.length; place++) {
                befores[place] = new Moment();
            }
        }

        void clear() {
            first = 0;
            size = 0;
        }

        void add(Moment before) {
            Moment room = momentAt(befores, (first + size) % ACTS_MOST);
            if (room == null) {
                return;
            }
            room.become(before);
            if (size < ACTS_MOST) {
                size++;
            } else {
                first = (first + 1) % ACTS_MOST;
            }
        }

        boolean takeLast(Moment into) {
            Moment last = size > 0 ? momentAt(befores, (first + size - 1) % ACTS_MOST) : null;
            if (last == null) {
                return false;
            }
            into.become(last);
            size--;
            return true;
        }
    }

    /** What was heard: of a player, behind so many bars, whether it played. */
    private static final class Heard {
        final int[] players = new int[HEARD_MOST];
        final int[] bars = new int[HEARD_MOST];
        final int[] played = new int[HEARD_MOST];
        int size;

        Heard() {
        }

        void add(int player, int n, int plays) {
            put(players, size, player);
            put(bars, size, n);
            put(played, size, plays);
            size++;
        }

        /** Whether the moment, so many bars on, is as it was heard; players that are gone are passed over. */
        boolean agrees(Told told, Moment moment, int n) {
            for (int i = 0; i < size; i++) {
                int player = at(players, i);
                if (at(bars, i) == n && told.hasPlayer(player)
                    && moment.isPlaying(player) != (at(played, i) == 1)) {
                    return false;
                }
            }
            return true;
        }
    }
}
