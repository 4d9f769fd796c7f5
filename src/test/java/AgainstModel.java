import java.util.Random;

/** Long runs of calls drawn by fixed seeds: the program and the model must answer alike. */
public final class AgainstModel {
    private static final Due DUE = new Due("AgainstModel");
    private static final int RUNS = 1000, CALLS = 512;

    private final Random random;
    private final HatGoesRound x = new HatGoesRound();
    private final Model model = new Model();
    private final int run;
    private int calls;

    private AgainstModel(int run) {
        this.run = run;
        random = new Random(run);
    }

    public static void main(String[] args) {
        for (int run = 0; run < RUNS; run++) {
            new AgainstModel(run).play();
        }
        DUE.end();
    }

    private void is(String call, long got, long want) {
        calls++;
        DUE.is("run " + run + " call " + calls + " " + call, got, want);
    }

    private int to(int most) {
        return random.nextInt(most + 1);
    }

    /** Mostly within, now and then one of the next numbers outside. */
    private int near(int least, int most) {
        return random.nextInt(12) == 0 ? (random.nextBoolean() ? least - 1 : most + 1) : least + to(most - least);
    }

    private String text() {
        StringBuilder all = new StringBuilder("O");
        int players = to(6);
        int bars = random.nextInt(8) == 0 ? 0 : 1 + to(7);
        int windMost = random.nextBoolean() ? 9 : 3;
        while (players + bars > 0) {
            if (to(players + bars - 1) < players) {
                players--;
                int looks = random.nextInt(3) == 0 ? to(5) : to(2);
                all.append('P').append(1 + to(8)).append(to(windMost)).append(to(3)).append(looks);
            } else {
                bars--;
                int repeat = random.nextInt(3) == 0 ? to(7) : random.nextBoolean() ? 1 : 0;
                all.append('B').append(to(9)).append(repeat);
            }
        }
        if (random.nextInt(6) == 0) {
            all.setCharAt(to(all.length() - 1), "OPB0123456789:X".charAt(to(14)));
        }
        if (random.nextInt(10) == 0) {
            all.setLength(to(all.length()));
        }
        return all.toString();
    }

    private void tell() {
        String text = text();
        is("wipe", x.wipe(), model.wipe());
        for (int i = 0; i < text.length(); i++) {
            is("write", x.write(text.charAt(i)), model.write(text.charAt(i)));
        }
        is("fault of " + text, x.fault(), model.fault());
        is("concert of " + text, x.concert(), model.concert());
    }

    private void play() {
        tell();
        while (calls < CALLS - 70) {
            int kind = random.nextInt(100);
            if (kind < 1) {
                tell();
            } else if (kind < 55) {
                act();
            } else {
                ask();
            }
        }
    }

    private void act() {
        int n = near(0, 5);
        switch (random.nextInt(10)) {
            case 0, 1, 2, 3 -> is("bar()", x.bar(), model.bar());
            case 4 -> give(near(1, 9));
            case 5 -> is("pay(" + n + ")", x.pay(n), model.pay(n));
            case 6 -> is("rest(" + n + ")", x.rest(n), model.rest(n));
            case 7 -> rarely(n);
            case 8 -> is("undo()", x.undo(), model.undo());
            default -> hear(n, near(0, 9), near(0, 1));
        }
    }

    private void rarely(int n) {
        switch (n) {
            case 0, 1 -> is("encore()", x.encore(), model.encore());
            case 2 -> slots(near(0, 1), near(0, 1));
            case 3 -> is("unhear()", x.unhear(), model.unhear());
            case 4 -> seed(random.nextLong());
            default -> is("undo()", x.undo(), model.undo());
        }
    }

    private void give(int n) {
        is("give(" + n + ")", x.give(n), model.give(n));
    }

    private void hear(int player, int n, int plays) {
        is("hear(" + player + ", " + n + ", " + plays + ")", x.hear(player, n, plays), model.hear(player, n, plays));
    }

    private void slots(int keep, int again) {
        is("keep(" + keep + ")", x.keep(keep), model.keep(keep));
        if (random.nextBoolean()) {
            is("again(" + again + ")", x.again(again), model.again(again));
        }
    }

    private void seed(long v) {
        is("seed(" + v + ")", x.seed(v), model.seed(v));
    }

    private void ask() {
        int what = near(0, 1);
        int n = near(0, 9);
        boolean upper = random.nextBoolean();
        switch (random.nextInt(14)) {
            case 0 -> later(near(0, 30), what);
            case 1 -> is("stops()", x.stops(), model.stops());
            case 2, 3 -> is("hush(" + n + ", " + what + ")", x.hush(n, what), model.hush(n, what));
            case 4 -> loud(near(1, 12), what);
            case 5 -> judge(near(1, 4));
            case 6 -> is("pays(" + what + ")", x.pays(what), model.pays(what));
            case 7 -> share(random.nextInt(4) == 0 ? near(0, 5) : to(5), upper);
            case 8 -> is("rests(" + what + ")", x.rests(what), model.rests(what));
            case 9, 10 -> strings(n, near(0, 10), upper);
            case 11 -> nights(near(1, 30));
            default -> state();
        }
    }

    private void later(int n, int what) {
        is("later(" + n + ", " + what + ")", x.later(n, what), model.later(n, what));
    }

    private void loud(int n, int what) {
        is("loud(" + n + ", " + what + ")", x.loud(n, what), model.loud(n, what));
    }

    private void judge(int n) {
        StringBuilder row = new StringBuilder();
        for (int i = 0; i < n; i++) {
            int kind = to(5);
            row.append(kind).append(kind == 5 ? to(2) : random.nextInt(15) == 0 ? 1 : 0);
            row.append(kind == 0 ? random.nextInt(15) / 14 : kind == 1 ? to(9) : to(kind == 5 ? 9 : 4));
        }
        long figures = n < 1 ? 0 : random.nextInt(20) == 0 ? random.nextLong() : Long.parseLong(row.toString());
        is("judge(" + n + ", " + figures + ")", x.judge(n, figures), model.judge(n, figures));
    }

    private void share(int player, boolean upper) {
        is("share(" + player + ", " + upper + ")", x.share(player, upper), model.share(player, upper));
    }

    private void strings(int n, int tenths, boolean upper) {
        is("strings(" + n + ", " + tenths + ", " + upper + ")", x.strings(n, tenths, upper),
            model.strings(n, tenths, upper));
    }

    private void nights(int m) {
        is("nights(" + m + ")", x.nights(m), model.nights(m));
        if (random.nextBoolean()) {
            seed(random.nextLong());
        }
    }

    private void state() {
        int what = near(0, 11);
        is("count(" + what + ")", x.count(what), model.count(what));
        int player = near(0, 5);
        int ofPlayer = near(0, 4);
        is("player(" + player + ", " + ofPlayer + ")", x.player(player, ofPlayer), model.player(player, ofPlayer));
        int bar = near(0, 7);
        int ofBar = near(0, 2);
        is("score(" + bar + ", " + ofBar + ")", x.score(bar, ofBar), model.score(bar, ofBar));
        is("fault()", x.fault(), model.fault());
    }
}
