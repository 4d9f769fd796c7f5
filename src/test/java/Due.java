/** Counts the answers that are not as due, and makes concerts from texts. */
final class Due {
    private final String test;
    private int asked;
    private int wrong;

    Due(String test) {
        this.test = test;
    }

    void is(String call, long got, long want) {
        asked++;
        if (got != want) {
            wrong++;
            System.out.println(test + ": " + call + " answered " + got + ", due is " + want);
        }
    }

    /**
     * What a call must leave as it was, in a few calls, for an object answers no more than 512: equal texts,
     * equal states.
     */
    static String allOf(HatGoesRound x) {
        StringBuilder all = new StringBuilder();
        for (int what = 0; what <= 11; what++) {
            all.append(x.count(what)).append(' ');
        }
        for (int player = 0; player < 6; player++) {
            all.append(x.player(player, 1)).append(' ');
        }
        all.append(x.fault()).append(' ').append(x.pays(0));
        long seed = x.seed(0);
        x.seed(seed);
        return all.append(' ').append(seed).toString();
    }

    void same(String call, String got, String want) {
        asked++;
        if (!got.equals(want)) {
            wrong++;
            System.out.println(test + ": " + call + " left\n  " + got + ", due is\n  " + want);
        }
    }

    /** The object with this text instead of its own. */
    static HatGoesRound tell(HatGoesRound x, String text) {
        x.wipe();
        for (int i = 0; i < text.length(); i++) {
            x.write(text.charAt(i));
        }
        return x;
    }

    static HatGoesRound written(String text) {
        return tell(new HatGoesRound(), text);
    }

    static HatGoesRound concert(String text) {
        HatGoesRound x = written(text);
        if (x.concert() < 0) {
            throw new IllegalStateException("no concert: " + text);
        }
        return x;
    }

    static HatGoesRound bars(HatGoesRound x, int n) {
        for (int i = 0; i < n; i++) {
            x.bar();
        }
        return x;
    }

    void end() {
        System.out.println(test + ": " + asked + " asked, " + wrong + " wrong");
        if (wrong != 0) {
            System.exit(1);
        }
    }
}
