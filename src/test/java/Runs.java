/** Objects brought to where a test begins: a concert by its text, and doings told in a short way. */
final class Runs {
    private Runs() {
    }

    /**
     * The concert of a text, after doings, told by a letter and a number with blanks between: b3 (three bars), g9
     * (give), p0 (pay), r0 (rest), e1 (one encore), u2 (two undone), k0 (keep), a0 (again). None of them may be
     * refused, so that a test never begins elsewhere than it says.
     */
    static HatGoesRound of(String text, String doings) {
        return go(Due.concert(text), doings);
    }

    static HatGoesRound go(HatGoesRound x, String doings) {
        for (String doing : doings.split(" ")) {
            if (!doing.isEmpty()) {
                doOne(x, doing.charAt(0), Integer.parseInt(doing.substring(1)));
            }
        }
        return x;
    }

    private static void doOne(HatGoesRound x, char kind, int n) {
        boolean repeated = kind == 'b' || kind == 'e' || kind == 'u';
        for (int i = 0; i < (repeated ? n : 1); i++) {
            int answer = switch (kind) {
                case 'b' -> x.bar();
                case 'g' -> x.give(n);
                case 'p' -> x.pay(n);
                case 'r' -> x.rest(n);
                case 'e' -> x.encore();
                case 'u' -> x.undo();
                case 'k' -> x.keep(n);
                case 'a' -> x.again(n);
                default -> throw new IllegalStateException("no doing: " + kind);
            };
            if (answer < 0) {
                throw new IllegalStateException("refused: " + kind + n + " answered " + answer);
            }
        }
    }

    /** All that can be told of an object, in some 300 answers; it uses the object up. */
    static String everything(HatGoesRound x) {
        StringBuilder all = new StringBuilder();
        for (int what = 0; what <= 11; what++) {
            all.append(x.count(what)).append(' ');
        }
        for (int player = 0; player < 6; player++) {
            for (int what = 0; what <= 4; what++) {
                all.append(x.player(player, what)).append(' ');
            }
        }
        for (int bar = 0; bar < 8; bar++) {
            for (int what = 0; what <= 2; what++) {
                all.append(x.score(bar, what)).append(' ');
            }
        }
        all.append(x.fault()).append(' ').append(x.pays(0)).append(' ').append(x.pays(1)).append('\n');
        for (int left = x.undo(); left >= 0; left = x.undo()) {
            all.append("undone ").append(left).append(' ').append(moment(x)).append('\n');
        }
        for (int slot = 0; slot < 2; slot++) {
            all.append("slot ").append(x.again(slot)).append(' ').append(moment(x)).append('\n');
        }
        all.append(x.seed(0)).append(' ').append(x.unhear()).append(' ').append(x.pays(0));
        return all.append(' ').append(x.concert()).append(' ').append(x.wipe()).toString();
    }

    private static String moment(HatGoesRound x) {
        StringBuilder all = new StringBuilder();
        for (int what = 3; what <= 9; what++) {
            all.append(x.count(what)).append(' ');
        }
        for (int player = 0; player < 6; player++) {
            all.append(x.player(player, 1)).append(' ');
        }
        return all.toString();
    }
}
