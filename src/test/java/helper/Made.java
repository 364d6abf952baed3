/** Objects that stand as a test wants them. */
final class Made {
    /** Players with worths 0, 1, .. and matches, each 10 times who won and who lost. */
    static SecondBest with(int players, int... matches) {
        SecondBest x = new SecondBest();
        for (int p = 0; p < players; p++) {
            x.player(p);
        }
        for (int wl : matches) {
            x.match(wl);
        }
        return x;
    }

    static SecondBest ofWorths(int... worths) {
        SecondBest x = new SecondBest();
        for (int w : worths) {
            x.player(w);
        }
        return x;
    }

    /** Empties the cup's row and brings these players to it. */
    static SecondBest seated(SecondBest x, int... row) {
        x.cup(-1);
        for (int p : row) {
            x.cup(p);
        }
        return x;
    }

    /** Brings a text to the tape and makes it the law: what law() answers. */
    static int adopt(SecondBest x, String text) {
        for (int i = 0; i < text.length(); i++) {
            x.feed(text.charAt(i));
        }
        return x.law();
    }

    private Made() {
    }
}
