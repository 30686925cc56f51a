import java.util.Arrays;

/** Objects that have something of all there can be, and all that can be asked of an object. */
final class Lived {
    static final String TRUG = "trug 40 2;sorrow 3 6 5;sorrow 4 9 8;sorrow 2 4 3;sorrow 5 3 7;under 1 0;"
            + "carrier 6;carrier 4";
    // What stays on the tape: a trug yet to be read.
    static final String TAPE = "trug 9 3;sorrow 1 1 1";
    static final int MOST_CALLS = 512;

    private final BeanTrug x;
    private int[] answers = new int[MOST_CALLS];
    private int many = 0;

    private Lived(BeanTrug x) {
        this.x = x;
    }

    /**
     * Four sorrows: 0 is loose, 1 lies under it, 2 is loose, 3 was let be by a step. It is minute 4, STEP 1; five
     * acts, two notes, two rules, the second in force, x is 77, images 0 and 2.
     */
    static BeanTrug one() {
        BeanTrug x = Trial.with(TRUG);
        Trial.tellRule(x, "lift 9 - time");
        Trial.tellRule(x, "lift deep");
        x.image(2);
        x.force(1);
        x.seed(77);
        x.note(0, 3);
        x.note(9, -1);
        x.await(1);
        x.image(0);
        x.lighten(2, 7);
        x.lay(2, 0);
        x.lay(2, 0);
        x.step();
        Trial.onTape(x, TAPE);
        return x;
    }

    /** No trug, but rules, one of them in force, x, an image and something on the tape. */
    static BeanTrug bare() {
        BeanTrug x = new BeanTrug();
        Trial.tellRule(x, "lift 9 - time");
        Trial.tellRule(x, "lift deep");
        x.force(0);
        x.seed(77);
        x.image(1);
        x.seed(78);
        Trial.onTape(x, TAPE);
        return x;
    }

    /** No trug any more: an image gone back to is of the time ahead of it. */
    static BeanTrug bareAgain() {
        BeanTrug x = bare();
        x.trug();
        x.note(0, 0);
        x.image(3);
        x.step();
        x.back(1);
        return x;
    }

    /** All that can be asked, so that two objects that answer alike are alike. The object is used up by it. */
    static int[] allOf(BeanTrug x) {
        Lived all = new Lived(x);
        all.askAll();
        all.askRules();
        all.undoAll();
        all.goBack();
        all.readTape();
        return Arrays.copyOf(all.answers, all.many);
    }

    private void keep(int answer) {
        if (many == answers.length) {
            throw new IllegalStateException("more than an object's calls");
        }
        answers[many++] = answer;
    }

    private void askAll() {
        for (int what = 0; what <= 15; what++) {
            keep(x.count(what));
        }
        for (int sorrow = 0; sorrow < x.count(2); sorrow++) {
            for (int what = 0; what <= 5; what++) {
                keep(x.sorrow(sorrow, what));
            }
            keep(x.took(sorrow, 0));
            keep(x.took(sorrow, 1));
        }
        for (int carrier = 0; carrier < 4; carrier++) {
            keep(x.carrier(carrier));
        }
        keep(x.ruled(0));
        keep(x.ruled(1));
        keep(x.look(0));
        keep(x.look(1));
        keep(x.years(20, 0));
        keep(x.years(20, 1));
    }

    private void askRules() {
        for (int rule = 0; rule < x.count(4); rule++) {
            keep(x.force(rule));
            keep(x.ahead(1, 0));
            keep(x.ahead(2, 0));
            keep(x.ahead(2, 1));
        }
    }

    private void undoAll() {
        int left = x.undo();
        keep(left);
        while (left >= 0) {
            keep(x.count(6));
            keep(x.count(7));
            keep(x.count(9));
            keep(x.count(11));
            left = x.undo();
            keep(left);
        }
    }

    private void goBack() {
        for (int image = 0; image < 4; image++) {
            keep(x.back(image));
            for (int what = 5; what <= 14; what++) {
                keep(x.count(what));
            }
            keep(x.ruled(0));
            keep(x.sorrow(2, 0));
        }
    }

    // What a text is, is seen by what comes of it: first as a trug, or where its fault is.
    private void readTape() {
        keep(x.trug());
        keep(x.count(0));
        keep(x.count(1));
        keep(x.count(11));
    }
}
