/** The document's Terms, II: each sentence that names an edge of what is lifted and of the acts. */
public final class ActEdgeTest {
    private static final String ONE = "trug 300 0;sorrow 1 1 1";
    private static final String THREE = "trug 20 2;sorrow 3 6 5;sorrow 4 9 8;sorrow 2 4 3;under 1 0";
    private static Sentences s;

    public static void main(String[] args) throws Exception {
        s = new Sentences("ActEdgeTest");
        lifting();
        stepping();
        acts();
        s.close();
    }

    private static void lifting() {
        s.test("A SORROW is IN the trug, LET BE, or LATE.", ActEdgeTest::inLetBeOrLate);
        s.test("It is LOOSE, if it is IN and lies UNDER none that is IN.", ActEdgeTest::isLoose);
        s.test("A SORROW that is IN is LIFTED: the minute is TIME more (9999 at most)", ActEdgeTest::timeMore);
        s.test("it is LET BE, if it is not above DUSK then, else LATE", ActEdgeTest::notAboveDusk);
    }

    private static void stepping() {
        s.test("A STEP: of the SORROWS that are LOOSE that one is LIFTED", ActEdgeTest::onlyLoose);
        s.test("first CLAUSE without a TEST, or whose TEST holds (0 without)", ActEdgeTest::firstClause);
        s.test("is greatest, if it is above 0", ActEdgeTest::greatestAboveNought);
        s.test("of several the least (none, if none is such", ActEdgeTest::ofSeveralTheLeast);
        s.test("a minute goes by then, 9999 at most", ActEdgeTest::aMinuteGoesBy);
        s.test("without a RULE the least", ActEdgeTest::withoutRule);
        s.test("STEP is 1 more (999 at most by hand; STEPS that are asked go on beyond)", ActEdgeTest::stepMore);
    }

    private static void acts() {
        s.test("TAKE (a SORROW that is LOOSE is LIFTED; STEP stays)", ActEdgeTest::take);
        s.test("WAIT (1 to 60 minutes go by, so that the minute is not above 9999)", ActEdgeTest::await);
        s.test("LAY (a SORROW that is IN lies UNDER another one that is IN, or, if it did, no more)", ActEdgeTest::lay);
        s.test("LIGHTEN (a SORROW that is IN has another WEIGHT, 1 to 20)", ActEdgeTest::lighten);
        s.test("The last 20 can be UNDONE, the last first.", ActEdgeTest::undo);
    }

    /** An object in whose trug it is a minute, by waiting alone. */
    private static BeanTrug in(int minute, String trug) {
        BeanTrug x = Trial.with(trug);
        int left = minute;
        while (left > 0) {
            x.await(Math.min(60, left));
            left -= 60;
        }
        return x;
    }

    private static BeanTrug ruledBy(String trug, String rule) {
        BeanTrug x = Trial.with(trug);
        force(x, rule);
        return x;
    }

    private static void force(BeanTrug x, String rule) {
        int number = Trial.tellRule(x, rule);
        if (number < 0) {
            throw new IllegalStateException("the test's own rule has a fault: " + rule);
        }
        x.force(number);
    }

    // ---- lifting ----

    private static void inLetBeOrLate() {
        BeanTrug x = Trial.with(THREE);
        s.due("in", x.sorrow(0, 3), 0);
        s.due("in", x.count(8), 7);
        x.take(0);
        s.due("let be", x.sorrow(0, 3), 1);
        s.due("no more in", x.count(8), 6);
        x.await(15);
        x.take(2);
        s.due("late", x.sorrow(2, 3), 2);
        s.due("no more in", x.count(8), 2);
        s.due("only what is let be counts", x.count(10), 5);
    }

    private static void isLoose() {
        BeanTrug x = Trial.with("trug 9 0;sorrow 1 9 1;sorrow 1 9 1;sorrow 1 1 1;under 1 0;under 2 0;under 2 1");
        s.due("0", x.count(9), 1);
        s.due("2 is not", x.take(2), -1);
        x.take(0);
        s.due("1, over which 0 is let be", x.count(9), 2);
        s.due("2 lies under 1 yet", x.take(2), -1);
        x.take(1);
        s.due("2, over which 1 is late", x.count(9), 4);
        s.due("2 is", x.take(2), 19);
        s.due("none is in", x.count(9), 0);
        s.due("what is not in is not loose", x.take(2), -1);
        BeanTrug y = Trial.with("trug 9 0;sorrow 1 1 1;sorrow 1 1 1;under 0 1;under 1 0");
        s.due("a ring", y.count(9), 0);
        s.due("a ring", y.take(0), -1);
        BeanTrug z = Trial.with("trug 9 0" + ";sorrow 1 1 1".repeat(8));
        s.due("all eight", z.count(9), 255);
    }

    private static void timeMore() {
        String two = "trug 300 0;sorrow 1 1 1;sorrow 1 40 1";
        s.due("1", in(0, two).take(0), 1);
        s.due("40", in(0, two).take(1), 40);
        s.due("9998 and 1", in(9998, two).take(0), 9999);
        s.due("9999 and 1", in(9999, two).take(0), 9999);
        s.due("9958 and 40", in(9958, two).take(1), 9998);
        s.due("9959 and 40", in(9959, two).take(1), 9999);
        s.due("9960 and 40", in(9960, two).take(1), 9999);
        s.due("9999 and 40", in(9999, two).take(1), 9999);
        BeanTrug x = in(9999, two);
        s.due("by a step", x.step(), 0);
        s.due("by a step", x.count(6), 9999);
        s.due("by a step that is asked", x.ahead(1, 0), 9999);
        s.due("the minute of what was lifted", x.sorrow(0, 4), 9999);
        s.due("it is late", x.sorrow(0, 3), 2);
    }

    private static void notAboveDusk() {
        String ten = "trug 10 0;sorrow 1 3 1;sorrow 1 40 1";
        s.due("9", lifted(6, ten, 0), 1);
        s.due("10", lifted(7, ten, 0), 1);
        s.due("11", lifted(8, ten, 0), 2);
        s.due("40", lifted(0, ten, 1), 2);
        s.due("1 at the least dusk", lifted(0, "trug 1 0;sorrow 1 1 1", 0), 1);
        s.due("2 at the least dusk", lifted(0, "trug 1 0;sorrow 1 2 1", 0), 2);
        s.due("300 at the last dusk", lifted(299, ONE, 0), 1);
        s.due("301 at the last dusk", lifted(300, ONE, 0), 2);
        BeanTrug x = in(7, ten);
        s.due("by a step that is asked", x.ahead(1, 1), 1);
        x.await(1);
        s.due("too late, if it is asked", x.ahead(1, 1), 0);
    }

    private static int lifted(int minute, String trug, int sorrow) {
        BeanTrug x = in(minute, trug);
        x.take(sorrow);
        return x.sorrow(sorrow, 3);
    }

    // ---- stepping ----

    private static void onlyLoose() {
        BeanTrug x = ruledBy(THREE, "lift deep");
        s.due("1 goes deepest, but lies under 0", x.step(), 0);
        s.due("1 is loose then", x.step(), 1);
        s.due("2", x.step(), 2);
        s.due("what is not in is none", x.step(), -2);
        s.due("none loose", ruledBy("trug 9 0;sorrow 1 1 1;sorrow 1 1 1;under 0 1;under 1 0", "lift 1").step(), -2);
        s.due("none at all", ruledBy("trug 9 0", "lift 1").step(), -2);
    }

    private static void firstClause() {
        s.due("none holds", ruledBy(ONE, "lift 1 if 1=2").step(), -2);
        s.due("none of several holds", ruledBy(ONE, "lift 1 if 1=2;lift 1 if 1=3").step(), -2);
        s.due("the last holds", ruledBy(ONE, "lift 0 if 1=2;lift 0 if 1=2;lift 1 if 1=1").step(), 0);
        s.due("the first that holds is it", ruledBy(ONE, "lift 0 if 1=1;lift 1").step(), -2);
        s.due("the first without a test is it", ruledBy(ONE, "lift 0;lift 1 if 1=1").step(), -2);
        s.due("of each its own", ruledBy(THREE, "lift 1 if sorrow = 0;lift 2").step(), 2);
        s.due("0 without is not above 0", ruledBy(THREE, "lift 1 if sorrow = 2").step(), 2);
        s.due("0 without is above what is below 0", ruledBy(THREE, "lift 0-5 if sorrow = 0").step(), -2);
    }

    private static void greatestAboveNought() {
        s.due("-1", ruledBy(ONE, "lift 0-1").step(), -2);
        s.due("0", ruledBy(ONE, "lift 0").step(), -2);
        s.due("1", ruledBy(ONE, "lift 1").step(), 0);
        s.due("by 1", ruledBy(THREE, "lift 7 + sorrow / 2").step(), 2);
        String most = "32768*65536*65536*65536-1";
        s.due("the most of 64 bits", ruledBy(ONE, "lift " + most).step(), 0);
        s.due("the most against one less",
                ruledBy(THREE, "lift " + most + " if sorrow = 2;lift " + most + "-1").step(), 2);
        s.due("beyond 32 bits", ruledBy(THREE, "lift 65536*65536 if sorrow = 2;lift 65535*65536").step(), 2);
        s.due("0 against below", ruledBy(THREE, "lift 0 if sorrow = 0;lift 0-1").step(), -2);
    }

    private static void ofSeveralTheLeast() {
        s.due("alike", ruledBy(THREE, "lift 5").step(), 0);
        String eight = "trug 9 0" + ";sorrow 1 1 1".repeat(8);
        s.due("6 and 7 alike", ruledBy(eight, "lift 1 if sorrow < 6;lift 2").step(), 6);
        s.due("7 alone", ruledBy(eight, "lift 1 if sorrow < 7;lift 2").step(), 7);
        s.due("none is such", ruledBy(eight, "lift 0").step(), -2);
    }

    private static void aMinuteGoesBy() {
        BeanTrug x = ruledBy(ONE, "lift 0");
        s.due("none", x.step(), -2);
        s.due("a minute", x.count(6), 1);
        s.due("a step", x.count(7), 1);
        s.due("none is lifted", x.count(8), 1);
        BeanTrug y = in(9998, ONE);
        force(y, "lift 0");
        s.due("none", y.step(), -2);
        s.due("9999", y.count(6), 9999);
        s.due("none", y.step(), -2);
        s.due("9999 yet", y.count(6), 9999);
        s.due("but a step", y.count(7), 2);
        s.due("if it is asked", y.ahead(100, 0), 9999);
        BeanTrug z = Trial.with("trug 9 0");
        s.due("an empty trug", z.step(), -2);
        s.due("a minute goes by over it", z.count(6), 1);
        BeanTrug ring = Trial.with("trug 9 0;sorrow 1 1 1;sorrow 1 1 1;under 0 1;under 1 0");
        s.due("none loose, no rule", ring.step(), -2);
        s.due("a minute goes by over it", ring.count(6), 1);
    }

    private static void withoutRule() {
        BeanTrug x = Trial.with("trug 9 0;sorrow 1 1 0;sorrow 1 1 30;sorrow 1 1 0;under 0 2");
        s.due("1, for 0 lies under 2", x.step(), 1);
        s.due("2", x.step(), 2);
        s.due("0", x.step(), 0);
        s.due("none is left", x.step(), -2);
        BeanTrug y = ruledBy(ONE, "lift 0");
        s.due("with a rule none", y.step(), -2);
        y.force(-1);
        s.due("without it the least", y.step(), 0);
    }

    // No object has as many calls as STEP 999 takes; this is how it goes on beyond them all the same.
    private static BeanTrug inLastStep() {
        BeanTrug x = ruledBy(ONE, "lift 1 if step = 1098");
        for (int i = 0; i < 999; i++) {
            x.step();
        }
        return x;
    }

    private static void stepMore() {
        BeanTrug x = Trial.with(THREE);
        x.step();
        s.due("1 more", x.count(7), 1);
        BeanTrug y = ruledBy(ONE, "lift 1 if step = 1098");
        for (int i = 0; i < 998; i++) {
            y.step();
        }
        s.due("STEP 998", y.count(7), 998);
        s.due("its last is the 100th, STEP 1097", y.when(0, 0), -2);
        s.due("the last by hand", y.step(), -2);
        s.due("STEP 999", y.count(7), 999);
        s.due("asked beyond", y.when(0, 0), 1098);
        s.due("asked beyond", y.ahead(100, 3), 0);
        s.due("asked beyond", y.ahead(99, 3), 1);
        s.refused("no more by hand", ActEdgeTest::inLastStep, BeanTrug::step, -1);
        y.undo();
        s.due("undone, it is by hand again", y.step(), -2);
    }

    // ---- acts ----

    private static void take() {
        BeanTrug x = Trial.with(THREE);
        s.due("not loose", x.take(1), -1);
        s.due("loose", x.take(0), 6);
        s.due("lifted", x.sorrow(0, 3), 1);
        s.due("STEP stays", x.count(7), 0);
        s.due("loose then", x.take(1), 15);
        s.due("STEP stays", x.count(7), 0);
        force(x, "lift 0");
        s.due("no rule is asked", x.take(2), 19);
        s.due("three acts", x.count(13), 3);
    }

    private static void await() {
        s.refused("0", Lived::one, x -> x.await(0), -1);
        s.changes("1", Lived::one, x -> x.await(1), 5);
        s.changes("60", Lived::one, x -> x.await(60), 64);
        s.refused("61", Lived::one, x -> x.await(61), -1);
        s.due("9938 and 60", in(9938, ONE).await(60), 9998);
        s.due("9939 and 60", in(9939, ONE).await(60), 9999);
        s.refused("9940 and 60", () -> in(9940, ONE), x -> x.await(60), -1);
        s.due("9998 and 1", in(9998, ONE).await(1), 9999);
        s.refused("9998 and 2", () -> in(9998, ONE), x -> x.await(2), -1);
        s.refused("9999 and 1", () -> in(9999, ONE), x -> x.await(1), -1);
        BeanTrug x = Trial.with(ONE);
        x.await(60);
        s.due("none is lifted", x.count(8), 1);
        s.due("STEP stays", x.count(7), 0);
    }

    private static void lay() {
        BeanTrug x = Trial.with(THREE);
        s.due("it does now", x.lay(2, 0), 1);
        s.due("under", x.sorrow(2, 5), 1);
        s.due("no more", x.lay(2, 0), 0);
        s.due("under none", x.sorrow(2, 5), 0);
        s.due("what the text told", x.lay(1, 0), 0);
        s.due("under none", x.sorrow(1, 5), 0);
        s.due("a ring can be laid", x.lay(1, 0) + x.lay(0, 1), 2);
        s.due("no more loose", x.count(9), 4);
        s.refused("under itself", () -> Trial.with(THREE), y -> y.lay(0, 0), -1);
        s.refused("the first is not in", Lived::one, y -> y.lay(3, 0), -1);
        s.refused("the second is not in", Lived::one, y -> y.lay(0, 3), -1);
        BeanTrug z = Trial.with("trug 9 0" + ";sorrow 1 1 1".repeat(8));
        s.due("7 under 0", z.lay(7, 0), 1);
        s.due("0 under 7", z.lay(0, 7), 1);
        s.due("as bits", z.sorrow(0, 5), 128);
    }

    private static void lighten() {
        s.refused("0", Lived::one, x -> x.lighten(0, 0), -1);
        s.changes("1", Lived::one, x -> x.lighten(0, 1), 3);
        s.changes("20", Lived::one, x -> x.lighten(0, 20), 3);
        s.refused("21", Lived::one, x -> x.lighten(0, 21), -1);
        s.refused("the same", Lived::one, x -> x.lighten(0, 3), -1);
        s.changes("one less", Lived::one, x -> x.lighten(0, 2), 3);
        s.changes("one more", Lived::one, x -> x.lighten(0, 4), 3);
        s.refused("not in", Lived::one, x -> x.lighten(3, 1), -1);
        BeanTrug x = Trial.with("trug 9 0;sorrow 20 1 1");
        s.due("from 20 to 1", x.lighten(0, 1), 20);
        s.due("from 1 to 20", x.lighten(0, 20), 1);
        s.due("what was told is the same again", x.lighten(0, 20), -1);
    }

    private static void undo() {
        BeanTrug x = Trial.with(THREE);
        for (int i = 1; i <= 19; i++) {
            x.await(1);
            s.due("acts", x.count(13), i);
        }
        x.await(1);
        s.due("the 20th", x.count(13), 20);
        x.await(1);
        s.due("20 yet", x.count(13), 20);
        for (int i = 19; i >= 0; i--) {
            s.due("one less can be", x.undo(), i);
            s.due("the last first", x.count(6), i + 1);
        }
        s.due("the first of 21 can't", x.undo(), -1);
        s.due("it stays", x.count(6), 1);
        eachActIsOne();
        roundAndRound();
    }

    private static void eachActIsOne() {
        BeanTrug x = Trial.with(THREE);
        x.step();
        x.take(1);
        x.await(9);
        x.lighten(2, 9);
        force(x, "lift 0");
        x.step();
        s.due("minute", x.count(6), 25);
        s.due("a step in which none was lifted", x.undo(), 4);
        s.due("its minute", x.count(6), 24);
        s.due("its STEP", x.count(7), 1);
        s.due("a lightening", x.undo(), 3);
        s.due("its weight", x.sorrow(2, 0), 2);
        s.due("a wait", x.undo(), 2);
        s.due("its minute", x.count(6), 15);
        s.due("a take", x.undo(), 1);
        s.due("it is in again", x.sorrow(1, 3), 0);
        s.due("not lifted", x.sorrow(1, 4), -1);
        s.due("a step", x.undo(), 0);
        s.due("all are in", x.count(8), 7);
        s.due("STEP 0", x.count(7), 0);
        x.lay(1, 0);
        s.due("a lay", x.undo(), 0);
        s.due("it lies under it again", x.sorrow(1, 5), 1);
        s.due("no more", x.undo(), -1);
    }

    // Acts behind undone ones take their place; what is kept of 20 goes round.
    private static void roundAndRound() {
        BeanTrug x = Trial.with(ONE);
        for (int i = 0; i < 33; i++) {
            x.await(1);
        }
        for (int i = 0; i < 7; i++) {
            x.undo();
        }
        s.due("13 can be", x.count(13), 13);
        for (int i = 0; i < 9; i++) {
            x.await(2);
        }
        s.due("20 can be", x.count(13), 20);
        s.due("minute", x.count(6), 44);
        for (int i = 0; i < 9; i++) {
            x.undo();
        }
        s.due("minute", x.count(6), 26);
        for (int i = 0; i < 11; i++) {
            x.undo();
        }
        s.due("minute", x.count(6), 15);
        s.due("no more", x.undo(), -1);
    }
}
