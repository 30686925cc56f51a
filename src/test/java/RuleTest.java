/** What rules weigh: signs, order of working, words, and tests. */
public final class RuleTest {
    private static final String TWO = "trug 50 7;sorrow 3 6 5;sorrow 4 9 8;sorrow 2 4 3;under 2 1;under 0 1";
    private static Trial t;

    public static void main(String[] args) {
        t = new Trial("RuleTest");
        sums();
        tests();
        words();
        clauses();
        t.close();
    }

    /** Whether a rule lifts the one sorrow of a trug: whether its sum is above 0. */
    private static boolean isAbove(String sum) {
        BeanTrug x = Trial.with("trug 9 0;sorrow 1 1 1");
        return lifts(x, "lift " + sum) == 0;
    }

    private static int lifts(BeanTrug x, String rule) {
        int number = Trial.tellRule(x, rule);
        if (number < 0) {
            throw new IllegalStateException("the test's own rule has a fault: " + rule);
        }
        x.force(number);
        int lifted = x.step();
        x.undo();
        return lifted;
    }

    private static void isWorth(String sum, long worth) {
        String minus = worth < 0 ? "+" + -worth : "-" + worth;
        t.holds(sum + " is at least " + worth, isAbove(sum + minus + "+1"));
        t.holds(sum + " is at most " + worth, !isAbove(sum + minus));
    }

    private static void sums() {
        isWorth("2+3*4", 14);
        isWorth("10-4-3", 3);
        isWorth("100/7/2", 7);
        isWorth("100%7*3", 6);
        isWorth("3*100/7", 42);
        isWorth("7/0", 0);
        isWorth("7%0", 0);
        isWorth("0-7/2", -3);
        isWorth("0-7%2", -1);
        isWorth("minute-9+0*9", -9);
        isWorth("left/2", 4);
        t.holds("round 64 bits", isAbove("99999*99999*99999*99999") == (99999L * 99999 * 99999 * 99999 > 0));
        for (int i = 2; i < 9; i++) {
            long product = 1;
            StringBuilder text = new StringBuilder("1");
            for (int k = 0; k < i; k++) {
                product *= 65537;
                text.append("*65537");
            }
            t.holds("round 64 bits", isAbove(text.toString()) == product > 0);
            t.holds("rest in 64 bits", isAbove(text + "%99991") == product % 99991 > 0);
        }
    }

    private static void testHolds(String test, boolean is) {
        t.holds(test, isAbove("1 if " + test) == is);
    }

    private static void tests() {
        testHolds("1<2", true);
        testHolds("2<2", false);
        testHolds("2<=2", true);
        testHolds("3<=2", false);
        testHolds("2=2", true);
        testHolds("2=3", false);
        testHolds("2>=2", true);
        testHolds("1>=2", false);
        testHolds("3>2", true);
        testHolds("2>2", false);
        testHolds("0-1<0", true);
        testHolds("not 1=1", false);
        testHolds("not not 1=1", true);
        testHolds("1=1 or 1=1 and 1=2", true);
        testHolds("[1=1 or 1=1] and 1=2", false);
        testHolds("1=2 and 1=2 or 1=1", true);
        testHolds("1=2 and [1=2 or 1=1]", false);
        testHolds("not 1=2 and 1=2", false);
        testHolds("not [1=2 and 1=2]", true);
        testHolds("not 1=1 or 1=1", true);
    }

    private static void words() {
        BeanTrug x = Trial.with(TWO);
        x.await(3);
        x.force(-1);
        t.due("1 is loose alone", x.count(9), 2);
        tellsWord("sorrow", 1);
        tellsWord("weight", 4);
        tellsWord("time", 9);
        tellsWord("deep", 8);
        tellsWord("over", 2);
        tellsWord("many", 3);
        tellsWord("loose", 1);
        tellsWord("left", 47);
        tellsWord("load", 16);
        tellsWord("rest", 0);
        tellsWord("minute", 3);
        tellsWord("step", 0);
        BeanTrug y = Trial.with(TWO);
        y.step();
        y.step();
        t.due("rest, step, many, load", lifts(y,
                "lift 1 if rest = 13 and step = 2 and many = 1 and load = 9 and minute = 15 and loose = 1"), 2);
        y.await(60);
        t.due("left below 0", lifts(y, "lift 1 if left = 0 - 25"), 2);
        y.lighten(2, 20);
        t.due("weight now", lifts(y, "lift 1 if weight = 20 and load = 27"), 2);
    }

    private static void tellsWord(String word, int worth) {
        BeanTrug x = Trial.with(TWO);
        x.await(3);
        t.due(word, lifts(x, "lift 1 if " + word + " = " + worth), 1);
    }

    private static void clauses() {
        String trug = "trug 50 0;sorrow 3 6 5;sorrow 4 9 8;sorrow 2 4 3";
        t.due("the greatest", lifts(Trial.with(trug), "lift deep"), 1);
        t.due("of several the least", lifts(Trial.with(trug), "lift 7"), 0);
        t.due("the first clause that holds", lifts(Trial.with(trug), "lift 1 if sorrow=1;lift deep"), 0);
        t.due("a first clause of 0 counts", lifts(Trial.with(trug), "lift 0 if sorrow=1;lift sorrow"), 2);
        t.due("none holds", lifts(Trial.with(trug), "lift 9 if sorrow > 2"), -2);
        t.due("below 0", lifts(Trial.with(trug), "lift 0 - weight"), -2);
        t.due("what comes behind is not asked", lifts(Trial.with(trug), "lift weight;lift 99 if sorrow=2"), 1);
    }
}
