import java.util.function.ToIntFunction;

/** Promises 1 to 36: each sentence that names what is answered at an edge, or that a call is refused. */
public final class PromiseEdgeTest {
    private static final int BIG = Integer.MAX_VALUE;
    private static final int LOW = Integer.MIN_VALUE;
    // Numbers that a shift, a narrowing or a sum that goes round would take for small ones.
    private static final int[] ODD = {LOW, LOW + 1, -65536, -1000, -257, -256, -64, -33, -32, -31, -9, -8, -7, -4, -3, -2,
        -1, 0, 1, 2, 3, 4, 5, 6, 7, 8, 9, 10, 16, 21, 31, 32, 33, 34, 61, 64, 101, 201, 256, 257, 401, 1000, 10000,
        65536, 65537, BIG - 1, BIG};
    private static final String THREE = "trug 20 2;sorrow 3 6 5;sorrow 4 9 8;sorrow 2 4 3;under 1 0;carrier 6;carrier 4";
    private static Sentences s;

    /** A call of one number. */
    private interface Call {
        int on(BeanTrug x, int n);
    }

    public static void main(String[] args) throws Exception {
        s = new Sentences("PromiseEdgeTest");
        telling();
        looking();
        acting();
        stepsAsked();
        bestAsked();
        notesAsked();
        draws();
        state();
        s.close();
    }

    private static void telling() {
        s.test("An object is used for at most 512 calls after it has been made", PromiseEdgeTest::allCalls);
        s.test("No TRUG, no RULES, none IN FORCE.", PromiseEdgeTest::newObject);
        s.test("Twenty bytes come behind the TAPE, of each number the highest first: how many it has", PromiseEdgeTest::feed);
        s.test("NONE, and none comes, if it would have more than 400.", PromiseEdgeTest::feedTooMany);
        s.test("The TAPE has its first n bytes alone: n", PromiseEdgeTest::end);
        s.test("NONE, and nothing happens, if it has not so many, or n is below 0.", PromiseEdgeTest::endTooFar);
        s.test("The TAPE, which is empty then, is the TRUG in place of the one there was", PromiseEdgeTest::trug);
        s.test("(no NOTES, nothing to be UNDONE; the RULE IN FORCE and x stay): how many SORROWS",
                PromiseEdgeTest::trugBegins);
        s.test("-2 - its FAULT, and all stays.", PromiseEdgeTest::trugFault);
        s.test("The TAPE, which is empty then, is a RULE: its number", PromiseEdgeTest::rule);
        s.test("-2 - its FAULT; NONE, and nothing happens: there are 6.", PromiseEdgeTest::ruleRefused);
        s.test("A RULE is IN FORCE (NONE: none): which was", PromiseEdgeTest::force);
        s.test("-2, and nothing happens, if there is none such.", PromiseEdgeTest::forceRefused);
    }

    private static void looking() {
        s.test("Of a SORROW what 0: WEIGHT, 1: TIME, 2: DEEP, 3: 0 IN, 1 LET BE, 2 LATE", PromiseEdgeTest::sorrow);
        s.test("4: the minute behind which it was LIFTED (NONE: it is IN)", PromiseEdgeTest::sorrowLifted);
        s.test("5: SORROWS that it lies UNDER, IN or not, as bits", PromiseEdgeTest::sorrowUnder);
        s.test("-2 without these.", PromiseEdgeTest::sorrowRefused);
        s.test("How STRONG a CARRIER is; NONE without them.", PromiseEdgeTest::carrier);
        s.test("What 0: DUSK, 1: EARTH, 2: SORROWS, 3: CARRIERS, 4: RULES, 5: the RULE IN FORCE (NONE), 6: the minute, "
                + "7: STEP", PromiseEdgeTest::count);
        s.test("11: WEIGHT of all that are IN, and EARTH, 12: NOTES, 13: ACTS that can be UNDONE, 14: x, 15: bytes of the "
                + "TAPE. NONE for others.", PromiseEdgeTest::countOthers);
    }

    private static void acting() {
        s.test("A STEP: what is LIFTED; -2: none is", PromiseEdgeTest::step);
        s.test("NONE, and nothing happens, without a TRUG, or in STEP 999.", PromiseEdgeTest::stepRefused);
        s.test("TAKE: the minute then; NONE, and nothing happens, without it LOOSE.", PromiseEdgeTest::take);
        s.test("WAIT: the minute then; NONE, and nothing happens, without these, or a TRUG.", PromiseEdgeTest::await);
        s.test("LAY: 1 if the first one lies UNDER the second one then, else 0; NONE, and nothing happens, without these "
                + "(unlike, IN).", PromiseEdgeTest::lay);
        s.test("LIGHTEN: what it weighed; NONE, and nothing happens, without these (another WEIGHT).",
                PromiseEdgeTest::lighten);
        s.test("The last ACT is UNDONE: how many more can be; NONE, and nothing happens: none can.", PromiseEdgeTest::undo);
    }

    private static void stepsAsked() {
        s.test("AHEAD what 0: the minute, 1: how DEEP, 2: WEIGHT, 3: how many. NONE without these, or a TRUG.",
                PromiseEdgeTest::ahead);
        s.test("WHEN what 0: the STEP, 1: the minute; -2: in none of these. NONE without these (IN).",
                PromiseEdgeTest::when);
        s.test("BY DUSK what 0: how many, 1: how DEEP, 2: the last (-2: none). NONE for others, or without a TRUG.",
                PromiseEdgeTest::dusk);
        s.test("SLACK; -2: not even 0; NONE without it IN.", PromiseEdgeTest::slack);
        s.test("LIGHT; -2: it never is in these; NONE without these, or a TRUG.", PromiseEdgeTest::light);
    }

    private static void bestAsked() {
        s.test("ORDER what NONE: how DEEP, -2: its TIME, 0 to 7: which in that place (-2: none). -3 for others, or without "
                + "a TRUG.", PromiseEdgeTest::order);
        s.test("CHAIN what 0: TIME, 1: the first (-2: none is IN). NONE for others, or without a TRUG.",
                PromiseEdgeTest::chain);
        s.test("RINGS, as bits; NONE without a TRUG.", PromiseEdgeTest::rings);
        s.test("TAKEN what 0: how many, 1: the set. NONE for others, or without a TRUG.", PromiseEdgeTest::taken);
        s.test("CARRY what NONE: how much, 0 to 7: who carries that SORROW (NONE: nobody; -2: it is not IN). -3 for "
                + "others, or without a TRUG.", PromiseEdgeTest::carry);
        s.test("POLE what 0: how many, 1: the set; -2: all are not STRONG enough. NONE for others, or without a TRUG.",
                PromiseEdgeTest::pole);
        s.test("GAME what 0: how much, 1: which (NONE: none is LOOSE). -1000 for others, or without a TRUG.",
                PromiseEdgeTest::game);
        s.test("PENCE of a SORROW (0, if it is not LET BE); NONE without these.", PromiseEdgeTest::pence);
    }

    private static void notesAsked() {
        s.test("TOOK what 0: how many, 1: the least (-2: there is none). NONE without these.", PromiseEdgeTest::took);
        s.test("A NOTE (n NONE: there are none then, 0): how many", PromiseEdgeTest::noNotes);
        s.test("-2, and nothing happens, without these, or a TRUG (sorrow NONE: none), or if there are 10.",
                PromiseEdgeTest::noteRefused);
        s.test("RULED what 0: how many, 1: the first (NONE: none; -2: there is none such). -3 for others, or without a "
                + "TRUG.", PromiseEdgeTest::ruled);
        s.test("LOOK what 0: the STEP, 1: how many; -2: no RULE is so. NONE for others, or without a TRUG.",
                PromiseEdgeTest::look);
    }

    private static void draws() {
        s.test("x becomes a number: what it was; NONE, and nothing happens, below 0.", PromiseEdgeTest::seed);
        s.test("YEARS what 0: how DEEP, 1: minutes. NONE without these, or a TRUG.", PromiseEdgeTest::years);
    }

    private static void state() {
        s.test("An IMAGE is made: the minute; NONE without it.", PromiseEdgeTest::image);
        s.test("All is as in an IMAGE: the minute; NONE, and nothing happens, if it was never made, or without it.",
                PromiseEdgeTest::back);
    }

    // ---- calls that are refused ----

    /** All odd numbers outside, and the two next to it, are refused, and nothing happens. */
    private static void outside(String name, int from, int to, int answer, Call call) {
        for (int odd : ODD) {
            if (odd < from || odd > to) {
                refusedOf(name, odd, answer, call);
            }
        }
        refusedOf(name, from - 1, answer, call);
        refusedOf(name, to + 1, answer, call);
    }

    private static void refusedOf(String name, int n, int answer, Call call) {
        s.refused(name + " " + n, Lived::one, x -> call.on(x, n), answer);
    }

    private static void withoutTrug(String name, ToIntFunction<BeanTrug> call, int answer) {
        s.refused(name + " of a new object", BeanTrug::new, call, answer);
        s.refused(name + " without a trug", Lived::bare, call, answer);
        s.refused(name + " gone back to no trug", Lived::bareAgain, call, answer);
    }

    // ---- telling ----

    // What an object keeps does not run full before its last call.
    private static void allCalls() {
        BeanTrug x = new BeanTrug();
        x.feed(0x74727567, 0x20333030, 0x20313b73, 0x6f72726f, 0x77203120);
        x.feed(0x3120393b, 0x63617272, 0x69657220, 0x31202020, 0x20202020);
        s.due("the third call", x.trug(), 1);
        for (int call = 4; call < 512; call++) {
            int step = call - 4;
            s.due("call " + call, x.step(), step == 0 ? 0 : -2);
        }
        s.due("the last call", x.count(7), 508);
    }

    private static void newObject() {
        BeanTrug x = new BeanTrug();
        for (int what = 0; what <= 15; what++) {
            s.due("count(" + what + ")", x.count(what), what == 5 ? -1 : 0);
        }
        s.due("no step without a trug", x.step(), -1);
        s.due("no rule", x.force(0), -2);
        s.due("none in force", x.force(-1), -1);
        for (int k = 0; k < 4; k++) {
            s.due("no image " + k, x.back(k), -1);
        }
        s.due("an empty tape", x.end(1), -1);
        s.due("an empty tape", x.end(0), 0);
        s.due("an empty text", x.trug(), -3);
        s.due("an empty text", x.rule(), -3);
    }

    private static void feed() {
        BeanTrug x = new BeanTrug();
        s.due("20", x.feed(0x74727567, 0x20313233, 0x20313420, 0x3b636172, 0x72696572), 20);
        s.due("40", x.feed(0x20363020, 0x20202020, 0x20202020, 0x20202020, 0x20202020), 40);
        s.due("the text", x.trug(), 0);
        s.due("dusk", x.count(0), 123);
        s.due("earth", x.count(1), 14);
        s.due("strong", x.carrier(0), 60);
        x.feed(0x6c696674, 0x20317878, 0, 0, 0);
        x.end(6);
        s.due("behind what was cut", x.feed(0x20696620, 0x313d3120, 0, 0, 0), 26);
        x.end(14);
        s.due("the text", x.rule(), 0);
        s.due("bytes above 127", x.feed(-1, LOW, 0x80808080, 0x7f7f7f7f, BIG), 20);
        s.due("can't stand", x.trug(), Trial.fault(0, 0));
    }

    private static BeanTrug withBytes(int many) {
        BeanTrug x = new BeanTrug();
        Trial.onTape(x, "trug 7" + " ".repeat(many - 7) + "5");
        return x;
    }

    private static void feedTooMany() {
        s.due("379 and 20", withBytes(379).feed(0, 0, 0, 0, 0), 399);
        s.due("380 and 20", withBytes(380).feed(0, 0, 0, 0, 0), 400);
        for (int many : new int[] {381, 382, 399, 400}) {
            s.refused(many + " and 20", () -> withBytes(many), x -> x.feed(1, 2, 3, 4, 5), -1);
        }
        BeanTrug x = withBytes(400);
        s.due("none comes", x.feed(1, 2, 3, 4, 5), -1);
        s.due("none came", x.count(15), 400);
        s.due("it is as it was", x.trug(), 0);
        s.due("it is as it was", x.count(1), 5);
    }

    private static void end() {
        BeanTrug x = new BeanTrug();
        s.due("0 of none", x.end(0), 0);
        Trial.onTape(x, "trug 123 14");
        s.due("all", x.end(11), 11);
        s.due("one less", x.end(10), 10);
        s.due("its first bytes", x.trug(), 0);
        s.due("its first bytes", x.count(1), 1);
        Trial.onTape(x, "trug 123 14");
        s.due("none", x.end(0), 0);
        s.due("none", x.count(15), 0);
        s.due("all 400", withBytes(400).end(400), 400);
    }

    private static void endTooFar() {
        int many = Lived.TAPE.length();
        s.refused("one too many", Lived::one, x -> x.end(many + 1), -1);
        s.refused("-1", Lived::one, x -> x.end(-1), -1);
        outside("end", 0, many, -1, (x, n) -> x.end(n));
        s.refused("401", () -> withBytes(400), x -> x.end(401), -1);
        s.refused("one of none", BeanTrug::new, x -> x.end(1), -1);
        // What was cut off does not come back.
        BeanTrug x = withBytes(400);
        x.end(6);
        s.due("cut off", x.end(7), -1);
    }

    private static void trug() {
        BeanTrug x = Lived.one();
        s.due("one sorrow", x.trug(), 1);
        s.due("the tape is empty", x.count(15), 0);
        s.due("dusk", x.count(0), 9);
        s.due("earth", x.count(1), 3);
        s.due("its sorrow", x.sorrow(0, 0), 1);
        s.due("the others are gone", x.sorrow(1, 0), -2);
        s.due("carriers are gone", x.carrier(0), -1);
        s.due("none lies under another", x.sorrow(0, 5), 0);
        s.due("it is in", x.sorrow(0, 3), 0);
        s.due("it is not lifted", x.sorrow(0, 4), -1);
        s.due("room for 400 again", fedFull(x), 400);
        inPlaceOfTheOther("trug 9 0;sorrow 2 1 9;sorrow 2 1 9;under 1 0;carrier 9;carrier 9;carrier 9;carrier 9");
        inPlaceOfTheOther("trug 9 0;sorrow 2 1 9;sorrow 2 1 9;under 0 1;under 1 0;carrier 9;x");
    }

    /** Nothing is left of a text that was read before, with a fault or without. */
    private static void inPlaceOfTheOther(String other) {
        BeanTrug x = new BeanTrug();
        Trial.tellTrug(x, other);
        x.take(0);
        x.take(1);
        Trial.tellTrug(x, "trug 9 0;sorrow 1 1 1;sorrow 1 1 1");
        s.due("all are in", x.count(8), 3);
        s.due("none lies under another", x.count(9), 3);
        s.due("none is let be", x.count(10), 0);
        s.due("none is let be", x.pence(9, 0), 0);
        s.due("none is lifted", x.sorrow(1, 4), -1);
        s.due("none carries", x.carry(-1), 0);
        s.due("none carries", x.carry(0), -1);
        s.due("none is strong", x.pole(0), -2);
    }

    private static int fedFull(BeanTrug x) {
        int many = 0;
        for (int i = 0; i < 20; i++) {
            many = x.feed(0, 0, 0, 0, 0);
        }
        return many;
    }

    private static void trugBegins() {
        BeanTrug x = Lived.one();
        x.trug();
        int[] due = {9, 3, 1, 0, 2, 1, 0, 0, 1, 1, 0, 4, 0, 0, 77, 0};
        for (int what = 0; what <= 15; what++) {
            s.due("count(" + what + ")", x.count(what), due[what]);
        }
        s.due("nothing to be undone", x.undo(), -1);
        s.due("no notes", x.ruled(0), 3);
        s.due("images stay", x.back(0), 1);
        s.due("images stay", x.count(0), 40);
        s.due("none", Trial.tellTrug(x, "trug 9 0"), 0);
        s.due("eight", Trial.tellTrug(x, "trug 9 0" + ";sorrow 1 1 1".repeat(8)), 8);
    }

    private static BeanTrug livedWith(String tape) {
        BeanTrug x = Lived.one();
        Trial.onTape(x, tape);
        return x;
    }

    private static void trugFault() {
        String eight = "trug 9 9" + ";sorrow 9 9 9".repeat(8) + ";carrier 9";
        String[] texts = {"", "trug 0 0", "sorrow 1 1 1", "trug 9 9;sorrow 9 9 9;under 0 0", eight + ";sorrow", eight + "x"};
        int[] due = {-3, -44, -7, -2 - (1 + 8 * 30 + 1), -2 - (1 + 8 * (eight.length() + 1) + 4),
            -2 - (1 + 8 * eight.length())};
        for (int i = 0; i < texts.length; i++) {
            String text = texts[i];
            s.leavesAll("trug '" + text + "'", () -> livedWith(text), BeanTrug::trug, due[i], x -> x.end(0));
        }
        BeanTrug bare = new BeanTrug();
        s.due("a fault", Trial.tellTrug(bare, eight + "x"), -2 - (1 + 8 * eight.length()));
        s.due("no trug yet", bare.step(), -1);
        s.due("no trug yet", bare.count(0), 0);
        s.due("no sorrows yet", bare.count(2), 0);
    }

    private static void rule() {
        BeanTrug x = Lived.one();
        s.due("the third", Trial.tellRule(x, "lift 4 - sorrow"), 2);
        s.due("the tape is empty", x.count(15), 0);
        s.due("one more", x.count(4), 3);
        s.due("not in force yet", x.count(5), 1);
        s.due("in force", x.force(2), 1);
        s.due("it is it", x.ahead(1, 1), 12);
        s.due("the others are as they were", x.force(0), 2);
        s.due("the others are as they were", x.ahead(1, 1), 10);
        s.due("the fourth", Trial.tellRule(x, "lift 1"), 3);
        s.due("the fifth", Trial.tellRule(x, "lift 1"), 4);
        s.due("the last", Trial.tellRule(x, "lift 1"), 5);
        s.due("without a trug", Trial.tellRule(new BeanTrug(), "lift 1"), 0);
    }

    private static BeanTrug withSix(String tape) {
        BeanTrug x = Lived.one();
        for (int i = 2; i < 6; i++) {
            Trial.tellRule(x, "lift 1 + sorrow * " + i);
        }
        Trial.onTape(x, tape);
        return x;
    }

    private static void ruleRefused() {
        String[] texts = {"", "lift", "lift 1;lift", "lift sorrow if 1=1 or", "lift 123456"};
        int[] due = {-3, -2 - (1 + 8 * 4), -2 - (1 + 8 * 11), -2 - (1 + 8 * 21), -44};
        for (int i = 0; i < texts.length; i++) {
            String text = texts[i];
            s.leavesAll("rule '" + text + "'", () -> livedWith(text), BeanTrug::rule, due[i], x -> x.end(0));
        }
        s.refused("there are 6", () -> withSix(Lived.TAPE), BeanTrug::rule, -1);
        s.refused("there are 6, a rule", () -> withSix("lift 1"), BeanTrug::rule, -1);
        s.refused("there are 6, no text", () -> withSix(""), BeanTrug::rule, -1);
        BeanTrug x = new BeanTrug();
        for (int i = 0; i < 5; i++) {
            Trial.tellRule(x, "lift 1");
        }
        s.due("a fault takes no number", Trial.tellRule(x, "lift"), -2 - (1 + 8 * 4));
        s.due("the last", Trial.tellRule(x, "lift 1"), 5);
        BeanTrug y = Trial.with(THREE);
        s.due("a fault behind a whole clause", Trial.tellRule(y, "lift 0;lift"), -2 - (1 + 8 * 11));
        s.due("the first", Trial.tellRule(y, "lift 1 if sorrow = 2"), 0);
        y.force(0);
        s.due("nothing is left of the text with the fault", y.step(), 2);
    }

    private static void force() {
        BeanTrug x = new BeanTrug();
        s.due("none was", x.force(-1), -1);
        Trial.tellRule(x, "lift 1");
        s.due("none was", x.force(0), -1);
        s.due("the same", x.force(0), 0);
        s.due("none", x.force(-1), 0);
        s.due("none", x.count(5), -1);
        BeanTrug six = withSix("");
        s.due("the last", six.force(5), 1);
        s.due("the last was", six.force(0), 5);
        s.due("no act", six.count(13), 5);
    }

    private static void forceRefused() {
        outside("force", -1, 1, -2, BeanTrug::force);
        s.refused("6 of 6", () -> withSix(""), x -> x.force(6), -2);
        s.refused("7 of 6", () -> withSix(""), x -> x.force(7), -2);
        s.refused("0 of none", BeanTrug::new, x -> x.force(0), -2);
        s.refused("-2", BeanTrug::new, x -> x.force(-2), -2);
    }

    // ---- looking ----

    private static void sorrow() {
        BeanTrug x = Lived.one();
        int[][] due = {{3, 6, 5, 0}, {4, 9, 8, 0}, {7, 4, 3, 0}, {5, 3, 7, 1}};
        for (int i = 0; i < 4; i++) {
            for (int what = 0; what < 4; what++) {
                s.due("sorrow(" + i + ", " + what + ")", x.sorrow(i, what), due[i][what]);
            }
        }
        x.await(31);
        x.take(0);
        s.due("35 and 6 is late", x.sorrow(0, 3), 2);
        BeanTrug y = Lived.one();
        y.await(30);
        y.take(0);
        s.due("34 and 6 is dusk", y.sorrow(0, 3), 1);
    }

    private static void sorrowLifted() {
        BeanTrug x = Trial.with(THREE);
        s.due("in", x.sorrow(0, 4), -1);
        x.take(0);
        s.due("let be", x.sorrow(0, 4), 6);
        x.await(60);
        s.due("it stays", x.sorrow(0, 4), 6);
        x.step();
        s.due("late", x.sorrow(1, 4), 75);
        s.due("in yet", x.sorrow(2, 4), -1);
        x.undo();
        s.due("in again", x.sorrow(1, 4), -1);
        Trial.tellTrug(x, THREE);
        s.due("in a new trug", x.sorrow(0, 4), -1);
    }

    private static void sorrowUnder() {
        BeanTrug x = Trial.with("trug 9 0" + ";sorrow 1 1 1".repeat(8) + ";under 7 0;under 7 6;under 0 6");
        s.due("none", x.sorrow(6, 5), 0);
        s.due("two", x.sorrow(7, 5), 65);
        s.due("one", x.sorrow(0, 5), 64);
        x.take(6);
        s.due("in or not", x.sorrow(7, 5), 65);
        s.due("in or not", x.sorrow(0, 5), 64);
        x.lay(7, 0);
        s.due("no more", x.sorrow(7, 5), 64);
        for (int i = 0; i < 7; i++) {
            x.lay(7, i);
        }
        s.due("all but itself", x.sorrow(7, 5), 127);
        x.take(0);
        for (int i = 1; i < 6; i++) {
            x.lay(7, i);
        }
        s.due("the two that are lifted", x.sorrow(7, 5), 65);
        s.due("lifted", x.take(7), 3);
        s.due("not in itself", x.sorrow(7, 5), 65);
    }

    private static void sorrowRefused() {
        outside("sorrow what", 0, 5, -2, (x, n) -> x.sorrow(0, n));
        outside("sorrow", 0, 3, -2, (x, n) -> x.sorrow(n, 0));
        outside("sorrow", 0, 3, -2, (x, n) -> x.sorrow(n, 5));
        withoutTrug("sorrow", x -> x.sorrow(0, 0), -2);
        s.due("the last of eight", Trial.with("trug 9 0" + ";sorrow 1 1 1".repeat(8)).sorrow(7, 0), 1);
        s.due("no ninth", Trial.with("trug 9 0" + ";sorrow 1 1 1".repeat(8)).sorrow(8, 0), -2);
    }

    private static void carrier() {
        BeanTrug x = Lived.one();
        s.due("0", x.carrier(0), 6);
        s.due("the last", x.carrier(1), 4);
        outside("carrier", 0, 1, -1, BeanTrug::carrier);
        withoutTrug("carrier", y -> y.carrier(0), -1);
        BeanTrug four = Trial.with("trug 9 0;carrier 1;carrier 60;carrier 2;carrier 59");
        s.due("3", four.carrier(3), 59);
        s.due("4", four.carrier(4), -1);
    }

    private static void count() {
        BeanTrug x = Lived.one();
        int[] due = {40, 2, 4, 2, 2, 1, 4, 1, 7, 5, 7, 16, 2, 5, 77, Lived.TAPE.length()};
        for (int what = 0; what <= 15; what++) {
            s.due("count(" + what + ")", x.count(what), due[what]);
        }
        BeanTrug full = Trial.with("trug 300 20" + ";sorrow 20 1 30".repeat(8) + ";carrier 9".repeat(4));
        s.due("dusk", full.count(0), 300);
        s.due("earth", full.count(1), 20);
        s.due("sorrows", full.count(2), 8);
        s.due("carriers", full.count(3), 4);
        s.due("in", full.count(8), 255);
        s.due("loose", full.count(9), 255);
        s.due("load", full.count(11), 180);
        for (int i = 0; i < 8; i++) {
            full.step();
        }
        s.due("all are let be", full.count(10), 240);
        s.due("none is in", full.count(8), 0);
        s.due("the earth is left", full.count(11), 20);
        s.due("none in force", full.count(5), -1);
    }

    private static void countOthers() {
        outside("count", 0, 15, -1, BeanTrug::count);
        withoutTrug("count", x -> x.count(16), -1);
        BeanTrug x = Lived.bare();
        int[] due = {0, 0, 0, 0, 2, 0, 0, 0, 0, 0, 0, 0, 0, 0, 78, Lived.TAPE.length()};
        for (int what = 0; what <= 15; what++) {
            s.due("count(" + what + ") without a trug", x.count(what), due[what]);
        }
    }

    // ---- acting ----

    private static void step() {
        BeanTrug x = Trial.with(THREE);
        s.due("0", x.step(), 0);
        s.due("1", x.step(), 1);
        s.due("2", x.step(), 2);
        s.due("none is", x.step(), -2);
        s.due("none is", x.step(), -2);
        s.due("all of them are acts", x.count(13), 5);
        s.due("none in an empty trug", Trial.with("trug 9 0").step(), -2);
        s.due("7", lastOfEight().step(), 7);
    }

    private static BeanTrug lastOfEight() {
        BeanTrug x = Trial.with("trug 9 0" + ";sorrow 1 1 1".repeat(8));
        for (int i = 0; i < 7; i++) {
            x.step();
        }
        return x;
    }

    // No object has as many calls as this takes; it goes on so beyond them all the same.
    private static BeanTrug inStep(int step) {
        BeanTrug x = Lived.one();
        while (x.count(7) < step) {
            x.step();
        }
        return x;
    }

    private static void stepRefused() {
        withoutTrug("step", BeanTrug::step, -1);
        s.changes("in STEP 998", () -> inStep(998), BeanTrug::step, -2);
        s.refused("in STEP 999", () -> inStep(999), BeanTrug::step, -1);
        BeanTrug x = inStep(999);
        s.due("other acts go on", x.await(1) - x.count(6), 0);
        Trial.tellTrug(x, THREE);
        s.due("so do steps in another trug", x.step(), 0);
    }

    private static void take() {
        BeanTrug x = Lived.one();
        s.due("0", x.take(0), 10);
        s.due("1", x.take(1), 19);
        s.due("2", x.take(2), 23);
        s.refused("under one that is in", Lived::one, y -> y.take(1), -1);
        s.refused("let be already", Lived::one, y -> y.take(3), -1);
        outside("take", 0, 2, -1, BeanTrug::take);
        withoutTrug("take", y -> y.take(0), -1);
        s.due("7", Trial.with("trug 9 0" + ";sorrow 1 1 1".repeat(8)).take(7), 1);
        s.due("8", Trial.with("trug 9 0" + ";sorrow 1 1 1".repeat(8)).take(8), -1);
    }

    private static void await() {
        s.due("the least", Lived.one().await(1), 5);
        s.due("the most", Lived.one().await(60), 64);
        outside("await", 1, 60, -1, BeanTrug::await);
        withoutTrug("await", x -> x.await(1), -1);
        s.due("in an empty trug", Trial.with("trug 9 0").await(60), 60);
    }

    private static void lay() {
        s.due("1", Lived.one().lay(2, 1), 1);
        s.due("0", Lived.one().lay(1, 0), 0);
        for (int i = 0; i < 4; i++) {
            int both = i;
            s.refused("alike " + i, Lived::one, x -> x.lay(both, both), -1);
        }
        s.refused("the first is let be", Lived::one, x -> x.lay(3, 0), -1);
        s.refused("the second is let be", Lived::one, x -> x.lay(0, 3), -1);
        outside("lay", 0, 2, -1, (x, n) -> x.lay(n, 0));
        outside("lay", 0, 2, -1, (x, n) -> x.lay(0, n));
        outside("lay", 0, 2, -1, (x, n) -> x.lay(n, n));
        withoutTrug("lay", x -> x.lay(0, 1), -1);
    }

    private static void lighten() {
        s.due("what it weighed", Lived.one().lighten(0, 4), 3);
        s.due("what it weighed, lightened before", Lived.one().lighten(2, 2), 7);
        s.refused("the same", Lived::one, x -> x.lighten(2, 7), -1);
        s.refused("let be", Lived::one, x -> x.lighten(3, 1), -1);
        outside("lighten to", 1, 20, -1, (x, n) -> x.lighten(0, n));
        outside("lighten", 0, 2, -1, (x, n) -> x.lighten(n, 1));
        withoutTrug("lighten", x -> x.lighten(0, 1), -1);
    }

    private static BeanTrug allUndone() {
        BeanTrug x = Lived.one();
        for (int i = 0; i < 5; i++) {
            x.undo();
        }
        return x;
    }

    private static void undo() {
        BeanTrug x = Lived.one();
        for (int i = 4; i >= 0; i--) {
            s.due("more can be", x.undo(), i);
        }
        s.refused("none can", PromiseEdgeTest::allUndone, BeanTrug::undo, -1);
        s.refused("none can in a new trug", () -> Trial.with(THREE), BeanTrug::undo, -1);
        s.refused("none can behind an image", PromiseEdgeTest::goneBack, BeanTrug::undo, -1);
        withoutTrug("undo", BeanTrug::undo, -1);
        s.due("an undone act is no act", allUndone().count(13), 0);
        s.due("all is as it was", allUndone().count(6), 0);
    }

    private static BeanTrug goneBack() {
        BeanTrug x = Lived.one();
        x.back(0);
        return x;
    }

    // ---- what is asked ----

    /** The numbers of what can be asked: the first and the last answer as due, all others are refused. */
    private static void whats(String name, int refused, Call call, int... due) {
        for (int what = 0; what < due.length; what++) {
            s.due(name + " what " + what, call.on(Lived.one(), what), due[what]);
            int which = what;
            withoutTrug(name + " what " + what, x -> call.on(x, which), refused);
        }
        outside(name + " what", 0, due.length - 1, refused, call);
    }

    private static void ahead() {
        whats("ahead(1)", -1, (x, what) -> x.ahead(1, what), 10, 12, 13, 2);
        whats("ahead(0)", -1, (x, what) -> x.ahead(0, what), 4, 7, 16, 3);
        outside("ahead", 0, 100, -1, (x, n) -> x.ahead(n, 0));
        outside("ahead", 0, 100, -1, (x, n) -> x.ahead(n, 3));
        s.due("100", Lived.one().ahead(100, 0), 4 + 19 + 97);
    }

    private static void when() {
        // By depth: 0 (minute 10), 1 (19), 2 (23).
        whats("when(1)", -1, (x, what) -> x.when(1, what), 2, 19);
        outside("when", 0, 2, -1, (x, n) -> x.when(n, 0));
        outside("when", 0, 2, -1, (x, n) -> x.when(n, 1));
        s.refused("let be", Lived::one, x -> x.when(3, 0), -1);
        BeanTrug x = Lived.one();
        Trial.tellRule(x, "lift 0");
        x.force(2);
        s.due("in none of these", x.when(0, 0), -2);
        s.due("in none of these", x.when(0, 1), -2);
        s.due("not in is ahead of in none", x.when(3, 0), -1);
    }

    private static void dusk() {
        whats("dusk", -1, BeanTrug::dusk, 3, 16, 2);
        BeanTrug x = Trial.with("trug 9 0");
        s.due("none", x.dusk(0), 0);
        s.due("none", x.dusk(1), 0);
        s.due("none", x.dusk(2), -2);
    }

    private static void slack() {
        s.due("0", Lived.one().slack(0), 30);
        s.due("2", Lived.one().slack(2), 17);
        outside("slack", 0, 2, -1, BeanTrug::slack);
        s.refused("let be", Lived::one, x -> x.slack(3), -1);
        withoutTrug("slack", x -> x.slack(0), -1);
        BeanTrug x = Lived.one();
        x.await(30);
        s.due("just 0", x.slack(0), 0);
        x.await(1);
        s.due("not even 0", x.slack(0), -2);
    }

    private static void light() {
        s.due("0", Lived.one().light(0), -2);
        s.due("200", Lived.one().light(200), 0);
        s.due("2", Lived.one().light(2), 3);
        s.due("1", Lived.one().light(1), -2);
        outside("light", 0, 200, -1, BeanTrug::light);
        withoutTrug("light", x -> x.light(0), -1);
        withoutTrug("light", x -> x.light(200), -1);
    }

    private static void order() {
        // 36 minutes are left, all take 19.
        s.due("how deep", Lived.one().order(-1), 16);
        s.due("its time", Lived.one().order(-2), 19);
        int[] due = {0, 1, 2, -2, -2, -2, -2, -2};
        for (int place = 0; place < 8; place++) {
            s.due("place " + place, Lived.one().order(place), due[place]);
        }
        outside("order", -2, 7, -3, BeanTrug::order);
        for (int what = -2; what < 8; what++) {
            int which = what;
            withoutTrug("order(" + what + ")", x -> x.order(which), -3);
        }
        s.due("the last place", Trial.with("trug 9 0" + ";sorrow 1 1 1".repeat(8)).order(7), 7);
    }

    private static void chain() {
        whats("chain", -1, BeanTrug::chain, 15, 0);
        s.due("none is in", Trial.with("trug 9 0").chain(1), -2);
        BeanTrug x = lastOfEight();
        s.due("one is in", x.chain(1), 7);
        x.step();
        s.due("none is in any more", x.chain(1), -2);
        s.due("none takes no time", x.chain(0), 0);
    }

    private static void rings() {
        withoutTrug("rings", BeanTrug::rings, -1);
        s.due("none", Lived.one().rings(), 0);
        BeanTrug x = Lived.one();
        x.lay(0, 1);
        s.due("as bits", x.rings(), 3);
        x.lay(0, 2);
        x.lay(2, 0);
        s.due("as bits", x.rings(), 7);
        s.due("an empty trug", Trial.with("trug 9 0").rings(), 0);
    }

    private static void taken() {
        whats("taken", -1, BeanTrug::taken, 0, 0);
        BeanTrug x = Lived.one();
        x.lay(2, 1);
        x.lay(1, 2);
        s.due("how many", x.taken(0), 1);
        s.due("the set", x.taken(1), 2);
    }

    private static void carry() {
        // 3, 4 and 7 for 6 and 4: 7 is too heavy, so 3 and 4.
        s.due("how much", Lived.one().carry(-1), 7);
        int[] due = {0, 1, -1, -2, -2, -2, -2, -2};
        for (int i = 0; i < 8; i++) {
            s.due("who carries " + i, Lived.one().carry(i), due[i]);
        }
        outside("carry", -1, 7, -3, BeanTrug::carry);
        for (int what = -1; what < 8; what++) {
            int which = what;
            withoutTrug("carry(" + what + ")", x -> x.carry(which), -3);
        }
    }

    private static void pole() {
        whats("pole", -1, BeanTrug::pole, -2, -2);
        BeanTrug x = Trial.with("trug 9 10;carrier 6;carrier 4");
        s.due("just strong enough", x.pole(0), 2);
        s.due("just strong enough", x.pole(1), 3);
        BeanTrug y = Trial.with("trug 9 11;carrier 6;carrier 4");
        s.due("not strong enough", y.pole(0), -2);
        s.due("not strong enough", y.pole(1), -2);
    }

    private static void game() {
        // 2 first (3), then 0 (5), then 1 (8): 6 more.
        whats("game", -1000, BeanTrug::game, 6, 2);
        BeanTrug x = Lived.one();
        x.take(2);
        x.lay(0, 1);
        s.due("none is loose", x.game(1), -1);
        s.due("none is loose", x.game(0), 0);
        BeanTrug y = Trial.with("trug 9 0;sorrow 1 1 0;sorrow 1 1 1;under 1 0");
        s.due("-1 is how much", y.game(0), -1);
        s.due("0 is which", y.game(1), 0);
    }

    private static void pence() {
        BeanTrug x = Lived.one();
        s.due("let be", x.pence(9999, 3), 9999);
        s.due("none", x.pence(0, 3), 0);
        s.due("in", x.pence(9999, 0), 0);
        x.await(60);
        x.take(0);
        s.due("late", x.pence(9999, 0), 0);
        outside("pence", 0, 9999, -1, (y, n) -> y.pence(n, 3));
        outside("pence of", 0, 3, -1, (y, n) -> y.pence(1, n));
        withoutTrug("pence", y -> y.pence(1, 0), -1);
        withoutTrug("pence", y -> y.pence(0, 0), -1);
    }

    private static void took() {
        // Of 3: deepest but for 1, which lies under 0, whatever its time; in STEP 9 none is left.
        whats("took(3)", -1, (x, what) -> x.took(3, what), 40, 1);
        outside("took", 0, 3, -1, (x, n) -> x.took(n, 0));
        outside("took", 0, 3, -1, (x, n) -> x.took(n, 1));
        BeanTrug x = Lived.one();
        x.note(0, 0);
        s.due("there is none", x.took(3, 0), 0);
        s.due("there is none", x.took(3, 1), -2);
    }

    private static BeanTrug withTenNotes() {
        BeanTrug x = Lived.one();
        for (int i = 2; i < 10; i++) {
            x.note(50 + i, -1);
        }
        return x;
    }

    private static void noNotes() {
        BeanTrug x = Lived.one();
        s.due("how many", x.note(1, 1), 3);
        s.due("none then", x.note(-1, 0), 0);
        s.due("none then", x.count(12), 0);
        s.due("none then", x.ruled(0), 3);
        s.due("how many", x.note(60, 3), 1);
        s.due("of ten none", withTenNotes().note(-1, 0), 0);
        s.due("of none none", Trial.with(THREE).note(-1, 0), 0);
        s.due("without a trug", new BeanTrug().note(-1, 0), 0);
        s.due("without a trug any more", Lived.bareAgain().note(-1, 0), 0);
        for (int odd : ODD) {
            s.due("whatever the other is: " + odd, Lived.one().note(-1, odd), 0);
        }
    }

    private static void noteRefused() {
        s.due("step 0, sorrow 0", Lived.one().note(0, 0), 3);
        s.due("step 60, sorrow 3", Lived.one().note(60, 3), 3);
        s.due("none", Lived.one().note(0, -1), 3);
        s.due("of one that is not in", Lived.one().note(1, 3), 3);
        outside("note", -1, 60, -2, (x, n) -> x.note(n, 0));
        outside("note", -1, 60, -2, (x, n) -> x.note(n, -1));
        outside("note of", -1, 3, -2, (x, n) -> x.note(0, n));
        s.due("the tenth", withTenNotes().count(12), 10);
        s.refused("there are 10", PromiseEdgeTest::withTenNotes, x -> x.note(0, 0), -2);
        s.refused("there are 10", PromiseEdgeTest::withTenNotes, x -> x.note(60, -1), -2);
        withoutTrug("note", x -> x.note(0, 0), -2);
        withoutTrug("note of none", x -> x.note(0, -1), -2);
        s.due("none in an empty trug", Trial.with("trug 9 0").note(0, -1), 1);
        s.due("no sorrow in an empty trug", Trial.with("trug 9 0").note(0, 0), -2);
    }

    private static void ruled() {
        // By time: 3 first, then 2; by depth: 3 first; by none: 0 first. In STEP 9 none is left.
        whats("ruled", -3, BeanTrug::ruled, 2, 0);
        BeanTrug x = Lived.one();
        x.note(0, 2);
        s.due("none such", x.ruled(0), 0);
        s.due("none such", x.ruled(1), -2);
        x.note(-1, 0);
        s.due("none is the first", x.ruled(1), -1);
        s.due("all", x.ruled(0), 3);
        s.due("no rules", Trial.with(THREE).ruled(1), -1);
    }

    private static void look() {
        // 9 - time: 3 2 0, and 1 never; deep: 3 0 1 2: in STEP 1 they part.
        whats("look", -1, BeanTrug::look, 1, 1);
        BeanTrug x = Lived.one();
        x.note(0, 2);
        s.due("none is so", x.look(0), -2);
        s.due("none is so", x.look(1), -2);
        s.due("the first STEP", Trial.with(THREE).look(0), 0);
    }

    private static void seed() {
        s.due("what it was", Lived.one().seed(0), 77);
        s.due("what it was", Lived.one().seed(BIG), 77);
        for (int odd : ODD) {
            if (odd < 0) {
                refusedOf("seed", odd, -1, BeanTrug::seed);
            } else {
                BeanTrug x = Lived.one();
                x.seed(odd);
                s.due("it becomes " + odd, x.count(14), odd);
            }
        }
        BeanTrug x = new BeanTrug();
        s.due("without a trug", x.seed(5), 0);
        s.due("without a trug", x.count(14), 5);
        s.due("no act", x.undo(), -1);
    }

    private static void years() {
        // All three are in time, whichever is first: 7 and 16 deep; minutes 4 and 19.
        whats("years(1)", -1, (x, what) -> x.years(1, what), 23, 23);
        whats("years(20)", -1, (x, what) -> x.years(20, what), 460, 460);
        outside("years", 1, 20, -1, (x, n) -> x.years(n, 0));
        outside("years", 1, 20, -1, (x, n) -> x.years(n, 1));
    }

    // ---- images ----

    private static void image() {
        outside("image", 0, 3, -1, BeanTrug::image);
        for (int k = 0; k < 4; k++) {
            BeanTrug x = Lived.one();
            s.due("the minute", x.image(k), 4);
            s.due("acts can be undone yet", x.count(13), 5);
            x.await(9);
            s.due("image " + k, x.back(k), 4);
        }
        s.due("without a trug", new BeanTrug().image(0), 0);
        s.due("in minute 9999", lateImage(), 9999);
    }

    private static int lateImage() {
        BeanTrug x = Trial.with(THREE);
        for (int i = 0; i < 166; i++) {
            x.await(60);
        }
        x.await(39);
        return x.image(0);
    }

    private static void back() {
        outside("back", 0, 3, -1, BeanTrug::back);
        s.refused("1 was never made", Lived::one, x -> x.back(1), -1);
        s.refused("3 was never made", Lived::one, x -> x.back(3), -1);
        for (int k = 0; k < 4; k++) {
            int which = k;
            s.refused(k + " was never made", BeanTrug::new, x -> x.back(which), -1);
        }
        s.due("0", Lived.one().back(0), 1);
        s.due("2", Lived.one().back(2), 0);
        BeanTrug x = Lived.one();
        x.image(1);
        Trial.tellTrug(x, "trug 9 0");
        s.due("of another trug", x.back(1), 4);
        s.due("twice", x.back(1), 4);
        s.refused("gone back to at once, without acts", PromiseEdgeTest::withoutActs, y -> y.back(1), 0);
    }

    private static BeanTrug withoutActs() {
        BeanTrug x = Trial.with(THREE);
        Trial.tellRule(x, "lift deep");
        x.force(0);
        x.seed(77);
        x.note(0, 0);
        x.image(1);
        return x;
    }
}
