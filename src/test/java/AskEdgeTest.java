/** The document's Terms, III: each sentence that names an edge of what is asked, of notes, draws and images. */
public final class AskEdgeTest {
    private static final String ONE = "trug 300 0;sorrow 1 1 4";
    private static final String THREE = "trug 20 2;sorrow 3 6 5;sorrow 4 9 8;sorrow 2 4 3;under 1 0;carrier 6;carrier 4";
    private static final String EIGHT = ";sorrow 1 1 1".repeat(8);
    private static Sentences s;

    public static void main(String[] args) throws Exception {
        s = new Sentences("AskEdgeTest");
        steps();
        rows();
        bearing();
        rest();
        s.close();
    }

    private static void steps() {
        s.test("(By what is asked nothing changes; STEPS go on by the RULE IN FORCE.)", AskEdgeTest::nothingChanges);
        s.test("AHEAD n STEPS (0 to 100): the minute; how DEEP all are that are LET BE; WEIGHT of all that are IN, "
                + "and EARTH; how many are IN.", AskEdgeTest::ahead);
        s.test("WHEN of a SORROW that is IN: the STEP, this one the first, of 100, in which it is LIFTED; the minute "
                + "behind it.", AskEdgeTest::when);
        s.test("BY DUSK: of the next 100 STEPS: in how many one is LET BE, how DEEP these are, together, which is the "
                + "last.", AskEdgeTest::dusk);
        s.test("SLACK of a SORROW that is IN: the most minutes, 0 to 300, that can go by now (9999 at most)",
                AskEdgeTest::slack);
        s.test("so that it is yet LET BE in one of the next 100 STEPS", AskEdgeTest::slackInSteps);
        s.test("LIGHT for a number (0 to 200)", AskEdgeTest::lightNumbers);
        s.test("how many STEPS from now on, 0 to 100, till all that are IN, and EARTH, are that WEIGHT or less",
                AskEdgeTest::lightSteps);
    }

    private static void rows() {
        s.test("of all rows of SORROWS that are IN, any many, none too", AskEdgeTest::anyMany);
        s.test("LIFTED one behind the other from now on, each LOOSE then, none LATE", AskEdgeTest::eachLooseNoneLate);
        s.test("that which is DEEPEST, together; of several the one of least TIME, then the first",
                AskEdgeTest::deepestRow);
        s.test("(a row ahead of longer ones it begins; least numbers first)", AskEdgeTest::firstRow);
        s.test("the most TIME that SORROWS take, together, which are IN, each but the first one UNDER the one ahead "
                + "of it, none twice", AskEdgeTest::chain);
        s.test("the least that such a CHAIN can begin with", AskEdgeTest::chainBegin);
        s.test("RINGS: SORROWS that are IN and lie, one by one over such as are IN, UNDER themselves, as bits.",
                AskEdgeTest::rings);
        s.test("TAKEN: the fewest SORROWS that are IN, without which there are no RINGS; of several sets the least as "
                + "bits", AskEdgeTest::taken);
    }

    private static void bearing() {
        s.test("each whole or not carried, none bearing more WEIGHT than STRONG", AskEdgeTest::notMoreThanStrong);
        s.test("that by which most WEIGHT is carried", AskEdgeTest::mostCarried);
        s.test("of several the first (SORROW 0 first; not carried ahead of CARRIER 0)", AskEdgeTest::firstWay);
        s.test("how much (without EARTH); who carries a SORROW", AskEdgeTest::withoutEarth);
        s.test("POLE: the fewest CARRIERS who are STRONG enough, together, for all that are IN, and EARTH",
                AskEdgeTest::pole);
        s.test("of several sets the least as bits: how many; the set. LIGHT", AskEdgeTest::poleSets);
    }

    private static void rest() {
        s.test("TOOK of a SORROW: numbers 1 to 40 as TIME, in place of what the text told", AskEdgeTest::took);
        s.test("so that from the begin on, by the RULE IN FORCE, all else as the text told it, all NOTES are so",
                AskEdgeTest::tookFromTheBegin);
        s.test("any SORROW that is LOOSE then, till none is (TIME and DUSK are not asked)", AskEdgeTest::game);
        s.test("how much more the first one has (below 0, too), if both do their best", AskEdgeTest::gameBelowNought);
        s.test("what the first one LIFTS first (of several the least)", AskEdgeTest::gameFirst);
        s.test("PENCE (0 to 9999) among SORROWS that are LET BE by how DEEP they are: each the part downwards",
                AskEdgeTest::pence);
        s.test("what is left, one each, to those whose part lost most by that, of several the least first",
                AskEdgeTest::penceLeft);
        s.test("(nothing, if there is none)", AskEdgeTest::penceForNone);
        s.test("NOTES 0 to 9, told: in the n-th STEP of all (0 to 60) a SORROW was LIFTED, or none (NONE).",
                AskEdgeTest::notes);
        s.test("RULED: which of the RULES, and of none, so that from the begin on, all as the text told it, all NOTES "
                + "are so: how many; the first (none ahead of 0, told as NONE).", AskEdgeTest::ruled);
        s.test("LOOK: the STEP (0 to 60) by what is LIFTED in which these part best: the most alike are fewest, of "
                + "several the least; how many.", AskEdgeTest::look);
        s.test("x (0 to 2147483647; 0 at first)", AskEdgeTest::seeds);
        s.test("becomes x * 1103515245 + 12345, of 2147483648 the rest; a DRAW is x / 65536.", AskEdgeTest::draws);
        s.test("YEARS m times (1 to 20) from now on", AskEdgeTest::years);
        s.test("as long as any is LOOSE: a DRAW mod how many: that one of these, by number, is LIFTED",
                AskEdgeTest::asLongAsAny);
        s.test("(nothing stays; x as it was)", AskEdgeTest::nothingStays);
        s.test("IMAGES 0 to 3: all but the TAPE and the RULES, as it is (the RULE IN FORCE, too)", AskEdgeTest::images);
        s.test("gone back to, it is as it was (these stay; nothing can be UNDONE then)", AskEdgeTest::goneBackTo);
    }

    private static BeanTrug in(int minute, String trug) {
        BeanTrug x = Trial.with(trug);
        for (int left = minute; left > 0; left -= 60) {
            x.await(Math.min(60, left));
        }
        return x;
    }

    private static BeanTrug ruledBy(String trug, String... rules) {
        BeanTrug x = Trial.with(trug);
        for (String rule : rules) {
            if (Trial.tellRule(x, rule) < 0) {
                throw new IllegalStateException("the test's own rule has a fault: " + rule);
            }
        }
        x.force(0);
        return x;
    }

    // ---- steps ----

    private static void nothingChanges() {
        s.changesNothing("ahead", Lived::one, x -> x.ahead(100, 1));
        s.changesNothing("when", Lived::one, x -> x.when(1, 1));
        s.changesNothing("dusk", Lived::one, x -> x.dusk(2));
        s.changesNothing("order", Lived::one, x -> x.order(0));
        s.changesNothing("chain", Lived::one, x -> x.chain(1));
        s.changesNothing("rings", Lived::one, BeanTrug::rings);
        s.changesNothing("taken", Lived::one, x -> x.taken(1));
        s.changesNothing("slack", Lived::one, x -> x.slack(1));
        s.changesNothing("carry", Lived::one, x -> x.carry(0));
        s.changesNothing("pole", Lived::one, x -> x.pole(1));
        s.changesNothing("light", Lived::one, x -> x.light(0));
        s.changesNothing("took", Lived::one, x -> x.took(1, 1));
        s.changesNothing("game", Lived::one, x -> x.game(1));
        s.changesNothing("pence", Lived::one, x -> x.pence(99, 3));
        s.changesNothing("ruled", Lived::one, x -> x.ruled(1));
        s.changesNothing("look", Lived::one, x -> x.look(1));
        s.changesNothing("years", Lived::one, x -> x.years(20, 1));
        s.changesNothing("count", Lived::one, x -> x.count(9));
        s.changesNothing("sorrow", Lived::one, x -> x.sorrow(0, 5));
        s.changesNothing("carrier", Lived::one, x -> x.carrier(0));
        BeanTrug x = ruledBy(THREE, "lift 9 - time", "lift deep", "lift 0");
        s.due("by the first", x.ahead(1, 1), 3);
        x.force(1);
        s.due("by the second", x.ahead(1, 1), 5);
        x.force(2);
        s.due("by the third", x.ahead(1, 0), 1);
        x.force(-1);
        s.due("by none", x.ahead(1, 1), 5);
    }

    private static void ahead() {
        BeanTrug x = Trial.with(THREE);
        int[][] due = {{0, 0, 11, 3}, {6, 5, 8, 2}, {15, 13, 4, 1}, {19, 16, 2, 0}, {20, 16, 2, 0}};
        for (int n = 0; n < due.length; n++) {
            for (int what = 0; what < 4; what++) {
                s.due("ahead(" + n + ", " + what + ")", x.ahead(n, what), due[n][what]);
            }
        }
        s.due("100", x.ahead(100, 0), 116);
        s.due("101", x.ahead(101, 0), -1);
        s.due("-1", x.ahead(-1, 0), -1);
        BeanTrug last = ruledBy(ONE, "lift 1 if step = 99", "lift 1 if step = 100");
        s.due("not in the 99th", last.ahead(99, 3), 1);
        s.due("in the 100th", last.ahead(100, 3), 0);
        last.force(1);
        s.due("in the 101st", last.ahead(100, 3), 1);
        last.step();
        s.due("in the 100th from then on", last.ahead(100, 3), 0);
        s.due("at most 9999", in(9950, ONE).ahead(100, 0), 9999);
        s.due("what was let be counts", afterTake(THREE, 0).ahead(0, 1), 5);
        s.due("an empty trug", Trial.with("trug 9 7").ahead(100, 2), 7);
    }

    private static BeanTrug afterTake(String trug, int... sorrows) {
        BeanTrug x = Trial.with(trug);
        for (int sorrow : sorrows) {
            x.take(sorrow);
        }
        return x;
    }

    private static void when() {
        BeanTrug x = Trial.with(THREE);
        s.due("this one the first", x.when(0, 0), 0);
        s.due("the minute behind it", x.when(0, 1), 6);
        s.due("the second", x.when(1, 0), 1);
        s.due("the third", x.when(2, 0), 2);
        s.due("the minute behind it", x.when(2, 1), 19);
        x.step();
        s.due("this one is STEP 1", x.when(1, 0), 1);
        s.due("not in", x.when(0, 0), -1);
        BeanTrug last = ruledBy(ONE, "lift 1 if step = 99", "lift 1 if step = 100");
        s.due("the 100th is STEP 99", last.when(0, 0), 99);
        s.due("the minute behind it", last.when(0, 1), 100);
        last.force(1);
        s.due("the 101st is in none", last.when(0, 0), -2);
        s.due("the 101st is in none", last.when(0, 1), -2);
        last.step();
        s.due("from STEP 1 on the 100th is STEP 100", last.when(0, 0), 100);
        s.due("the minute behind it", last.when(0, 1), 101);
        s.due("late is lifted, too", in(9999, ONE).when(0, 0), 0);
        s.due("late is lifted, too", in(9999, ONE).when(0, 1), 9999);
    }

    private static void dusk() {
        BeanTrug x = Trial.with(THREE);
        s.due("how many", x.dusk(0), 3);
        s.due("how deep", x.dusk(1), 16);
        s.due("the last", x.dusk(2), 2);
        x.await(1);
        s.due("the last just at dusk", x.dusk(2), 2);
        x.await(1);
        s.due("the last is late by one", x.dusk(2), 1);
        s.due("two", x.dusk(0), 2);
        s.due("two", x.dusk(1), 13);
        x.step();
        s.due("what was let be before is none of these", x.dusk(0), 1);
        s.due("what was let be before is none of these", x.dusk(1), 8);
        BeanTrug last = ruledBy(ONE, "lift 1 if step = 99", "lift 1 if step = 100");
        s.due("the 100th", last.dusk(0), 1);
        s.due("the 100th", last.dusk(1), 4);
        s.due("the 100th", last.dusk(2), 0);
        last.force(1);
        s.due("not the 101st", last.dusk(0), 0);
        s.due("not the 101st", last.dusk(1), 0);
        s.due("not the 101st", last.dusk(2), -2);
        s.due("none in it", Trial.with("trug 9 0").dusk(0), 0);
        s.due("none in it", Trial.with("trug 9 0").dusk(2), -2);
        s.due("late ones are none", in(300, ONE).dusk(0), 0);
        s.due("0 deep is one, too", Trial.with("trug 9 0;sorrow 1 1 0").dusk(0), 1);
    }

    private static void slack() {
        s.due("the most there can be", Trial.with(ONE).slack(0), 299);
        s.due("one minute less", in(1, ONE).slack(0), 298);
        s.due("just 0", in(299, ONE).slack(0), 0);
        s.due("not even 0", in(300, ONE).slack(0), -2);
        s.due("not even 0", in(9999, ONE).slack(0), -2);
        s.due("not even 0", in(9700, ONE).slack(0), -2);
        s.due("the least dusk", Trial.with("trug 1 0;sorrow 1 1 1").slack(0), 0);
        s.due("too long from the begin", Trial.with("trug 1 0;sorrow 1 2 1").slack(0), -2);
        s.due("behind others", Trial.with(THREE).slack(2), 1);
        s.due("behind another", Trial.with(THREE).slack(1), 5);
        s.due("not in", afterTake(THREE, 0).slack(0), -1);
    }

    private static void slackInSteps() {
        BeanTrug x = ruledBy(ONE, "lift 1 if step = 99", "lift 1 if step = 100", "lift 1 if minute = 299",
                "lift 1 if minute = 300", "lift 1 if minute = 120");
        s.due("in the 100th", x.slack(0), 200);
        x.force(1);
        s.due("not in the 101st", x.slack(0), -2);
        x.force(2);
        s.due("a wait without which it would take too long", x.slack(0), 299);
        x.force(3);
        s.due("in none, for it is late then", x.slack(0), -2);
        x.force(4);
        s.due("not more than till the minute", x.slack(0), 120);
        x.await(60);
        x.await(60);
        s.due("0 in that minute", x.slack(0), 0);
        x.await(1);
        s.due("none behind it", x.slack(0), -2);
        s.due("in a ring never", Trial.with("trug 9 0;sorrow 1 1 1;sorrow 1 1 1;under 0 1;under 1 0").slack(0), -2);
    }

    private static void lightNumbers() {
        BeanTrug x = Trial.with("trug 300 20" + ";sorrow 20 1 1".repeat(8));
        s.due("-1", x.light(-1), -1);
        s.due("0", x.light(0), -2);
        s.due("200", x.light(200), 0);
        s.due("201", x.light(201), -1);
        s.due("all", x.light(180), 0);
        s.due("one less", x.light(179), 1);
        s.due("the earth alone", x.light(20), 8);
        s.due("less than the earth", x.light(19), -2);
        s.due("0 of nothing", Trial.with("trug 9 0").light(0), 0);
        s.due("0 without earth", Trial.with(ONE).light(0), 1);
    }

    private static void lightSteps() {
        BeanTrug x = Trial.with(THREE);
        s.due("that weight", x.light(11), 0);
        s.due("one less", x.light(10), 1);
        s.due("that weight then", x.light(8), 1);
        s.due("one less then", x.light(7), 2);
        BeanTrug last = ruledBy(ONE, "lift 1 if step = 99", "lift 1 if step = 100");
        s.due("100", last.light(0), 100);
        last.force(1);
        s.due("101", last.light(0), -2);
        s.due("0 yet", last.light(1), 0);
        last.step();
        s.due("100 from then on", last.light(0), 100);
        s.due("late is out of it, too", in(9999, ONE).light(0), 1);
    }

    // ---- rows ----

    private static void isRow(String what, BeanTrug x, int deep, int time, int... row) {
        s.due(what + ": deep", x.order(-1), deep);
        s.due(what + ": time", x.order(-2), time);
        for (int place = 0; place < 8; place++) {
            s.due(what + ": place " + place, x.order(place), place < row.length ? row[place] : -2);
        }
    }

    private static void anyMany() {
        isRow("none is in", Trial.with("trug 9 0"), 0, 0);
        isRow("one", Trial.with(ONE), 4, 1, 0);
        isRow("all eight", Trial.with("trug 8 0" + EIGHT), 8, 8, 0, 1, 2, 3, 4, 5, 6, 7);
        isRow("seven of eight", Trial.with("trug 7 0" + EIGHT), 7, 7, 0, 1, 2, 3, 4, 5, 6);
        isRow("none of eight", in(8, "trug 8 0" + EIGHT), 0, 0);
        isRow("those that are in", afterTake("trug 8 0" + EIGHT, 0, 3), 6, 6, 1, 2, 4, 5, 6, 7);
        isRow("all are lifted", afterTake(ONE, 0), 0, 0);
        BeanTrug x = Trial.with("trug 8 0;sorrow 1 4 5;sorrow 1 4 5");
        isRow("two", x, 10, 8, 0, 1);
        x.await(4);
        isRow("one", x, 5, 4, 0);
        x.await(1);
        isRow("none any more", x, 0, 0);
    }

    private static void eachLooseNoneLate() {
        String two = ";sorrow 1 5 9;sorrow 1 6 1;under 0 1";
        isRow("just at dusk", Trial.with("trug 11 0" + two), 10, 11, 1, 0);
        isRow("one too late", Trial.with("trug 10 0" + two), 1, 6, 1);
        isRow("from now on", in(1, "trug 12 0" + two), 10, 11, 1, 0);
        isRow("from now on, too late", in(2, "trug 12 0" + two), 1, 6, 1);
        isRow("none in time", Trial.with("trug 5 0" + two), 0, 0);
        isRow("in a ring none", Trial.with("trug 99 0" + two + ";under 1 0"), 0, 0);
        isRow("at the last minute", in(9999, "trug 300 0" + two), 0, 0);
        isRow("under one that is lifted", afterTake("trug 99 0" + two, 1), 9, 5, 0);
    }

    private static void deepestRow() {
        isRow("deepest", Trial.with("trug 10 0;sorrow 1 1 4;sorrow 1 10 5"), 5, 10, 1);
        isRow("together", Trial.with("trug 11 0;sorrow 1 1 4;sorrow 1 10 5"), 9, 11, 0, 1);
        isRow("least time", Trial.with("trug 10 0;sorrow 1 10 5;sorrow 1 9 5"), 5, 9, 1);
        isRow("the first", Trial.with("trug 10 0;sorrow 1 9 5;sorrow 1 9 5"), 5, 9, 0);
        isRow("least time of two", Trial.with("trug 10 0;sorrow 1 9 5;sorrow 1 4 3;sorrow 1 4 2"), 5, 8, 1, 2);
    }

    private static void firstRow() {
        isRow("a longer one of lesser numbers", Trial.with("trug 4 0;sorrow 1 2 3;sorrow 1 2 3;sorrow 1 4 6"), 6, 4, 0, 1);
        isRow("a shorter one of lesser numbers", Trial.with("trug 4 0;sorrow 1 4 6;sorrow 1 2 3;sorrow 1 2 3"), 6, 4, 0);
        isRow("nothing behind it that is not deep", Trial.with("trug 9 0;sorrow 1 1 5;sorrow 1 1 0"), 5, 1, 0);
        isRow("none ahead of all", Trial.with("trug 9 0;sorrow 1 1 0"), 0, 0);
        isRow("by number, not by the way", Trial.with("trug 9 0;sorrow 1 1 1;sorrow 1 1 9;sorrow 1 1 5"), 15, 3, 0, 1, 2);
        isRow("as far as they are loose", Trial.with("trug 9 0;sorrow 1 1 1;sorrow 1 1 1;sorrow 1 1 1;under 0 1"), 3, 3,
                1, 0, 2);
    }

    private static void isChain(String what, BeanTrug x, int time, int first) {
        s.due(what + ": time", x.chain(0), time);
        s.due(what + ": first", x.chain(1), first);
    }

    private static void chain() {
        isChain("none is in", Trial.with("trug 9 0"), 0, -2);
        isChain("all are lifted", afterTake(ONE, 0), 0, -2);
        isChain("one", Trial.with(ONE), 1, 0);
        isChain("the longest alone", Trial.with("trug 9 0;sorrow 1 4 1;sorrow 1 9 1"), 9, 1);
        isChain("1 under 0", Trial.with(THREE), 15, 0);
        isChain("what is over it is lifted", afterTake(THREE, 0), 9, 1);
        String times = "trug 9 0;sorrow 1 4 1;sorrow 1 5 1;sorrow 1 7 1";
        isChain("0, 1 under it, 2 under that", Trial.with(times + ";under 1 0;under 2 1"), 16, 0);
        isChain("2, 1 under it, 0 under that", Trial.with(times + ";under 0 1;under 1 2"), 16, 2);
        isChain("both under 0, but not under one another", Trial.with(times + ";under 1 0;under 2 0"), 11, 0);
        isChain("the longer one under 0 comes first", Trial.with("trug 9 0;sorrow 1 4 1;sorrow 1 9 1;sorrow 1 1 1"
                + ";under 1 0;under 2 0"), 13, 0);
        isChain("a ring, none twice", Trial.with(times + ";under 1 0;under 2 1;under 0 2"), 16, 0);
        StringBuilder ring = new StringBuilder("trug 9 0" + ";sorrow 1 40 1".repeat(8));
        for (int i = 0; i < 8; i++) {
            ring.append(";under ").append(i).append(' ').append((i + 1) % 8);
        }
        isChain("a ring of all eight", Trial.with(ring.toString()), 320, 0);
    }

    private static void chainBegin() {
        String four = "trug 9 0;sorrow 1 3 1;sorrow 1 3 1;sorrow 1 3 1;sorrow 1 3 1";
        isChain("alike", Trial.with(four), 3, 0);
        isChain("two that are alike", Trial.with(four + ";under 0 3;under 1 2"), 6, 2);
        isChain("a ring can begin with each", Trial.with(four + ";under 2 3;under 3 2"), 6, 2);
        isChain("not the least of the chain", Trial.with(four + ";under 0 1"), 6, 1);
        isChain("the most time ahead of the least", Trial.with("trug 9 0;sorrow 1 3 1;sorrow 1 4 1"), 4, 1);
        String three = "trug 9 0;sorrow 1 4 1;sorrow 1 9 1;sorrow 1 ";
        isChain("two of less time", Trial.with(three + "4 1;under 2 0"), 9, 1);
        isChain("two of as much time", Trial.with(three + "5 1;under 2 0"), 9, 0);
        isChain("two of more time", Trial.with(three + "6 1;under 0 2"), 10, 2);
    }

    private static void rings() {
        String four = "trug 9 0;sorrow 1 1 1;sorrow 1 1 1;sorrow 1 1 1;sorrow 1 1 1";
        s.due("none is in", Trial.with("trug 9 0").rings(), 0);
        s.due("none", Trial.with(four + ";under 1 0;under 2 1").rings(), 0);
        s.due("two", Trial.with(four + ";under 1 0;under 0 1").rings(), 3);
        s.due("over others", Trial.with(four + ";under 0 1;under 1 2;under 2 0").rings(), 7);
        s.due("what lies under a ring is none", Trial.with(four + ";under 0 1;under 1 0;under 2 0").rings(), 3);
        s.due("what lies over a ring is none", Trial.with(four + ";under 0 1;under 1 0;under 0 2").rings(), 3);
        s.due("two rings", Trial.with(four + ";under 0 3;under 3 0;under 1 2;under 2 1").rings(), 15);
        s.due("between two rings is none", Trial.with(four + ";sorrow 1 1 1;under 0 1;under 1 0;under 2 1;under 3 2"
                + ";under 3 4;under 4 3").rings(), 27);
        BeanTrug x = Trial.with("trug 9 0" + EIGHT);
        for (int i = 0; i < 8; i++) {
            x.lay(i, (i + 1) % 8);
        }
        s.due("all eight", x.rings(), 255);
        x.lay(7, 0);
        s.due("broken by hand", x.rings(), 0);
        BeanTrug y = Trial.with(four + ";under 1 0");
        y.take(0);
        s.due("what is not in is none", y.rings(), 0);
    }

    private static void isTaken(String what, BeanTrug x, int many, int set) {
        s.due(what + ": how many", x.taken(0), many);
        s.due(what + ": the set", x.taken(1), set);
    }

    private static void taken() {
        String four = "trug 9 0;sorrow 1 1 1;sorrow 1 1 1;sorrow 1 1 1;sorrow 1 1 1";
        isTaken("none is in", Trial.with("trug 9 0"), 0, 0);
        isTaken("no rings", Trial.with(four + ";under 1 0"), 0, 0);
        isTaken("of two the least", Trial.with(four + ";under 2 3;under 3 2"), 1, 4);
        isTaken("one of both rings", Trial.with(four + ";under 0 3;under 3 0;under 1 3;under 3 1"), 1, 8);
        isTaken("one of each", Trial.with(four + ";under 0 3;under 3 0;under 1 2;under 2 1"), 2, 3);
        isTaken("the fewest ahead of the least", Trial.with(four + ";under 0 3;under 3 0;under 1 3;under 3 1;under 2 3;"
                + "under 3 2"), 1, 8);
        BeanTrug x = Trial.with("trug 9 0" + EIGHT);
        for (int i = 0; i < 8; i++) {
            for (int k = 0; k < 8; k++) {
                x.lay(i, k);
            }
        }
        isTaken("each under each", x, 7, 127);
    }

    // ---- bearing ----

    private static void isBorne(String what, BeanTrug x, int much, int... bearers) {
        s.due(what + ": how much", x.carry(-1), much);
        for (int i = 0; i < bearers.length; i++) {
            s.due(what + ": who carries " + i, x.carry(i), bearers[i]);
        }
    }

    private static void notMoreThanStrong() {
        isBorne("just as strong", Trial.with("trug 9 0;sorrow 5 1 1;carrier 5"), 5, 0, -2);
        isBorne("one too heavy", Trial.with("trug 9 0;sorrow 6 1 1;carrier 5"), 0, -1, -2);
        isBorne("whole or not", Trial.with("trug 9 0;sorrow 6 1 1;carrier 5;carrier 5"), 0, -1);
        isBorne("two just as strong", Trial.with("trug 9 0;sorrow 2 1 1;sorrow 3 1 1;carrier 5"), 5, 0, 0);
        isBorne("two, one too heavy", Trial.with("trug 9 0;sorrow 3 1 1;sorrow 3 1 1;carrier 5"), 3, -1, 0);
        isBorne("the strongest", Trial.with("trug 9 0;sorrow 20 1 1;sorrow 20 1 1;sorrow 20 1 1;sorrow 1 1 1;carrier 60"),
                60, 0, 0, 0, -1);
        isBorne("no carriers", Trial.with("trug 9 0;sorrow 1 1 1"), 0, -1);
        isBorne("no sorrows", Trial.with("trug 9 0;carrier 60"), 0, -2);
    }

    private static void mostCarried() {
        isBorne("not the first ones", Trial.with("trug 9 0;sorrow 3 1 1;sorrow 4 1 1;carrier 4"), 4, -1, 0);
        isBorne("more of less weight", Trial.with("trug 9 0;sorrow 5 1 1;sorrow 3 1 1;sorrow 3 1 1;carrier 6"), 6, -1, 0, 0);
        isBorne("by both", Trial.with(THREE), 9, 0, 1, 0);
        isBorne("all eight by four", Trial.with("trug 9 0" + ";sorrow 20 1 1".repeat(8)
                + ";carrier 40;carrier 40;carrier 40;carrier 40"), 160, 0, 0, 1, 1, 2, 2, 3, 3);
        BeanTrug x = Trial.with("trug 9 0;sorrow 5 1 1;carrier 5");
        x.lighten(0, 6);
        isBorne("the weight it has now", x, 0, -1);
        x.lighten(0, 4);
        isBorne("the weight it has now", x, 4, 0);
    }

    private static void firstWay() {
        isBorne("not carried first", Trial.with("trug 9 0;sorrow 5 1 1;sorrow 5 1 1;carrier 5"), 5, -1, 0);
        isBorne("carrier 0 first", Trial.with("trug 9 0;sorrow 5 1 1;carrier 5;carrier 5"), 5, 0);
        isBorne("the first in all", Trial.with("trug 9 0;sorrow 5 1 1;sorrow 5 1 1;carrier 5;carrier 5"), 10, 0, 1);
        isBorne("the last for the last", Trial.with("trug 9 0;sorrow 5 1 1;sorrow 5 1 1;carrier 5;carrier 5;carrier 10"),
                10, 0, 1);
        isBorne("the second, so that the first has room", Trial.with("trug 9 0;sorrow 4 1 1;sorrow 6 1 1;carrier 6"
                + ";carrier 4"), 10, 1, 0);
        isBorne("three of which two", Trial.with("trug 9 0;sorrow 5 1 1;sorrow 5 1 1;sorrow 5 1 1;carrier 10"), 10, -1, 0, 0);
    }

    private static void withoutEarth() {
        isBorne("no earth", Trial.with("trug 9 0;sorrow 5 1 1;carrier 5"), 5, 0);
        isBorne("much earth", Trial.with("trug 9 20;sorrow 5 1 1;carrier 5"), 5, 0);
        isBorne("not in", afterTake("trug 9 0;sorrow 5 1 1;sorrow 4 1 1;carrier 9", 0), 4, -2, 0, -2);
        isBorne("not told", Trial.with("trug 9 0;carrier 5"), 0, -2, -2, -2, -2, -2, -2, -2, -2, -3);
    }

    private static void isPole(String what, BeanTrug x, int many, int set) {
        s.due(what + ": how many", x.pole(0), many);
        s.due(what + ": the set", x.pole(1), set);
    }

    private static void pole() {
        isPole("nothing to bear, none to bear it", Trial.with("trug 9 0"), 0, 0);
        isPole("nothing to bear", Trial.with("trug 9 0;carrier 1"), 0, 0);
        isPole("earth, none to bear it", Trial.with("trug 9 1"), -2, -2);
        isPole("just strong enough", Trial.with("trug 9 5;carrier 5"), 1, 1);
        isPole("one too weak", Trial.with("trug 9 6;carrier 5"), -2, -2);
        isPole("what is in, and earth", Trial.with("trug 9 5;sorrow 3 1 1;carrier 8"), 1, 1);
        isPole("what is in, and earth", Trial.with("trug 9 5;sorrow 4 1 1;carrier 8"), -2, -2);
        isPole("what is not in is not borne", afterTake("trug 9 5;sorrow 4 1 1;carrier 8", 0), 1, 1);
        String most = "trug 9 20" + ";sorrow 20 1 1".repeat(8);
        isPole("all that can be", Trial.with(most + ";carrier 60;carrier 60;carrier 60"), 3, 7);
        isPole("all that can be", Trial.with(most + ";carrier 60;carrier 60;carrier 59"), -2, -2);
        isPole("by four", Trial.with(most + ";carrier 60;carrier 60;carrier 59;carrier 1"), 4, 15);
    }

    private static void poleSets() {
        String three = ";carrier 3;carrier 4;carrier 7";
        isPole("3", Trial.with("trug 9 3" + three), 1, 1);
        isPole("4", Trial.with("trug 9 4" + three), 1, 2);
        isPole("5", Trial.with("trug 9 5" + three), 1, 4);
        isPole("7", Trial.with("trug 9 7" + three), 1, 4);
        isPole("8", Trial.with("trug 9 8" + three), 2, 5);
        isPole("10", Trial.with("trug 9 10" + three), 2, 5);
        isPole("11", Trial.with("trug 9 11" + three), 2, 6);
        isPole("12", Trial.with("trug 9 12" + three), 3, 7);
        isPole("14", Trial.with("trug 9 14" + three), 3, 7);
        isPole("15", Trial.with("trug 9 15" + three), -2, -2);
        isPole("alike, the least", Trial.with("trug 9 5;carrier 5;carrier 5;carrier 5;carrier 5"), 1, 1);
        isPole("two alike, the least", Trial.with("trug 9 6;carrier 1;carrier 5;carrier 5;carrier 5"), 2, 3);
    }

    // ---- what notes tell ----

    private static void tookIs(String what, BeanTrug x, int many, int least) {
        s.due(what + ": how many", x.took(0, 0), many);
        s.due(what + ": the least", x.took(0, 1), least);
    }

    private static void took() {
        BeanTrug x = ruledBy(ONE, "lift 1 if time = 1", "lift 1 if time = 40", "lift 1 if time > 40", "lift 1 if time < 1",
                "lift time - 38");
        tookIs("without notes all", x, 40, 1);
        x.note(0, 0);
        tookIs("1", x, 1, 1);
        x.force(1);
        tookIs("40", x, 1, 40);
        x.force(2);
        tookIs("not 41", x, 0, -2);
        x.force(3);
        tookIs("not 0", x, 0, -2);
        x.force(4);
        tookIs("39 and 40", x, 2, 39);
        s.due("the text's own stays", x.sorrow(0, 1), 1);
    }

    private static void tookFromTheBegin() {
        BeanTrug x = ruledBy("trug 20 0;sorrow 5 6 1;sorrow 5 6 1", "lift weight * 10 - time", "lift 1");
        x.note(0, 0);
        tookIs("not longer than the other", x, 6, 1);
        x.lighten(1, 20);
        tookIs("as the text told it", x, 6, 1);
        x.lay(0, 1);
        tookIs("as the text told it", x, 6, 1);
        x.take(1);
        x.take(0);
        x.await(60);
        tookIs("from the begin on", x, 6, 1);
        x.force(1);
        tookIs("by the rule in force", x, 40, 1);
        x.force(-1);
        tookIs("by none", x, 40, 1);
        x.note(0, 1);
        tookIs("all notes, not one of them", x, 0, -2);
        x.force(0);
        tookIs("all notes, not one of them", x, 0, -2);
        BeanTrug y = ruledBy("trug 20 0;sorrow 1 1 1;sorrow 1 1 1", "lift 1 if rest = 0");
        y.note(1, -1);
        tookIs("to 20 it is let be, beyond it is late", y, 20, 1);
    }

    private static void isGame(String what, BeanTrug x, int more, int first) {
        s.due(what + ": how much more", x.game(0), more);
        s.due(what + ": which", x.game(1), first);
    }

    private static void game() {
        isGame("none at all", Trial.with("trug 9 0"), 0, -1);
        isGame("one", Trial.with("trug 9 0;sorrow 1 1 30"), 30, 0);
        isGame("longer than dusk", Trial.with("trug 1 0;sorrow 1 40 7"), 7, 0);
        isGame("long behind dusk", in(9999, "trug 1 0;sorrow 1 40 7"), 7, 0);
        isGame("a ring ends it", Trial.with("trug 9 0;sorrow 1 1 7;sorrow 1 1 9;sorrow 1 1 9;under 1 2;under 2 1"), 7, 0);
        isGame("only a ring", Trial.with("trug 9 0;sorrow 1 1 9;sorrow 1 1 9;under 0 1;under 1 0"), 0, -1);
        isGame("what is lifted is none", afterTake("trug 9 0;sorrow 1 1 9;sorrow 1 1 4", 0), 4, 1);
        isGame("all eight", Trial.with("trug 9 0" + EIGHT), 0, 0);
    }

    private static void gameBelowNought() {
        isGame("0 frees 1 for the other", Trial.with("trug 9 0;sorrow 1 1 0;sorrow 1 1 30;under 1 0"), -30, 0);
        isGame("5 and then 8", Trial.with("trug 9 0;sorrow 1 1 5;sorrow 1 1 8;under 1 0"), -3, 0);
        isGame("by turns", Trial.with(THREE), 6, 2);
        isGame("alike", Trial.with("trug 9 0;sorrow 1 1 9;sorrow 1 1 9"), 0, 0);
        isGame("the other does their best, too", Trial.with("trug 9 0;sorrow 1 1 3;sorrow 1 1 5;sorrow 1 1 9"), 7, 2);
    }

    private static void gameFirst() {
        isGame("alike", Trial.with("trug 9 0;sorrow 1 1 9;sorrow 1 1 9;sorrow 1 1 9"), 9, 0);
        isGame("the deeper", Trial.with("trug 9 0;sorrow 1 1 8;sorrow 1 1 9"), 1, 1);
        isGame("all worth nothing", Trial.with("trug 9 0;sorrow 1 1 0;sorrow 1 1 0"), 0, 0);
        isGame("alike in the end", Trial.with("trug 9 0;sorrow 1 1 4;sorrow 1 1 4;sorrow 1 1 0;under 0 1"), 0, 1);
    }

    private static void areLetBe(BeanTrug x) {
        while (x.step() >= 0) {
            continue;
        }
    }

    private static void partsAre(String what, BeanTrug x, int much, int... parts) {
        for (int i = 0; i < parts.length; i++) {
            s.due(what + ": " + much + " to " + i, x.pence(much, i), parts[i]);
        }
    }

    private static void pence() {
        BeanTrug x = Trial.with("trug 20 0;sorrow 1 6 5;sorrow 1 9 8;sorrow 1 4 3;sorrow 1 9 9");
        x.step();
        x.step();
        x.step();
        x.await(1);
        partsAre("all in time but 3", x, -1, -1, -1, -1, -1);
        partsAre("nothing to part", x, 0, 0, 0, 0, 0);
        partsAre("the least", x, 1, 0, 1, 0, 0);
        partsAre("without rest", x, 16, 5, 8, 3, 0);
        partsAre("31.25, 50 and 18.75", x, 100, 31, 50, 19, 0);
        partsAre("3124.69, 4999.5 and 1874.81", x, 9999, 3125, 4999, 1875, 0);
        partsAre("too many", x, 10000, -1, -1, -1, -1, -1);
        x.step();
        s.due("3 is late", x.sorrow(3, 3), 2);
        partsAre("late has no part", x, 16, 5, 8, 3, 0);
        BeanTrug most = Trial.with("trug 300 0;sorrow 1 1 30");
        areLetBe(most);
        partsAre("all of it", most, 9999, 9999);
    }

    private static void penceLeft() {
        BeanTrug x = Trial.with("trug 9 0;sorrow 1 1 7;sorrow 1 1 7;sorrow 1 1 7");
        areLetBe(x);
        partsAre("alike", x, 3, 1, 1, 1);
        partsAre("one is left", x, 4, 2, 1, 1);
        partsAre("two are left", x, 5, 2, 2, 1);
        partsAre("three are none", x, 6, 2, 2, 2);
        partsAre("less than each", x, 2, 1, 1, 0);
        BeanTrug y = Trial.with("trug 9 0;sorrow 1 1 1;sorrow 1 1 1;sorrow 1 1 2;sorrow 1 1 0");
        areLetBe(y);
        partsAre("lost most: 2", y, 1, 0, 0, 1, 0);
        partsAre("lost alike: 0 and 1", y, 2, 1, 0, 1, 0);
        partsAre("0.75, 0.75 and 1.5", y, 3, 1, 1, 1, 0);
        partsAre("1.25, 1.25 and 2.5", y, 5, 1, 1, 3, 0);
    }

    private static void penceForNone() {
        partsAre("none is let be", Trial.with(THREE), 9999, 0, 0, 0);
        BeanTrug late = in(300, ONE);
        late.step();
        partsAre("none is let be, but late", late, 9999, 0);
        BeanTrug shallow = Trial.with("trug 9 0;sorrow 1 1 0;sorrow 1 1 0");
        areLetBe(shallow);
        partsAre("none is deep", shallow, 9999, 0, 0);
        partsAre("no sorrow", Trial.with("trug 9 0"), 9999, -1);
    }

    private static void notes() {
        BeanTrug x = ruledBy(ONE, "lift 1 if step = 60", "lift 1 if step = 61", "lift 1 if step = 0");
        for (int i = 1; i <= 10; i++) {
            s.due("note " + (i - 1), x.note(0, -1), i);
        }
        s.due("no eleventh", x.note(0, -1), -2);
        s.due("ten", x.count(12), 10);
        s.due("first and second", x.ruled(0), 2);
        s.due("none then", x.note(-1, 0), 0);
        s.due("in step 60", x.note(60, 0), 1);
        s.due("the first alone", x.ruled(0), 1);
        s.due("the first alone", x.ruled(1), 0);
        s.due("not in step 61", x.note(61, 0), -2);
        x.note(-1, 0);
        s.due("none in step 60", x.note(60, -1), 1);
        s.due("all but the first", x.ruled(0), 3);
        s.due("none in step 0", x.note(0, -1), 2);
        s.due("the second alone", x.ruled(0), 1);
        s.due("the second alone", x.ruled(1), 1);
        x.note(-1, 0);
        s.due("0 in step 0", x.note(0, 0), 1);
        s.due("none and the third", x.ruled(0), 2);
        s.due("a note that gainsays it", x.note(0, -1), 2);
        s.due("no rule", x.ruled(0), 0);
        tenthCounts();
    }

    private static void tenthCounts() {
        BeanTrug x = ruledBy(ONE, "lift 1 if step = 60");
        for (int i = 0; i < 9; i++) {
            x.note(i, -1);
        }
        s.due("the first alone", x.ruled(1), 0);
        s.due("the tenth", x.note(60, -1), 10);
        s.due("none by the tenth", x.ruled(1), -2);
    }

    private static void ruled() {
        BeanTrug x = Trial.with("trug 9 0;sorrow 1 1 1;sorrow 2 1 1");
        s.due("none alone", x.ruled(0), 1);
        s.due("none alone", x.ruled(1), -1);
        for (int i = 0; i < 5; i++) {
            Trial.tellRule(x, "lift 1");
        }
        Trial.tellRule(x, "lift weight");
        s.due("all six, and none", x.ruled(0), 7);
        s.due("none is the first", x.ruled(1), -1);
        x.note(0, 1);
        s.due("the last alone", x.ruled(0), 1);
        s.due("the last alone", x.ruled(1), 5);
        x.lighten(0, 20);
        x.lay(0, 1);
        x.step();
        s.due("as the text told it", x.ruled(1), 5);
        x.note(1, 1);
        s.due("none such", x.ruled(0), 0);
        s.due("none such", x.ruled(1), -2);
        x.note(-1, 0);
        x.note(0, -1);
        s.due("none at all lifts none", x.ruled(0), 0);
        Trial.tellTrug(x, "trug 9 0");
        x.note(60, -1);
        s.due("in an empty trug all are so", x.ruled(0), 7);
        BeanTrug y = ruledBy("trug 9 0;sorrow 1 1 4;sorrow 1 1 1", "lift 1 if rest = 0");
        y.note(0, 0);
        y.note(1, -1);
        y.step();
        s.due("none is let be at the begin", y.ruled(1), 0);
        s.due("none is let be at the begin", y.took(0, 0), 9);
    }

    private static void look() {
        BeanTrug x = ruledBy(ONE, "lift 1 if step = 60", "lift 1 if step = 61", "lift 0");
        // Of all four none alone lifts in STEP 0, the first alone in STEP 60: three are alike in both.
        s.due("of several the least", x.look(0), 0);
        s.due("how many", x.look(1), 3);
        x.note(0, -1);
        s.due("in the last STEP", x.look(0), 60);
        s.due("how many", x.look(1), 2);
        x.note(60, -1);
        s.due("STEP 61 is not looked at", x.look(0), 0);
        s.due("how many", x.look(1), 2);
        x.note(-1, 0);
        x.note(60, 0);
        s.due("one alone", x.look(0), 0);
        s.due("one alone", x.look(1), 1);
        x.note(60, -1);
        s.due("none is so", x.look(0), -2);
        s.due("none is so", x.look(1), -2);
        BeanTrug y = ruledBy("trug 9 0;sorrow 1 1 1;sorrow 1 1 2;sorrow 1 1 3", "lift 1 if sorrow = 0 or step > 0",
                "lift 1 if sorrow = 1 and step = 1;lift 4 - sorrow", "lift 2 if sorrow = 2 and step = 1;lift 4 - sorrow");
        // STEP 0: all 0. STEP 1: none 1, first 1, second 2 (worth 2 above 1), third 1.
        s.due("where they part", y.look(0), 1);
        s.due("the most alike", y.look(1), 3);
        lookAtSeven();
        s.due("without a rule and a note", Trial.with(ONE).look(0), 0);
        s.due("without a rule and a note", Trial.with(ONE).look(1), 1);
    }

    private static void lookAtSeven() {
        String eight = "trug 300 0" + ";sorrow 1 1 1".repeat(8);
        BeanTrug x = ruledBy(eight, "lift 1 if sorrow = 1 or step > 0", "lift 1 if sorrow = 2 or step > 0",
                "lift 1 if sorrow = 3 or step > 0", "lift 1 if sorrow = 4 or step > 0", "lift 1 if sorrow = 5 or step > 0",
                "lift 1 if sorrow = 6 or step > 0");
        s.due("all seven part at once", x.look(0), 0);
        s.due("none is like another", x.look(1), 1);
        BeanTrug y = ruledBy(eight, "lift 1", "lift 1", "lift 1", "lift 1", "lift 1", "lift 1 if step < 7");
        s.due("the last parts from the others", y.look(0), 7);
        s.due("six are alike", y.look(1), 6);
        BeanTrug z = ruledBy(eight, "lift 1", "lift 1", "lift 1", "lift 1", "lift 1", "lift 9 - sorrow");
        s.due("all seven are alike", z.look(0), 0);
        s.due("all seven are alike", z.look(1), 7);
    }

    // ---- draws ----

    private static void seeds() {
        BeanTrug x = new BeanTrug();
        s.due("0 at first", x.count(14), 0);
        s.due("the greatest", x.seed(Integer.MAX_VALUE), 0);
        s.due("the greatest", x.count(14), Integer.MAX_VALUE);
        s.due("below 0", x.seed(-1), -1);
        s.due("below 0", x.seed(Integer.MIN_VALUE), -1);
        s.due("0", x.seed(0), Integer.MAX_VALUE);
        s.due("0", x.count(14), 0);
    }

    // Dusk lets only the first be, which is as deep as its number and 1.
    private static BeanTrug firstAlone() {
        StringBuilder text = new StringBuilder("trug 1 0");
        for (int i = 1; i <= 8; i++) {
            text.append(";sorrow 1 1 ").append(i);
        }
        return Trial.with(text.toString());
    }

    private static int firstDrawn(int seed) {
        BeanTrug x = firstAlone();
        x.seed(seed);
        return x.years(1, 0) - 1;
    }

    private static void draws() {
        // x becomes 12345: a DRAW of 0.
        s.due("of 0", firstDrawn(0), 0);
        // 1103527590 / 65536 is 16838, of 8 the rest 6.
        s.due("of 1", firstDrawn(1), 6);
        // 1043980748 / 65536 is 15929, of 8 the rest 1.
        s.due("of 2147483647", firstDrawn(2147483647), 1);
        // 2087949151 / 65536 is 31859, of 8 the rest 3.
        s.due("of 2147483646", firstDrawn(2147483646), 3);
        // 1218823938 / 65536 is 18597, of 8 the rest 5.
        s.due("of 77", firstDrawn(77), 5);
        s.due("x becomes 0", firstDrawn(2088216195), 0);
        s.due("x becomes 65535", firstDrawn(2032319262), 0);
        s.due("x becomes 65536", firstDrawn(1742513795), 1);
        s.due("x becomes 524287, DRAW 7", firstDrawn(1759886110), 7);
        s.due("x becomes 524288, DRAW 8", firstDrawn(1470080643), 0);
        s.due("x becomes 2147418111, DRAW 32766", firstDrawn(576240414), 6);
        s.due("x becomes 2147418112, DRAW 32767", firstDrawn(286434947), 7);
        s.due("x becomes 2147483647, DRAW 32767", firstDrawn(230538014), 7);
    }

    private static void years() {
        BeanTrug x = firstAlone();
        s.due("0", x.years(0, 0), -1);
        s.due("-1", x.years(-1, 0), -1);
        s.due("1", x.years(1, 0), 1);
        s.due("1, minutes", x.years(1, 1), 8);
        // The second year begins with the ninth DRAW: 12122, of 8 the rest 2.
        s.due("2", x.years(2, 0), 4);
        s.due("20, minutes", x.years(20, 1), 160);
        s.due("21", x.years(21, 0), -1);
        s.due("21, minutes", x.years(21, 1), -1);
        x.seed(2147483647);
        // The ninth DRAW: 8032, of 8 the rest 0.
        s.due("2 from the greatest x on", x.years(2, 0), 3);
        // Two DRAWS a year, the first of each: 0, 9988, 3498, 16045: the fourth is odd.
        s.due("4 of two sorrows", Trial.with("trug 1 0;sorrow 1 1 1;sorrow 1 1 10").years(4, 0), 13);
        BeanTrug empty = Trial.with("trug 9 0");
        empty.await(5);
        s.due("an empty trug", empty.years(20, 1), 100);
        s.due("an empty trug", empty.years(20, 0), 0);
        s.due("at the last minute", in(9999, ONE).years(20, 1), 199980);
        s.due("what is let be already", afterTake(ONE, 0).years(20, 0), 80);
    }

    private static void asLongAsAny() {
        // 0 alone is loose: one DRAW a year, then the ring is left.
        BeanTrug x = Trial.with("trug 99 0;sorrow 1 2 7;sorrow 1 1 9;sorrow 1 1 9;under 1 2;under 2 1");
        s.due("a ring is left", x.years(1, 0), 7);
        s.due("a ring is left", x.years(3, 1), 6);
        BeanTrug y = Trial.with("trug 1 0;sorrow 1 1 1;sorrow 1 1 10;sorrow 1 1 20;under 0 2");
        // Of 1 and 2: DRAWS 0 and 21468 in the first year, mod 2 and mod 2, then 9988 mod 1.
        s.due("by number among those that are loose", y.years(1, 0), 10);
        y.seed(2147483647);
        // 15929 is odd: the second of them.
        s.due("by number among those that are loose", y.years(1, 0), 20);
        BeanTrug one = Trial.with("trug 1 0;sorrow 1 1 1;sorrow 1 1 10;sorrow 1 1 20;under 1 0;under 2 0");
        s.due("one of one", one.years(1, 0), 1);
        s.due("all are lifted", one.years(1, 1), 3);
    }

    private static void nothingStays() {
        s.changesNothing("one year", Lived::one, x -> x.years(1, 0));
        s.changesNothing("20 years", Lived::one, x -> x.years(20, 1));
        BeanTrug x = firstAlone();
        x.seed(1);
        s.due("the same", x.years(2, 0), x.years(2, 0));
        s.due("x", x.count(14), 1);
        s.due("all are in", x.count(8), 255);
        s.due("no act", x.count(13), 0);
    }

    // ---- images ----

    private static void images() {
        BeanTrug x = Lived.one();
        s.due("-1", x.image(-1), -1);
        s.due("0", x.image(0), 4);
        s.due("3", x.image(3), 4);
        s.due("4", x.image(4), -1);
        x.force(0);
        x.seed(5);
        x.note(-1, 0);
        Trial.tellRule(x, "lift 1");
        Trial.tellTrug(x, "trug 9 0;sorrow 1 1 1");
        x.feed(1, 2, 3, 4, 5);
        s.due("back", x.back(3), 4);
        int[] due = {40, 2, 4, 2, 3, 1, 4, 1, 7, 5, 7, 16, 2, 0, 77, 20};
        for (int what = 0; what <= 15; what++) {
            s.due("count(" + what + ")", x.count(what), due[what]);
        }
        s.due("its weight", x.sorrow(2, 0), 7);
        s.due("its carriers", x.carrier(1), 4);
        BeanTrug y = ruledBy("trug 9 0;sorrow 1 1 1;sorrow 1 1 2", "lift deep", "lift 0");
        y.note(0, 1);
        y.image(0);
        y.note(-1, 0);
        y.note(1, -1);
        s.due("other notes", y.ruled(1), 1);
        y.back(0);
        s.due("its notes", y.ruled(1), 0);
        y.note(-1, 0);
        y.note(0, -1);
        s.due("another sorrow noted", y.ruled(1), 1);
        y.back(0);
        s.due("its notes", y.ruled(1), 0);
    }

    private static void goneBackTo() {
        BeanTrug x = Lived.one();
        s.due("acts can be undone", x.count(13), 5);
        s.due("back", x.back(0), 1);
        s.due("nothing can be undone", x.count(13), 0);
        s.due("nothing can be undone", x.undo(), -1);
        s.due("the tape stays", x.count(15), Lived.TAPE.length());
        s.due("the rules stay", x.count(4), 2);
        x.step();
        s.due("what comes behind it can be", x.undo(), 0);
        x.step();
        s.due("the image stays", x.back(0), 1);
        s.due("it is as it was", x.count(8), 15);
        s.due("another image stays, too", x.back(2), 0);
        s.due("as it was then", x.count(5), -1);
        s.due("as it was then", x.count(14), 0);
        s.due("as it was then", x.count(12), 0);
        x.await(9);
        s.due("made anew", x.image(2), 9);
        x.await(9);
        s.due("the new one", x.back(2), 9);
        s.due("the tape is as it was", x.trug(), 1);
        s.due("an image of another trug", x.back(0), 1);
        s.due("an image of another trug", x.count(2), 4);
    }
}
