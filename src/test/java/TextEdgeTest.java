/** The document's Terms, I: each sentence that names an edge of the texts, their words and their faults. */
public final class TextEdgeTest {
    private static final String ONE = "trug 9 0;sorrow 1 1 1";
    private static final String TWO = "trug 1 0;sorrow 1 1 0;sorrow 1 1 0";
    private static Sentences s;

    public static void main(String[] args) throws Exception {
        s = new Sentences("TextEdgeTest");
        trugs();
        rules();
        words();
        faults();
        s.close();
    }

    private static void trugs() {
        s.test("A TRUG is a text of at most 400 bytes", TextEdgeTest::fourHundredBytes);
        s.test("CLAUSE { ; CLAUSE }, 40 at most", TextEdgeTest::fortyClauses);
        s.test("DUSK 1 to 300, a minute", TextEdgeTest::dusk);
        s.test("EARTH 0 to 20", TextEdgeTest::earth);
        s.test("once, the first CLAUSE", TextEdgeTest::onceAndFirst);
        s.test("WEIGHT 1 to 20; TIME 1 to 40; DEEP 0 to 30", TextEdgeTest::weightTimeDeep);
        s.test("a SORROW that was told lies UNDER another one that was", TextEdgeTest::underThoseTold);
        s.test("told already: nothing new", TextEdgeTest::toldAlready);
        s.test("STRONG 1 to 60", TextEdgeTest::strong);
        s.test("SORROWS 0 to 7, CARRIERS 0 to 3, in the order told.", TextEdgeTest::sorrowsAndCarriers);
        s.test("It is minute 0, STEP 0; all SORROWS are IN the trug.", TextEdgeTest::atFirst);
    }

    private static void rules() {
        s.test("RULES 0 to 5", TextEdgeTest::sixRules);
        s.test("texts likewise, 12 CLAUSES at most", TextEdgeTest::twelveClauses);
        s.test("lift SUM [ if TEST ]", TextEdgeTest::withAndWithoutIf);
        s.test("TEST: PART { or PART }", TextEdgeTest::ors);
        s.test("PART: FACT { and FACT }", TextEdgeTest::ands);
        s.test("FACT: not FACT | [ TEST ] (these brackets are signs) | SUM SIGN SUM", TextEdgeTest::facts);
        s.test("SIGN one of < <= = >= >.", TextEdgeTest::signs);
        s.test("SUM: TERM { (+ or -) TERM }", TextEdgeTest::sums);
        s.test("TERM: VALUE { (* or / or %) VALUE }", TextEdgeTest::terms);
        s.test("NUMBER (1 to 5 digits, as far as digits go on)", TextEdgeTest::fiveDigits);
        s.test("WORDS (small letters, as far as these go on)", TextEdgeTest::smallLetters);
        s.test("/ is towards 0, % its rest, both 0 by 0", TextEdgeTest::division);
        s.test("all goes round in 64 bits", TextEdgeTest::round);
        s.test("Blanks (32) stand between as one likes", TextEdgeTest::blanks);
        s.test("[ and not lie within one another 10 deep at most", TextEdgeTest::tenDeep);
        s.test("at most 60 VALUES (of SUMS) and FACTS made of a SIGN, together", TextEdgeTest::sixty);
    }

    private static void words() {
        s.test("of a SORROW that is LOOSE: sorrow, weight, time, deep", TextEdgeTest::ownWords);
        s.test("over (how many SORROWS that are IN lie UNDER it)", TextEdgeTest::over);
        s.test("many (how many are IN)", TextEdgeTest::many);
        s.test("loose (how many are LOOSE)", TextEdgeTest::loose);
        s.test("left (DUSK less the minute, below 0, too)", TextEdgeTest::left);
        s.test("load (WEIGHT of all that are IN, and EARTH)", TextEdgeTest::load);
        s.test("rest (how DEEP all are that are LET BE, together)", TextEdgeTest::rest);
        s.test("minute, step.", TextEdgeTest::minuteAndStep);
    }

    private static void faults() {
        s.test("FAULTS, the first along the text", TextEdgeTest::theFirstFault);
        s.test("1 + 8 * its place and", TextEdgeTest::placeAndKind);
        s.test("0 a byte or WORD that can't stand there", TextEdgeTest::cannotStand);
        s.test("or the end (behind the last byte)", TextEdgeTest::theEnd);
        s.test("1 a NUMBER of more digits, or not as told", TextEdgeTest::numbersNotAsTold);
        s.test("(of under the second SORROW, if it is the first)", TextEdgeTest::underItself);
        s.test("2 too deep (at the sign that opens, or the word not)", TextEdgeTest::tooDeep);
        s.test("3 one VALUE or FACT too many (at its first byte; of a FACT at its SIGN)", TextEdgeTest::valueTooMany);
        s.test("4 one CLAUSE too many", TextEdgeTest::clauseTooMany);
        s.test("a second trug", TextEdgeTest::secondTrug);
        s.test("another CLAUSE ahead of it", TextEdgeTest::anotherAhead);
        s.test("a ninth SORROW", TextEdgeTest::ninthSorrow);
        s.test("a fifth CARRIER (at its first byte)", TextEdgeTest::fifthCarrier);
        s.test("Of one place the least.", TextEdgeTest::theLeastOfOnePlace);
    }

    // ---- trugs ----

    private static void countsAs(String text, int what, int worth) {
        s.due("count(" + what + ") of '" + text + "'", Trial.with(text).count(what), worth);
    }

    private static void isAsTold(String text, int sorrow, int what, int worth) {
        s.due("sorrow(" + sorrow + ", " + what + ") of '" + text + "'", Trial.with(text).sorrow(sorrow, what), worth);
    }

    private static void fourHundredBytes() {
        String full = "trug 300" + " ".repeat(390) + "20";
        s.reads(full, 0);
        countsAs(full, 0, 300);
        countsAs(full, 1, 20);
        BeanTrug x = new BeanTrug();
        Trial.onTape(x, full);
        s.due("400 bytes are on the tape", x.count(15), 400);
        s.due("no more come", x.feed(0, 0, 0, 0, 0), -1);
        s.due("the text is as it was", x.trug(), 0);
        s.due("the last byte is read", x.count(1), 20);
        s.trugFault("trug 300" + " ".repeat(391) + "x", 399, 0);
        s.trugFault("trug 300" + " ".repeat(392), 400, 0);
        // As many words, numbers and signs as bytes.
        s.trugFault("<".repeat(400), 0, 0);
        s.trugFault("trug1 0" + ";".repeat(393), 8, 0);
        s.ruleFault("lift 1" + "+".repeat(394), 7, 0);
    }

    private static void fortyClauses() {
        s.reads("trug 1 0", 0);
        String forty = TWO + ";under0 1".repeat(37);
        s.reads(forty, 2);
        s.trugFault(forty + ";under1 0", forty.length() + 1, 4);
        s.trugFault(forty + ";", forty.length() + 1, 0);
        s.reads(forty + " ", 2);
    }

    private static void dusk() {
        s.trugFault("trug 0 0", 5, 1);
        countsAs("trug 1 0", 0, 1);
        countsAs("trug 300 0", 0, 300);
        s.trugFault("trug 301 0", 5, 1);
        s.trugFault("trug -1 0", 5, 0);
    }

    private static void earth() {
        countsAs("trug 1 0", 1, 0);
        countsAs("trug 1 20", 1, 20);
        s.trugFault("trug 1 21", 7, 1);
        s.trugFault("trug 1 -1", 7, 0);
    }

    private static void onceAndFirst() {
        s.reads("trug 1 0", 0);
        s.trugFault("trug 1 0;trug 1 0", 9, 4);
        s.trugFault("trug 1 0;sorrow 1 1 0;trug 1 0", 22, 4);
        s.trugFault("sorrow 1 1 0;trug 1 0", 0, 4);
        s.trugFault("carrier 1;trug 1 0", 0, 4);
        s.trugFault(";trug 1 0", 0, 0);
    }

    private static void weightTimeDeep() {
        String begin = "trug 1 0;sorrow ";
        s.trugFault(begin + "0 1 0", 16, 1);
        isAsTold(begin + "1 1 0", 0, 0, 1);
        isAsTold(begin + "20 1 0", 0, 0, 20);
        s.trugFault(begin + "21 1 0", 16, 1);
        s.trugFault(begin + "1 0 0", 18, 1);
        isAsTold(begin + "1 1 0", 0, 1, 1);
        isAsTold(begin + "1 40 0", 0, 1, 40);
        s.trugFault(begin + "1 41 0", 18, 1);
        isAsTold(begin + "1 1 0", 0, 2, 0);
        isAsTold(begin + "1 1 30", 0, 2, 30);
        s.trugFault(begin + "1 1 31", 20, 1);
        s.trugFault(begin + "1 1 -1", 20, 0);
    }

    private static void underThoseTold() {
        s.trugFault("trug 1 0;under 0 0", 15, 1);
        s.trugFault("trug 1 0;under 0 1", 15, 1);
        s.trugFault("trug 1 0;sorrow 1 1 0;under 0 1;sorrow 1 1 0", 30, 1);
        s.trugFault("trug 1 0;sorrow 1 1 0;under 1 0;sorrow 1 1 0", 28, 1);
        isAsTold(TWO + ";under 0 1", 0, 5, 2);
        isAsTold(TWO + ";under 1 0", 1, 5, 1);
        s.trugFault(TWO + ";under 0 2", 43, 1);
        s.trugFault(TWO + ";under 2 0", 41, 1);
        s.trugFault(TWO + ";under 0 0", 43, 1);
        String eight = "trug 1 0" + ";sorrow 1 1 0".repeat(8);
        isAsTold(eight + ";under 0 7", 0, 5, 128);
        isAsTold(eight + ";under 7 0", 7, 5, 1);
        s.trugFault(eight + ";under 0 8", eight.length() + 9, 1);
        s.trugFault(eight + ";under 8 0", eight.length() + 7, 1);
    }

    private static void toldAlready() {
        String twice = TWO + ";under 0 1;under 0 1";
        s.reads(twice, 2);
        isAsTold(twice, 0, 5, 2);
        countsAs(twice, 9, 2);
        isAsTold(twice + ";under 0 1", 0, 5, 2);
        isAsTold(TWO + ";under 0 1;under 1 0;under 0 1", 0, 5, 2);
    }

    private static void strong() {
        s.trugFault("trug 1 0;carrier 0", 17, 1);
        s.due("1", Trial.with("trug 1 0;carrier 1").carrier(0), 1);
        s.due("60", Trial.with("trug 1 0;carrier 60").carrier(0), 60);
        s.trugFault("trug 1 0;carrier 61", 17, 1);
    }

    private static void sorrowsAndCarriers() {
        StringBuilder text = new StringBuilder("trug 1 0");
        for (int i = 0; i < 8; i++) {
            text.append(";sorrow ").append(i + 1).append(' ').append(i + 11).append(' ').append(i + 21);
            text.append(i % 2 == 0 ? ";carrier " + (i + 31) : "");
        }
        BeanTrug x = Trial.with(text.toString());
        for (int i = 0; i < 8; i++) {
            s.due("weight of " + i, x.sorrow(i, 0), i + 1);
            s.due("time of " + i, x.sorrow(i, 1), i + 11);
            s.due("deep of " + i, x.sorrow(i, 2), i + 21);
        }
        for (int i = 0; i < 4; i++) {
            s.due("carrier " + i, x.carrier(i), 2 * i + 31);
        }
        s.due("no sorrow 8", x.sorrow(8, 0), -2);
        s.due("no carrier 4", x.carrier(4), -1);
        s.reads("trug 1 0", 0);
        s.due("no sorrow at all", Trial.with("trug 1 0").sorrow(0, 0), -2);
        s.due("no carrier at all", Trial.with("trug 1 0").carrier(0), -1);
    }

    private static void atFirst() {
        BeanTrug x = Trial.with("trug 1 0" + ";sorrow 1 1 0".repeat(8) + ";under 1 0");
        x.step();
        x.await(60);
        Trial.tellTrug(x, "trug 1 0" + ";sorrow 1 1 0".repeat(8) + ";under 1 0");
        s.due("minute", x.count(6), 0);
        s.due("step", x.count(7), 0);
        s.due("all are in", x.count(8), 255);
        s.due("under or not", x.sorrow(1, 3), 0);
        countsAs("trug 1 0", 8, 0);
        countsAs("trug 1 0;sorrow 1 1 0", 8, 1);
    }

    // ---- rules ----

    private static BeanTrug ruledBy(String trug, String rule) {
        BeanTrug x = Trial.with(trug);
        force(x, rule);
        return x;
    }

    private static void force(BeanTrug x, String rule) {
        int number = Trial.tellRule(x, rule);
        if (number < 0) {
            throw new IllegalStateException("the test's own rule has a fault: " + rule);
        }
        x.force(number);
    }

    /** Whether a test holds of the only sorrow of a trug of dusk 9 in a minute. */
    private static void holdsAt(int minute, String test, boolean is) {
        BeanTrug x = Trial.with(ONE);
        if (minute > 0) {
            x.await(minute);
        }
        force(x, "lift 1 if " + test);
        s.due(test + " in minute " + minute, x.step(), is ? 0 : -2);
    }

    private static void holds(String test, boolean is) {
        holdsAt(0, test, is);
    }

    private static void sixRules() {
        BeanTrug x = new BeanTrug();
        for (int i = 0; i < 6; i++) {
            s.due("rule " + i, Trial.tellRule(x, "lift 1"), i);
        }
        s.due("no seventh", Trial.tellRule(x, "lift 1"), -1);
        s.due("5 is one", x.force(5), -1);
        s.due("6 is none", x.force(6), -2);
    }

    private static void twelveClauses() {
        String eleven = "lift 0 if 1=2;".repeat(11);
        s.ruleReads("lift 1");
        s.due("the twelfth counts", ruledBy(ONE, eleven + "lift 1").step(), 0);
        s.ruleFault(eleven + "lift 1;lift 1", eleven.length() + 7, 4);
        s.ruleFault("", 0, 0);
        BeanTrug x = new BeanTrug();
        s.due("twelve in one rule", Trial.tellRule(x, eleven + "lift 1"), 0);
        s.due("and twelve in another", Trial.tellRule(x, eleven + "lift 1"), 1);
        String full = "lift 1" + " ".repeat(393) + "+";
        s.ruleFault(full, 400, 0);
        s.ruleReads("lift 1" + " ".repeat(392) + "+1");
        s.due("the last byte is read", ruledBy(ONE, "lift 1" + " ".repeat(392) + "-1").step(), -2);
    }

    private static void withAndWithoutIf() {
        s.due("without", ruledBy(ONE, "lift 1").step(), 0);
        s.due("with one that holds", ruledBy(ONE, "lift 1 if 1=1").step(), 0);
        s.due("with one that does not", ruledBy(ONE, "lift 1 if 1=2").step(), -2);
        s.ruleFault("lift 1 if", 9, 0);
        s.ruleFault("lift if 1=1", 5, 0);
        s.ruleFault("lift 1 if 1=1 if 1=1", 14, 0);
    }

    private static void ors() {
        holds("1=2 or 1=2", false);
        holds("1=1 or 1=2", true);
        holds("1=2 or 1=1", true);
        holds("1=2 or 1=2 or 1=1", true);
        s.ruleFault("lift 1 if 1=1 or", 16, 0);
        s.ruleFault("lift 1 if or 1=1", 10, 0);
    }

    private static void ands() {
        holds("1=1 and 1=1", true);
        holds("1=1 and 1=2", false);
        holds("1=2 and 1=1", false);
        holds("1=1 and 1=1 and 1=2", false);
        holds("1=1 or 1=1 and 1=2", true);
        holds("1=2 and 1=1 or 1=1", true);
        s.ruleFault("lift 1 if 1=1 and", 17, 0);
        s.ruleFault("lift 1 if and 1=1", 10, 0);
    }

    private static void facts() {
        holds("not 1=1", false);
        holds("not 1=2", true);
        holds("not not 1=1", true);
        holds("not 1=2 and 1=2", false);
        holds("not [1=2 and 1=2]", true);
        holds("[1=1]", true);
        holds("[1=1 or 1=1] and 1=2", false);
        s.ruleFault("lift 1 if []", 11, 0);
        s.ruleFault("lift 1 if [1=1", 14, 0);
        s.ruleFault("lift 1 if 1=1]", 13, 0);
        s.ruleFault("lift 1 if not", 13, 0);
        s.ruleFault("lift 1 if 1", 11, 0);
        s.ruleFault("lift 1 if 1 and 1=1", 12, 0);
        s.ruleFault("lift 1 if 1 2=2", 12, 0);
        s.ruleFault("lift 1 if 1;lift 1", 11, 0);
        s.ruleFault("lift 1 if (1=1)", 10, 0);
        s.ruleFault("lift [1]", 5, 0);
    }

    private static void signs() {
        String[] signs = {"<", "<=", "=", ">=", ">"};
        boolean[] below = {true, true, false, false, false};
        boolean[] equal = {false, true, true, true, false};
        for (int i = 0; i < signs.length; i++) {
            holds("4" + signs[i] + "5", below[i]);
            holds("5" + signs[i] + "5", equal[i]);
            holds("6" + signs[i] + "5", below[signs.length - 1 - i]);
            holds("not 4" + signs[i] + "5", !below[i]);
            holds("not 5" + signs[i] + "5", !equal[i]);
            holds("4" + signs[i] + "5 and 1=1", below[i]);
            holds("5" + signs[i] + "5 and 1=1", equal[i]);
            holds("6" + signs[i] + "5 and 1=1", below[signs.length - 1 - i]);
        }
        s.ruleFault("lift 1 if 1 < = 1", 14, 0);
        s.ruleFault("lift 1 if 1 =< 1", 13, 0);
        s.ruleFault("lift 1 if 1 <> 1", 13, 0);
        s.ruleFault("lift 1 if 1 == 1", 13, 0);
        s.ruleFault("lift 1 if 1 <== 1", 14, 0);
        s.ruleFault("lift 1 if 1 ! 1", 12, 0);
    }

    private static void sums() {
        holds("10-4-3 = 3", true);
        holds("10-4+3 = 9", true);
        holds("1-2 < 0", true);
        s.ruleFault("lift +1", 5, 0);
        s.ruleFault("lift -1", 5, 0);
        s.ruleFault("lift 1+", 7, 0);
        s.ruleFault("lift 1--1", 7, 0);
    }

    private static void terms() {
        holds("2+3*4 = 14", true);
        holds("100/7/2 = 7", true);
        holds("100%7*3 = 6", true);
        holds("3*100%7 = 6", true);
        s.ruleFault("lift *1", 5, 0);
        s.ruleFault("lift 1*", 7, 0);
        s.ruleFault("lift 1/%1", 7, 0);
        s.ruleFault("lift 1*(2+3)", 7, 0);
    }

    private static void fiveDigits() {
        holds("99999 = 9*11111", true);
        holds("00001 = 1", true);
        s.ruleReads("lift 0");
        s.ruleReads("lift 99999");
        s.ruleFault("lift 100000", 5, 1);
        s.ruleFault("lift 000001", 5, 1);
        s.ruleFault("lift 1 if 1 = 123456", 14, 1);
        s.ruleFault("lift", 4, 0);
        s.ruleFault("lift 12345 6", 11, 0);
        s.reads("trug 00009 00000", 0);
        s.trugFault("trug 000009 0", 5, 1);
        s.trugFault("trug 9 000000", 7, 1);
        s.trugFault("trug 1 0;sorrow 000001 1 1", 16, 1);
        s.trugFault("trug 1 0;sorrow 1 000001 1", 18, 1);
        s.trugFault("trug 1 0;sorrow 1 1 000001", 20, 1);
        s.trugFault(TWO + ";under 000000 1", 41, 1);
        s.trugFault(TWO + ";under 0 000001", 43, 1);
        s.trugFault("trug 1 0;carrier 000001", 17, 1);
        s.trugFault("trug 1" + "0".repeat(394), 5, 1);
        s.due("digits go on into a word", ruledBy(ONE, "lift1if1=1").step(), 0);
    }

    private static void smallLetters() {
        s.ruleReads("lift time");
        s.ruleFault("lift times", 5, 0);
        s.ruleFault("lift tim", 5, 0);
        s.ruleFault("lift Time", 5, 0);
        s.ruleFault("lift tiMe", 5, 0);
        s.ruleFault("lift time1", 9, 0);
        s.ruleFault("lift timeif", 5, 0);
        s.ruleFault("lift time_", 9, 0);
        s.ruleFault("lift t", 5, 0);
        s.ruleFault("lifttime", 0, 0);
        s.ruleFault("LIFT 1", 0, 0);
        s.trugFault("trugs 1 0", 0, 0);
        s.trugFault("tru 1 0", 0, 0);
        s.trugFault("Trug 1 0", 0, 0);
        s.trugFault("truga 1 0", 0, 0);
        s.trugFault("trugz 1 0", 0, 0);
        s.trugFault("ztrug 1 0", 0, 0);
        // The bytes on both sides of the small letters are none.
        s.trugFault("trug`1 0", 4, 0);
        s.trugFault("trug{1 0", 4, 0);
        s.trugFault("trug 1 0;" + (char) ('t' + 128) + "rug", 9, 0);
    }

    private static void division() {
        holds("7/2 = 3", true);
        holds("7%2 = 1", true);
        holds("7/0 = 0", true);
        holds("7%0 = 0", true);
        holds("0/0 = 0", true);
        holds("0%7 = 0", true);
        holds("6/7 = 0", true);
        holds("7/7 = 1", true);
        holds("7%7 = 0", true);
        // In minute 16 left is -7.
        holdsAt(16, "left/2 = 0-3", true);
        holdsAt(16, "left%2 = 0-1", true);
        holdsAt(16, "left/0 = 0", true);
        holdsAt(16, "left%0 = 0", true);
        holdsAt(11, "7/left = 0-3", true);
        holdsAt(11, "7%left = 1", true);
        holdsAt(16, "left/left = 1", true);
        holdsAt(10, "left/left = 1", true);
        holdsAt(9, "7/left = 0", true);
        holdsAt(9, "7%left = 0", true);
    }

    private static void round() {
        // 2 to the 63rd is the first that is too large.
        String beyond = "32768*65536*65536*65536";
        holds(beyond + " < 0", true);
        holds(beyond + "-1 > 0", true);
        holds(beyond + "-1+1 < 0", true);
        holds(beyond + "*2 = 0", true);
        holds("65536*65536*65536*65536 = 0", true);
        s.due("a sum that went round is below 0", ruledBy(ONE, "lift " + beyond).step(), -2);
        s.due("one less is above 0", ruledBy(ONE, "lift " + beyond + "-1").step(), 0);
        // In minute 10 left is -1: the least by it is itself.
        holdsAt(10, beyond + "/left = " + beyond, true);
        holdsAt(10, beyond + "%left = 0", true);
        holdsAt(10, beyond + "*left < 0", true);
        holds("65536*32768-1 > 0", true);
        holds("65536*32768 > 0", true);
        holds("65536*65536 > 0", true);
    }

    private static void blanks() {
        s.reads("   trug   1   0   ;   sorrow   1   1   0   ", 1);
        s.reads("trug1 0;sorrow1 1 0", 1);
        s.ruleReads("  lift  1  +  2  if  not  [  1  <=  2  ]  ");
        s.ruleReads("lift1+2if not[1<=2]");
        s.trugFault("trug 10", 7, 0);
        s.trugFault("tr ug 1 0", 0, 0);
        for (int other : new int[] {0, 9, 10, 13, 31, 33, 160, 255}) {
            s.trugFault("trug" + (char) other + "1 0", 4, 0);
            s.ruleFault("lift" + (char) other + "1", 4, 0);
        }
    }

    private static void tenDeep() {
        String open = "lift 1 if " + "[".repeat(10);
        String close = "]".repeat(10);
        s.ruleReads(open + "1=1" + close);
        s.ruleFault(open + "[1=1]" + close, 20, 2);
        s.ruleFault(open + "not 1=1" + close, 20, 2);
        s.ruleReads("lift 1 if " + "not ".repeat(10) + "1=1");
        s.ruleFault("lift 1 if " + "not ".repeat(11) + "1=1", 50, 2);
        s.ruleFault("lift 1 if " + "not ".repeat(10) + "[1=1]", 50, 2);
        s.ruleReads("lift 1 if " + "[not ".repeat(5) + "1=1" + "]".repeat(5));
        // Side by side is not within one another.
        s.ruleReads(open + "1=1" + close + " and " + "not ".repeat(10) + "1=1 or " + "[".repeat(10) + "1=1" + close);
        s.ruleReads(open + "1=1] or [1=1" + close);
        s.ruleReads(open + "1=1" + close + ";" + open + "1=1" + close);
        s.ruleFault(open + "1=1] or [[1=1" + close, 29, 2);
        holds("[".repeat(10) + "1=1" + close, true);
        holds("[".repeat(10) + "1=2" + close, false);
        holds("not ".repeat(10) + "1=1", true);
        holds("not ".repeat(9) + "1=1", false);
    }

    private static void sixty() {
        String sixty = "lift 1" + "+1".repeat(59);
        s.ruleReads(sixty);
        s.ruleFault(sixty + "+1", sixty.length() + 1, 3);
        s.ruleFault(sixty + ";lift 1", sixty.length() + 6, 3);
        // A fact of a sign counts once more beside its two values; not and [ do not count.
        String more = "lift 1" + "+1".repeat(56) + " if ";
        s.ruleReads(more + "1=1");
        s.ruleReads(more + "not [not 1=1]");
        s.ruleFault(more + "1=1+1", more.length() + 4, 3);
        s.ruleFault(more + "1=1 and 1=1", more.length() + 8, 3);
        String facts = "lift 1 if 1=1" + " or 1=1".repeat(18) + ";lift 1";
        s.ruleReads(facts + "+1");
        s.ruleFault(facts + "+1+1", facts.length() + 3, 3);
        s.due("the sixtieth counts", ruledBy(ONE, "lift 1-1" + "+0".repeat(57) + "+1").step(), 0);
        BeanTrug x = new BeanTrug();
        s.due("60 in one rule", Trial.tellRule(x, sixty), 0);
        s.due("and 60 in another", Trial.tellRule(x, sixty), 1);
    }

    // ---- words ----

    /** In a trug of three sorrows, with some acts done: which a test lifts. */
    private static void lifts(BeanTrug x, String test, int sorrow) {
        force(x, "lift 1 if " + test);
        s.due(test, x.step(), sorrow);
        x.undo();
    }

    private static BeanTrug three() {
        return Trial.with("trug 20 2;sorrow 3 6 5;sorrow 4 9 8;sorrow 2 4 3;under 1 0;under 2 0");
    }

    private static void ownWords() {
        BeanTrug x = three();
        lifts(x, "sorrow = 0 and weight = 3 and time = 6 and deep = 5", 0);
        x.take(0);
        lifts(x, "sorrow = 2 and weight = 2 and time = 4 and deep = 3", 2);
        lifts(x, "sorrow = 0", -2);
        x.lighten(2, 20);
        lifts(x, "weight = 20", 2);
        BeanTrug y = three();
        lifts(y, "sorrow = 1", -2);
        lifts(y, "sorrow > 0", -2);
    }

    private static void over() {
        BeanTrug x = three();
        lifts(x, "over = 2", 0);
        x.lay(2, 0);
        lifts(x, "over = 1", 0);
        lifts(x, "over = 0", 2);
        x.take(2);
        lifts(x, "over = 1", 0);
        x.lay(1, 0);
        lifts(x, "over = 0", 0);
        lifts(Trial.with("trug 9 0;sorrow 1 1 1;sorrow 1 1 1;under 0 1"), "over = 1", 1);
        BeanTrug y = Trial.with("trug 9 0" + ";sorrow 1 1 1".repeat(8) + ";under1 0;under2 0;under3 0;under4 0;under5 0"
                + ";under6 0;under7 0");
        lifts(y, "over = 7", 0);
    }

    private static void many() {
        BeanTrug x = three();
        lifts(x, "many = 3", 0);
        x.take(0);
        lifts(x, "many = 2", 1);
        x.take(1);
        lifts(x, "many = 1", 2);
        lifts(Trial.with("trug 9 0" + ";sorrow 1 1 1".repeat(8)), "many = 8", 0);
    }

    private static void loose() {
        BeanTrug x = three();
        lifts(x, "loose = 1", 0);
        x.take(0);
        lifts(x, "loose = 2", 1);
        lifts(Trial.with("trug 9 0" + ";sorrow 1 1 1".repeat(8)), "loose = 8", 0);
    }

    private static void left() {
        holdsAt(0, "left = 9", true);
        holdsAt(8, "left = 1", true);
        holdsAt(9, "left = 0", true);
        holdsAt(10, "left = 0-1", true);
        BeanTrug x = Trial.with("trug 1 0;sorrow 1 1 1");
        for (int i = 0; i < 166; i++) {
            x.await(60);
        }
        x.await(39);
        lifts(x, "left = 0-9998", 0);
        BeanTrug y = ruledBy(ONE, "lift 1 if left = 0-1");
        s.due("not yet in STEP 9", y.ahead(10, 3), 1);
        s.due("in STEP 10", y.ahead(11, 3), 0);
    }

    private static void load() {
        BeanTrug x = three();
        lifts(x, "load = 11", 0);
        x.take(0);
        lifts(x, "load = 8", 1);
        x.lighten(1, 20);
        lifts(x, "load = 24", 1);
        x.take(1);
        lifts(x, "load = 4", 2);
        lifts(Trial.with("trug 9 0;sorrow 1 1 1"), "load = 1", 0);
        lifts(Trial.with("trug 9 20" + ";sorrow 20 1 1".repeat(8)), "load = 180", 0);
    }

    private static void rest() {
        BeanTrug x = three();
        lifts(x, "rest = 0", 0);
        x.take(0);
        lifts(x, "rest = 5", 1);
        x.await(11);
        x.take(1);
        // Minute 26: it is late, so that it does not count.
        lifts(x, "rest = 5", 2);
        BeanTrug y = three();
        y.take(0);
        y.take(1);
        lifts(y, "rest = 13", 2);
    }

    private static void minuteAndStep() {
        BeanTrug x = three();
        lifts(x, "minute = 0 and step = 0", 0);
        x.await(60);
        lifts(x, "minute = 60 and step = 0", 0);
        x.force(-1);
        x.step();
        lifts(x, "minute = 66 and step = 1", 1);
        BeanTrug y = three();
        y.take(0);
        lifts(y, "minute = 6 and step = 0", 1);
        BeanTrug later = ruledBy(ONE, "lift 1 if minute = 4");
        s.due("not yet in minute 3", later.ahead(4, 3), 1);
        s.due("in minute 4", later.ahead(5, 3), 0);
        force(later, "lift 1 if step = 4");
        s.due("not yet in STEP 3", later.ahead(4, 3), 1);
        s.due("in STEP 4", later.ahead(5, 3), 0);
    }

    // ---- faults ----

    private static void theFirstFault() {
        s.trugFault("trug 0 21", 5, 1);
        s.trugFault("trug 1 21;x", 7, 1);
        s.trugFault("trug x 301;trug 1 0", 5, 0);
        s.trugFault("trug 1 0;trug 301 0", 9, 4);
        s.trugFault("trug 1 0;sorrow 0 0 31", 16, 1);
        s.ruleFault("lift x + 123456", 5, 0);
        s.ruleFault("lift 123456 + x", 5, 1);
        s.ruleFault("lift 1 if " + "[".repeat(11) + "x", 20, 2);
        s.ruleFault("lift 1 if " + "[".repeat(9) + "x" + "[".repeat(3), 19, 0);
        s.ruleFault("lift 1" + "+1".repeat(60) + "+123456", 125, 3);
    }

    private static void placeAndKind() {
        BeanTrug x = new BeanTrug();
        s.due("place 0, kind 0", Trial.tellTrug(x, "x"), -3);
        s.due("place 0, kind 4", Trial.tellTrug(x, "carrier 1"), -7);
        s.due("place 5, kind 1", Trial.tellTrug(x, "trug 0"), -44);
        s.due("place 5, kind 0", Trial.tellRule(x, "lift x"), -43);
        s.due("place 5, kind 1", Trial.tellRule(x, "lift 123456"), -44);
        s.due("place 20, kind 2", Trial.tellRule(x, "lift 1 if " + "[".repeat(11)), -165);
        s.due("place 125, kind 3", Trial.tellRule(x, "lift 1" + "+1".repeat(60)), -1006);
        s.due("place 400, kind 0", Trial.tellRule(x, "lift 1+" + " ".repeat(393)), -3203);
    }

    private static void cannotStand() {
        for (int b = 0; b < 256; b++) {
            String text = "trug 1 1" + (char) b;
            if (b == ' ' || b >= '0' && b <= '9') {
                s.reads(text, 0);
            } else {
                s.trugFault(text, b == ';' ? 9 : 8, 0);
            }
        }
        s.trugFault("trug 1 0 1", 9, 0);
        s.trugFault("trug 1 0 sorrow 1 1 0", 9, 0);
        s.trugFault("trug 1 0;lift 1", 9, 0);
        s.trugFault("trug 1 0;sorrow time 1 0", 16, 0);
        s.trugFault("trug 1;0", 6, 0);
        s.ruleFault("trug 1 0", 0, 0);
        s.ruleFault("lift 1 1", 7, 0);
        s.ruleFault("lift 1 lift 1", 7, 0);
        for (String word : new String[] {"trug", "under", "carrier", "lift", "if", "or", "and", "not"}) {
            s.ruleFault("lift " + word, 5, 0);
            s.ruleFault("lift 1 " + word + (word.equals("if") ? "" : " 1"), word.equals("if") ? 9 : 7, 0);
        }
        s.ruleFault("lift 1 if under = 1", 10, 0);
        s.ruleFault("lift 1;;lift 1", 7, 0);
    }

    private static void theEnd() {
        s.trugFault("", 0, 0);
        s.trugFault(" ", 1, 0);
        s.trugFault("trug", 4, 0);
        s.trugFault("trug 1", 6, 0);
        s.trugFault("trug 1  ", 8, 0);
        s.trugFault("trug 1 0;", 9, 0);
        s.trugFault("trug 1 0;  ", 11, 0);
        s.trugFault(" ".repeat(400), 400, 0);
        s.trugFault("trug 1" + " ".repeat(394), 400, 0);
        s.ruleFault("", 0, 0);
        s.ruleFault("lift", 4, 0);
        s.ruleFault("lift 1;", 7, 0);
        s.ruleFault("lift 1 if [1=1 ", 15, 0);
        s.ruleFault("lift 1" + " ".repeat(393) + "+", 400, 0);
    }

    private static void numbersNotAsTold() {
        s.trugFault("trug  301 0", 6, 1);
        s.trugFault("trug 99999 0", 5, 1);
        s.trugFault("trug 100000 0", 5, 1);
        s.trugFault("trug 4294967297 0", 5, 1);
        s.trugFault("trug 1 0;sorrow 1 1  31", 21, 1);
        s.trugFault("trug 1 0;carrier 61", 17, 1);
        s.trugFault(TWO + ";under 0 2", 43, 1);
        s.trugFault(TWO + ";under 00002 0", 41, 1);
        s.ruleFault("lift  123456", 6, 1);
        s.ruleFault("lift 1 + 4294967297", 9, 1);
    }

    private static void underItself() {
        s.trugFault(TWO + ";under 0 0", 43, 1);
        s.trugFault(TWO + ";under 1 1", 43, 1);
        s.trugFault(TWO + ";under 1  00001", 44, 1);
        s.trugFault("trug 1 0;sorrow 1 1 0;under 0 0", 30, 1);
        // The first one is not as told itself.
        s.trugFault(TWO + ";under 2 2", 41, 1);
        s.reads(TWO + ";under 0 1;under 1 0", 2);
    }

    private static void tooDeep() {
        String ten = "lift 1 if " + "[".repeat(10);
        s.ruleFault(ten + "[", 20, 2);
        s.ruleFault(ten + "  [", 22, 2);
        s.ruleFault(ten + "not", 20, 2);
        s.ruleFault(ten + "  not 1=1", 22, 2);
        s.ruleFault(ten + "1=1 or not 1=1", 27, 2);
        s.ruleFault(ten + "1=1 and [1=1", 28, 2);
        s.ruleFault(ten + "nots", 20, 0);
        s.ruleFault(ten + "]", 20, 0);
    }

    private static void valueTooMany() {
        String sixty = "lift 1" + "+1".repeat(59);
        s.ruleFault(sixty + "+  time", sixty.length() + 3, 3);
        s.ruleFault(sixty + "+  12345", sixty.length() + 3, 3);
        s.ruleFault(sixty + " if  1=1", sixty.length() + 5, 3);
        String less = "lift 1" + "+1".repeat(58);
        s.ruleFault(less + " if 1  <= 1", less.length() + 7, 3);
        s.ruleFault(less + " if 1  = 1", less.length() + 7, 3);
        s.ruleFault(less + " if 1 + 1 = 1", less.length() + 8, 3);
        String lesser = "lift 1" + "+1".repeat(57);
        s.ruleFault(lesser + " if 1 =  1", lesser.length() + 9, 3);
        s.ruleReads("lift 1" + "+1".repeat(56) + " if 1 = 1");
    }

    private static void clauseTooMany() {
        String forty = TWO + ";under0 1".repeat(37);
        s.trugFault(forty + ";  under0 1", forty.length() + 3, 4);
        s.trugFault(forty + ";sorrow", forty.length() + 1, 4);
        s.trugFault(forty + ";carrier", forty.length() + 1, 4);
        String twelve = "lift 1" + ";lift 1".repeat(11);
        s.ruleReads(twelve);
        s.ruleFault(twelve + ";  lift 1", twelve.length() + 3, 4);
        s.ruleFault(twelve + ";lift", twelve.length() + 1, 4);
    }

    private static void secondTrug() {
        s.trugFault("trug 1 0;trug", 9, 4);
        s.trugFault("trug 1 0;  trug 1 0", 11, 4);
        s.trugFault(TWO + ";trug 1 0", 35, 4);
    }

    private static void anotherAhead() {
        s.trugFault("sorrow 1 1 0", 0, 4);
        s.trugFault("  sorrow", 2, 4);
        s.trugFault("under 0 1;trug 1 0", 0, 4);
        s.trugFault("carrier 1;trug 1 0", 0, 4);
    }

    private static void ninthSorrow() {
        String eight = "trug 1 0" + ";sorrow 1 1 0".repeat(8);
        s.reads(eight, 8);
        s.trugFault(eight + ";  sorrow 1 1 0", eight.length() + 3, 4);
        s.trugFault(eight + ";sorrow", eight.length() + 1, 4);
        s.reads(eight + ";carrier 1;under 7 0", 8);
    }

    private static void fifthCarrier() {
        String four = "trug 1 0" + ";carrier 1".repeat(4);
        s.reads(four, 0);
        s.trugFault(four + ";  carrier 1", four.length() + 3, 4);
        s.trugFault(four + ";carrier", four.length() + 1, 4);
        s.reads(four + ";sorrow 1 1 0", 1);
    }

    private static void theLeastOfOnePlace() {
        String forty = TWO + ";under0 1".repeat(37);
        s.trugFault(forty + ";x", forty.length() + 1, 0);
        s.trugFault(forty + ";lift", forty.length() + 1, 0);
        s.trugFault("lift 1;trug 1 0", 0, 0);
        s.ruleFault("lift 1" + ";lift 1".repeat(11) + ";x", 84, 0);
        String sixty = "lift 1" + "+1".repeat(59);
        s.ruleFault(sixty + "+x", sixty.length() + 1, 0);
        s.ruleFault(sixty + "+", sixty.length() + 1, 0);
        s.ruleFault(sixty + "+123456", sixty.length() + 1, 1);
        s.ruleFault("lift 1" + "+1".repeat(58) + " if 1 ! 1", 128, 0);
    }
}
