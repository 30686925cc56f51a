/** Each promise by answers worked out by hand: ordinary inputs, edges, wrong inputs. */
public final class PromiseTest {
    private static final String BASE =
            "trug 20 2;sorrow 3 6 5;sorrow 4 9 8;sorrow 2 4 3;under 1 0;carrier 6;carrier 4";
    private static final int BIG = Integer.MAX_VALUE;
    private static final int LOW = Integer.MIN_VALUE;
    private static Trial t;

    public static void main(String[] args) {
        t = new Trial("PromiseTest");
        newObject();
        feedAndEnd();
        trug();
        rule();
        force();
        sorrowAndCarrier();
        step();
        take();
        await();
        lay();
        lighten();
        undo();
        ahead();
        when();
        dusk();
        order();
        chain();
        ringsAndTaken();
        slack();
        carry();
        pole();
        light();
        took();
        game();
        pence();
        note();
        ruled();
        look();
        seedAndYears();
        imageAndBack();
        t.close();
    }

    private static void newObject() {
        BeanTrug x = new BeanTrug();
        for (int i = 0; i <= 15; i++) {
            t.due("1: count(" + i + ")", x.count(i), i == 5 ? -1 : 0);
        }
        t.due("34: count(16)", x.count(16), -1);
        t.due("34: count(-1)", x.count(-1), -1);
        t.due("34: count(LOW)", x.count(LOW), -1);
        t.due("7: no trug", x.sorrow(0, 0), -2);
        t.due("8: no trug", x.carrier(0), -1);
        t.due("9: no trug", x.step(), -1);
        t.due("10: no trug", x.take(0), -1);
        t.due("11: no trug", x.await(1), -1);
        t.due("12: no trug", x.lay(0, 1), -1);
        t.due("13: no trug", x.lighten(0, 1), -1);
        t.due("14: no trug", x.undo(), -1);
        t.due("15: no trug", x.ahead(0, 0), -1);
        t.due("16: no trug", x.when(0, 0), -1);
        t.due("17: no trug", x.dusk(0), -1);
        t.due("18: no trug", x.order(-1), -3);
        t.due("19: no trug", x.chain(0), -1);
        t.due("20: no trug", x.rings(), -1);
        t.due("21: no trug", x.taken(0), -1);
        t.due("22: no trug", x.slack(0), -1);
        t.due("23: no trug", x.carry(-1), -3);
        t.due("24: no trug", x.pole(0), -1);
        t.due("25: no trug", x.light(0), -1);
        t.due("26: no trug", x.took(0, 0), -1);
        t.due("27: no trug", x.game(0), -1000);
        t.due("28: no trug", x.pence(1, 0), -1);
        t.due("29: no trug", x.note(0, -1), -2);
        t.due("29: no trug, n NONE", x.note(-1, 0), 0);
        t.due("29: no trug, n NONE, no sorrow", x.note(-1, -9), 0);
        t.due("30: no trug", x.ruled(0), -3);
        t.due("31: no trug", x.look(0), -1);
        t.due("33: no trug", x.years(1, 0), -1);
        t.due("the constant", BeanTrug.NONE, -1);
    }

    private static void feedAndEnd() {
        BeanTrug x = new BeanTrug();
        for (int i = 1; i <= 20; i++) {
            t.due("2: feed " + i, x.feed(0, 0, 0, 0, 0), 20 * i);
        }
        t.due("2: beyond 400", x.feed(0, 0, 0, 0, 0), -1);
        t.due("15 bytes", x.count(15), 400);
        t.due("3: end(401)", x.end(401), -1);
        t.due("3: end(-1)", x.end(-1), -1);
        t.due("3: end(400)", x.end(400), 400);
        t.due("3: end(381)", x.end(381), 381);
        t.due("2: 381 and 20", x.feed(0, 0, 0, 0, 0), -1);
        t.due("2: none came", x.count(15), 381);
        t.due("3: end(382)", x.end(382), -1);
        t.due("3: end(380)", x.end(380), 380);
        t.due("2: 380 and 20", x.feed(0, 0, 0, 0, 0), 400);
        t.due("3: end(0)", x.end(0), 0);
        // "trug" " 7 3" by bytes, the highest first
        t.due("2: bytes", x.feed(0x74727567, 0x20372033, -1, 0x80808080, 5), 20);
        t.due("3: cut", x.end(8), 8);
        t.due("4: read", x.trug(), 0);
        t.due("34: dusk", x.count(0), 7);
        t.due("34: earth", x.count(1), 3);
    }

    private static void trug() {
        BeanTrug x = new BeanTrug();
        t.due("4: base", Trial.tellTrug(x, BASE), 3);
        t.due("4: tape is empty", x.count(15), 0);
        t.due("34: dusk", x.count(0), 20);
        t.due("34: earth", x.count(1), 2);
        t.due("34: sorrows", x.count(2), 3);
        t.due("34: carriers", x.count(3), 2);
        t.due("34: in", x.count(8), 7);
        t.due("34: loose", x.count(9), 5);
        t.due("34: let be", x.count(10), 0);
        t.due("34: load", x.count(11), 11);
        Trial.tellRule(x, "lift 1");
        x.force(0);
        x.seed(77);
        x.note(0, 0);
        x.step();
        t.due("4: a fault", Trial.tellTrug(x, "trug 5 5;"), Trial.fault(9, 0));
        t.due("4: the tape is empty with a fault too", x.count(15), 0);
        t.due("4: nothing is left to be read", x.trug(), Trial.fault(0, 0));
        t.due("4: all stays: trug", x.count(0), 20);
        t.due("4: all stays: minute", x.count(6), 6);
        t.due("4: all stays: notes", x.count(12), 1);
        t.due("4: all stays: acts", x.count(13), 1);
        t.due("4: another", Trial.tellTrug(x, "trug 9 0;sorrow 1 1 1"), 1);
        t.due("4: minute 0", x.count(6), 0);
        t.due("4: step 0", x.count(7), 0);
        t.due("4: no notes", x.count(12), 0);
        t.due("4: nothing to be undone", x.count(13), 0);
        t.due("4: undo", x.undo(), -1);
        t.due("4: the rule in force stays", x.count(5), 0);
        t.due("4: x stays", x.count(14), 77);
        t.due("4: rules stay", x.count(4), 1);
        t.due("4: carriers are gone", x.carrier(0), -1);
        t.due("4: sorrows are gone", x.sorrow(1, 0), -2);
    }

    private static void rule() {
        BeanTrug x = new BeanTrug();
        t.due("5: the first", Trial.tellRule(x, "lift 9 - time"), 0);
        t.due("5: tape is empty", x.count(15), 0);
        t.due("5: a fault", Trial.tellRule(x, "lift"), Trial.fault(4, 0));
        t.due("5: none came", x.count(4), 1);
        t.due("5: the tape is empty with a fault too", x.count(15), 0);
        t.due("5: nothing is left to be read", x.rule(), Trial.fault(0, 0));
        for (int i = 1; i < 6; i++) {
            t.due("5: rule " + i, Trial.tellRule(x, "lift " + i), i);
        }
        t.due("5: there are 6", Trial.tellRule(x, "lift 1"), -1);
        t.due("5: nothing happens", x.count(15), 6);
        t.due("5: there are 6, and a fault", Trial.tellRule(x, "lift"), -1);
        t.due("5: nothing happens, with a fault too", x.count(15), 4);
        t.due("34: rules", x.count(4), 6);
    }

    private static void force() {
        BeanTrug x = new BeanTrug();
        t.due("6: none such", x.force(0), -2);
        t.due("6: none", x.force(-1), -1);
        Trial.tellRule(x, "lift 1");
        Trial.tellRule(x, "lift deep");
        t.due("6: none such", x.force(2), -2);
        t.due("6: below NONE", x.force(-2), -2);
        t.due("6: first", x.force(1), -1);
        t.due("6: which was", x.force(0), 1);
        t.due("34: in force", x.count(5), 0);
        t.due("6: none again", x.force(-1), 0);
        t.due("34: none in force", x.count(5), -1);
    }

    private static void sorrowAndCarrier() {
        BeanTrug x = Trial.with(BASE);
        t.due("7: weight", x.sorrow(1, 0), 4);
        t.due("7: time", x.sorrow(1, 1), 9);
        t.due("7: deep", x.sorrow(1, 2), 8);
        t.due("7: in", x.sorrow(1, 3), 0);
        t.due("7: not lifted", x.sorrow(1, 4), -1);
        t.due("7: under", x.sorrow(1, 5), 1);
        t.due("7: under none", x.sorrow(0, 5), 0);
        t.due("7: what 6", x.sorrow(0, 6), -2);
        t.due("7: what -1", x.sorrow(0, -1), -2);
        t.due("7: sorrow 3", x.sorrow(3, 0), -2);
        t.due("7: sorrow -1", x.sorrow(-1, 0), -2);
        x.take(0);
        t.due("7: let be", x.sorrow(0, 3), 1);
        t.due("7: the minute behind it", x.sorrow(0, 4), 6);
        t.due("7: under, in or not", x.sorrow(1, 5), 1);
        x.await(14);
        x.take(2);
        t.due("7: late", x.sorrow(2, 3), 2);
        t.due("7: late, the minute", x.sorrow(2, 4), 24);
        t.due("8: first", x.carrier(0), 6);
        t.due("8: second", x.carrier(1), 4);
        t.due("8: third", x.carrier(2), -1);
        t.due("8: below", x.carrier(-1), -1);
        t.due("8: high", x.carrier(BIG), -1);
    }

    private static void step() {
        BeanTrug x = Trial.with(BASE);
        t.due("9: the least without a rule", x.step(), 0);
        t.due("9: minute", x.count(6), 6);
        t.due("9: step", x.count(7), 1);
        t.due("9: next", x.step(), 1);
        t.due("9: next", x.step(), 2);
        t.due("9: minute 19", x.count(6), 19);
        t.due("9: all let be", x.count(10), 16);
        t.due("9: none is in", x.step(), -2);
        t.due("9: a minute goes by", x.count(6), 20);
        t.due("9: step goes on", x.count(7), 4);

        x = Trial.with("trug 10 0;sorrow 1 10 1;sorrow 1 1 1");
        x.step();
        t.due("9: at dusk it is let be", x.sorrow(0, 3), 1);
        x.step();
        t.due("9: beyond it is late", x.sorrow(1, 3), 2);

        x = Trial.with(BASE);
        Trial.tellRule(x, "lift deep if time < 5; lift 9 - time");
        x.force(0);
        t.due("9: equal, the least", x.step(), 0);
        t.due("9: by the rule", x.step(), 2);
        t.due("9: not above 0", x.step(), -2);
        t.due("9: a minute", x.count(6), 11);
        x.force(-1);
        t.due("9: without", x.step(), 1);

        x = Trial.with("trug 300 0;sorrow 1 1 1;sorrow 1 1 1;under 0 1;under 1 0");
        t.due("9: none loose", x.step(), -2);
        t.due("9: none loose, a minute", x.count(6), 1);
    }

    private static void take() {
        BeanTrug x = Trial.with(BASE);
        t.due("10: not loose", x.take(1), -1);
        t.due("10: none such", x.take(3), -1);
        t.due("10: below", x.take(-1), -1);
        t.due("10: far", x.take(32), -1);
        t.due("10: loose", x.take(2), 4);
        t.due("10: step stays", x.count(7), 0);
        t.due("10: no more in", x.take(2), -1);
        t.due("10: 0", x.take(0), 10);
        t.due("10: 1 is loose then", x.take(1), 19);
        t.due("10: acts", x.count(13), 3);
    }

    private static void await() {
        BeanTrug x = Trial.with(BASE);
        t.due("11: 0", x.await(0), -1);
        t.due("11: 61", x.await(61), -1);
        t.due("11: below", x.await(LOW), -1);
        t.due("11: 1", x.await(1), 1);
        for (int i = 1; i <= 166; i++) {
            t.due("11: 60", x.await(60), 1 + 60 * i);
        }
        t.due("11: 9961 and 39", x.await(39), -1);
        t.due("11: nothing happens", x.count(6), 9961);
        t.due("11: 9961 and 38", x.await(38), 9999);
        t.due("11: full", x.await(1), -1);
        t.due("II: at most 9999", x.take(0), 9999);
        t.due("II: late", x.sorrow(0, 3), 2);
        Trial.tellRule(x, "lift 0");
        x.force(0);
        t.due("II: none", x.step(), -2);
        t.due("II: at most 9999", x.count(6), 9999);
    }

    private static void lay() {
        BeanTrug x = Trial.with(BASE);
        t.due("12: no more", x.lay(1, 0), 0);
        t.due("12: loose then", x.count(9), 7);
        t.due("12: again", x.lay(1, 0), 1);
        t.due("12: another", x.lay(1, 2), 1);
        t.due("12: both", x.sorrow(1, 5), 5);
        t.due("12: alike", x.lay(1, 1), -1);
        t.due("12: none such", x.lay(1, 3), -1);
        t.due("12: none such", x.lay(3, 1), -1);
        t.due("12: below", x.lay(-1, 1), -1);
        t.due("12: below", x.lay(1, -1), -1);
        t.due("12: a ring", x.lay(0, 1), 1);
        t.due("12: loose", x.count(9), 4);
        x.take(2);
        t.due("12: not in", x.lay(2, 1), -1);
        t.due("12: not in", x.lay(1, 2), -1);
    }

    private static void lighten() {
        BeanTrug x = Trial.with(BASE);
        t.due("13: same", x.lighten(0, 3), -1);
        t.due("13: 0", x.lighten(0, 0), -1);
        t.due("13: 21", x.lighten(0, 21), -1);
        t.due("13: none such", x.lighten(3, 1), -1);
        t.due("13: below", x.lighten(-1, 1), -1);
        t.due("13: 20", x.lighten(0, 20), 3);
        t.due("13: load", x.count(11), 28);
        t.due("13: 1", x.lighten(0, 1), 20);
        t.due("13: weight", x.sorrow(0, 0), 1);
        x.take(0);
        t.due("13: not in", x.lighten(0, 5), -1);
    }

    private static void undo() {
        BeanTrug x = Trial.with(BASE);
        t.due("14: none", x.undo(), -1);
        x.step();
        x.take(2);
        x.await(7);
        x.lay(1, 0);
        x.await(1);
        t.due("12: 0 is not in, so no act", x.count(13), 4);
        t.due("14: wait", x.undo(), 3);
        t.due("14: wait", x.undo(), 2);
        t.due("14: minute", x.count(6), 10);
        t.due("14: take", x.undo(), 1);
        t.due("14: in again", x.sorrow(2, 3), 0);
        t.due("14: not lifted", x.sorrow(2, 4), -1);
        t.due("14: step", x.undo(), 0);
        t.due("14: step 0", x.count(7), 0);
        t.due("14: none", x.undo(), -1);
        x.lay(2, 1);
        x.lighten(2, 9);
        t.due("14: lighten", x.undo(), 1);
        t.due("14: weight", x.sorrow(2, 0), 2);
        t.due("14: lay", x.undo(), 0);
        t.due("14: under", x.sorrow(2, 5), 0);
        for (int i = 0; i < 23; i++) {
            x.await(1);
        }
        t.due("14: the last 20", x.count(13), 20);
        Trial.tellRule(x, "lift 1");
        x.force(0);
        x.seed(5);
        x.note(0, 0);
        for (int i = 19; i >= 0; i--) {
            t.due("14: undo", x.undo(), i);
        }
        t.due("14: no more", x.undo(), -1);
        t.due("14: minute 3", x.count(6), 3);
        t.due("14: force is no act", x.count(5), 0);
        t.due("14: seed is no act", x.count(14), 5);
        t.due("14: note is no act", x.count(12), 1);
    }

    private static void ahead() {
        BeanTrug x = Trial.with(BASE);
        t.due("15: minute", x.ahead(0, 0), 0);
        t.due("15: deep", x.ahead(0, 1), 0);
        t.due("15: weight", x.ahead(0, 2), 11);
        t.due("15: many", x.ahead(0, 3), 3);
        t.due("15: minute", x.ahead(2, 0), 15);
        t.due("15: deep", x.ahead(2, 1), 13);
        t.due("15: weight", x.ahead(2, 2), 4);
        t.due("15: many", x.ahead(2, 3), 1);
        t.due("15: minute", x.ahead(100, 0), 19 + 97);
        t.due("15: 101", x.ahead(101, 0), -1);
        t.due("15: -1", x.ahead(-1, 0), -1);
        t.due("15: what 4", x.ahead(1, 4), -1);
        t.due("15: what -1", x.ahead(1, -1), -1);
        t.due("III: nothing changes", x.count(6), 0);
        x.take(0);
        t.due("15: deep with what was", x.ahead(1, 1), 13);
    }

    private static void when() {
        BeanTrug x = Trial.with(BASE);
        t.due("16: this one the first, STEP 0", x.when(0, 0), 0);
        t.due("16: minute", x.when(0, 1), 6);
        t.due("16: third, STEP 2", x.when(2, 0), 2);
        t.due("16: minute", x.when(2, 1), 19);
        t.due("16: what 2", x.when(2, 2), -1);
        t.due("16: what -1", x.when(2, -1), -1);
        t.due("16: none such", x.when(3, 0), -1);
        x.step();
        t.due("16: not in", x.when(0, 0), -1);
        t.due("16: it is STEP 1", x.when(1, 0), 1);
        t.due("16: the same STEP as ahead of it", x.when(2, 0), 2);
        Trial.tellRule(x, "lift 1 if minute = 105");
        Trial.tellRule(x, "lift 1 if minute = 106");
        x.force(0);
        t.due("16: in the 100th from STEP 1 on", x.when(1, 0), 100);
        t.due("16: in the 100th, the minute", x.when(1, 1), 114);
        x.force(1);
        t.due("16: in none", x.when(1, 0), -2);
        t.due("16: in none, the minute", x.when(1, 1), -2);
        whenIsTheStep();
    }

    // What WHEN answers is the number that a RULE, a NOTE and count(7) tell the same STEP by.
    private static void whenIsTheStep() {
        BeanTrug x = Trial.with(BASE);
        Trial.tellRule(x, "lift 1 if step = 4 and sorrow = 2; lift 1 if step = 6");
        x.force(0);
        t.due("16: as the RULE says", x.when(2, 0), 4);
        t.due("16: as the RULE says", x.when(0, 0), 6);
        t.due("16: never", x.when(1, 0), -2);
        x.note(4, 2);
        x.note(6, 0);
        t.due("16: as NOTES say", x.ruled(1), 0);
        x.take(1);
        x.await(3);
        t.due("16: acts that are no STEP do not count", x.when(2, 0), 4);
        for (int i = 0; i < 4; i++) {
            t.due("16: none yet", x.step(), -2);
        }
        t.due("16: this STEP", x.when(2, 0), x.count(7));
        t.due("16: lifted in it", x.step(), 2);
        t.due("16: in two STEPS", x.when(0, 0), 6);
        x.undo();
        t.due("16: this STEP again", x.when(2, 0), 4);
    }

    private static void dusk() {
        BeanTrug x = Trial.with(BASE);
        t.due("17: how many", x.dusk(0), 3);
        t.due("17: how deep", x.dusk(1), 16);
        t.due("17: the last", x.dusk(2), 2);
        t.due("17: others", x.dusk(3), -1);
        t.due("17: others", x.dusk(-1), -1);
        x.await(2);
        t.due("17: one late", x.dusk(0), 2);
        t.due("17: one late", x.dusk(1), 13);
        t.due("17: one late", x.dusk(2), 1);
        x.step();
        t.due("17: of the next alone", x.dusk(0), 1);
        t.due("17: of the next alone", x.dusk(1), 8);
        x.await(60);
        t.due("17: none", x.dusk(0), 0);
        t.due("17: none", x.dusk(1), 0);
        t.due("17: none", x.dusk(2), -2);
        x = Trial.with("trug 300 0;sorrow 1 1 4");
        Trial.tellRule(x, "lift 1 if step = 99");
        Trial.tellRule(x, "lift 1 if step = 100");
        x.force(0);
        t.due("17: the 100th step", x.dusk(1), 4);
        x.force(1);
        t.due("17: beyond the 100th step", x.dusk(1), 0);
    }

    private static void order() {
        BeanTrug x = Trial.with(BASE);
        t.due("18: deep", x.order(-1), 16);
        t.due("18: time", x.order(-2), 19);
        t.due("18: place 0", x.order(0), 0);
        t.due("18: place 1", x.order(1), 1);
        t.due("18: place 2", x.order(2), 2);
        t.due("18: place 3", x.order(3), -2);
        t.due("18: place 7", x.order(7), -2);
        t.due("18: 8", x.order(8), -3);
        t.due("18: -3", x.order(-3), -3);
        x.await(4);
        // 16 minutes are left: 0 and 1 take 15 (13 deep), 0 and 2 take 10 (8), 1 needs 0.
        t.due("18: deep", x.order(-1), 13);
        t.due("18: time", x.order(-2), 15);
        t.due("18: place 2", x.order(2), -2);
        x.await(12);
        t.due("18: only 2", x.order(-1), 3);
        t.due("18: only 2", x.order(0), 2);
        x.await(1);
        t.due("18: none", x.order(-1), 0);
        t.due("18: none", x.order(-2), 0);
        t.due("18: none", x.order(0), -2);

        x = Trial.with("trug 10 0;sorrow 1 6 5;sorrow 1 4 5;sorrow 1 4 5;sorrow 1 1 0;sorrow 1 4 5");
        t.due("18: least time", x.order(-1), 10);
        t.due("18: least time", x.order(-2), 8);
        t.due("18: the first", x.order(0), 1);
        t.due("18: the first", x.order(1), 2);
        t.due("18: nothing for nought", x.order(2), -2);
        x = Trial.with("trug 10 0;sorrow 1 1 9;sorrow 1 1 0;under 0 1");
        t.due("18: what lies over it first", x.order(0), 1);
        t.due("18: what lies over it first", x.order(1), 0);
    }

    private static void chain() {
        BeanTrug x = Trial.with(BASE);
        t.due("19: time", x.chain(0), 15);
        t.due("19: first", x.chain(1), 0);
        t.due("19: others", x.chain(2), -1);
        t.due("19: others", x.chain(-1), -1);
        x.lay(2, 1);
        t.due("19: time", x.chain(0), 19);
        t.due("19: first", x.chain(1), 0);
        x.lay(0, 2);
        t.due("19: in a ring none twice", x.chain(0), 19);
        t.due("19: in a ring the least", x.chain(1), 0);
        x.lay(1, 0);
        t.due("19: 1, 2 under it, 0 under that", x.chain(1), 1);
        x = Trial.with("trug 9 9");
        t.due("19: none is in", x.chain(0), 0);
        t.due("19: none is in", x.chain(1), -2);
    }

    private static void ringsAndTaken() {
        BeanTrug x = Trial.with("trug 9 0;sorrow 1 1 1;sorrow 1 1 1;sorrow 1 1 1;sorrow 1 1 1;sorrow 1 1 1"
                + ";under 0 1;under 1 0;under 1 2;under 2 1;under 3 2;under 4 3");
        t.due("20: rings", x.rings(), 7);
        t.due("21: how many", x.taken(0), 1);
        t.due("21: the set", x.taken(1), 2);
        t.due("21: others", x.taken(2), -1);
        t.due("21: others", x.taken(-1), -1);
        x.lay(4, 0);
        t.due("20: not from without", x.rings(), 7);
        x.lay(0, 3);
        t.due("20: a long ring", x.rings(), 15);
        x.lay(3, 0);
        t.due("20: rings", x.rings(), 15);
        t.due("21: how many", x.taken(0), 2);
        t.due("21: the least set", x.taken(1), 3);
        x = Trial.with(BASE);
        t.due("20: none", x.rings(), 0);
        t.due("21: none", x.taken(0), 0);
        t.due("21: none", x.taken(1), 0);
        x.lay(0, 1);
        t.due("20: two", x.rings(), 3);
        t.due("21: the least", x.taken(1), 1);
    }

    private static void slack() {
        BeanTrug x = Trial.with(BASE);
        t.due("22: of 0", x.slack(0), 14);
        t.due("22: of 1", x.slack(1), 5);
        t.due("22: of 2", x.slack(2), 1);
        t.due("22: none such", x.slack(3), -1);
        t.due("22: below", x.slack(-1), -1);
        x.await(1);
        t.due("22: just 0", x.slack(2), 0);
        x.await(1);
        t.due("22: not even 0", x.slack(2), -2);
        x.take(0);
        t.due("22: not in", x.slack(0), -1);
        x = Trial.with("trug 300 0;sorrow 1 1 1;sorrow 1 40 1");
        Trial.tellRule(x, "lift 1 if minute % 50 = 0 and sorrow = 1; lift 1 if minute = 290");
        x.force(0);
        t.due("22: not by each wait", x.slack(1), 250);
        t.due("22: by the last steps", x.slack(0), 290);
        x = Trial.with("trug 300 0;sorrow 1 1 1");
        Trial.tellRule(x, "lift 1 if step = 99");
        Trial.tellRule(x, "lift 1 if step = 100");
        x.force(0);
        t.due("22: the 100th step", x.slack(0), 200);
        x.force(1);
        t.due("22: beyond the 100th step", x.slack(0), -2);
    }

    private static void carry() {
        BeanTrug x = Trial.with(BASE);
        // 4 and 2 by the first, 3 by the second; or 3 and 2 by the first, 4 by the second.
        t.due("23: how much", x.carry(-1), 9);
        t.due("23: 0", x.carry(0), 0);
        t.due("23: 1", x.carry(1), 1);
        t.due("23: 2", x.carry(2), 0);
        t.due("23: not in", x.carry(3), -2);
        t.due("23: not in", x.carry(7), -2);
        t.due("23: 8", x.carry(8), -3);
        t.due("23: -2", x.carry(-2), -3);
        x.lighten(2, 4);
        // 4 + 4 is most: 0 stays first as not carried with 1 and 2 borne, or 3 + 4 is less.
        t.due("23: how much", x.carry(-1), 8);
        t.due("23: nobody", x.carry(0), -1);
        t.due("23: first", x.carry(1), 0);
        t.due("23: second", x.carry(2), 1);
        x.take(0);
        t.due("23: lifted", x.carry(0), -2);
        x = Trial.with("trug 9 9;sorrow 1 1 1");
        t.due("23: no carriers", x.carry(-1), 0);
        t.due("23: no carriers", x.carry(0), -1);
        x = Trial.with("trug 9 9" + ";sorrow 20 1 1".repeat(8) + ";carrier 60;carrier 60;carrier 40;carrier 1");
        t.due("23: all eight", x.carry(-1), 160);
        t.due("23: the third", x.carry(2), 0);
        t.due("23: the fourth", x.carry(3), 1);
        t.due("23: the last", x.carry(7), 2);
    }

    private static void pole() {
        BeanTrug x = Trial.with(BASE);
        t.due("24: not strong enough", x.pole(0), -2);
        t.due("24: not strong enough", x.pole(1), -2);
        t.due("24: others", x.pole(2), -1);
        t.due("24: others", x.pole(-1), -1);
        x.lighten(0, 2);
        t.due("24: just enough", x.pole(0), 2);
        t.due("24: just enough", x.pole(1), 3);
        x.take(0);
        x.take(1);
        t.due("24: one", x.pole(0), 1);
        t.due("24: the least set", x.pole(1), 1);
        x = Trial.with("trug 9 0;carrier 3");
        t.due("24: nothing to bear", x.pole(0), 0);
        t.due("24: nothing to bear", x.pole(1), 0);
        x = Trial.with("trug 9 7;carrier 3;carrier 4;carrier 7");
        t.due("24: fewest", x.pole(1), 4);
        x = Trial.with("trug 9 7");
        t.due("24: none", x.pole(0), -2);
    }

    private static void light() {
        BeanTrug x = Trial.with(BASE);
        t.due("25: now", x.light(11), 0);
        t.due("25: now", x.light(200), 0);
        t.due("25: one", x.light(10), 1);
        t.due("25: one", x.light(8), 1);
        t.due("25: two", x.light(7), 2);
        t.due("25: three", x.light(2), 3);
        t.due("25: never", x.light(1), -2);
        t.due("25: never", x.light(0), -2);
        t.due("25: 201", x.light(201), -1);
        t.due("25: -1", x.light(-1), -1);
        x = Trial.with("trug 300 0;sorrow 1 1 1");
        Trial.tellRule(x, "lift 1 if step = 99");
        Trial.tellRule(x, "lift 1 if step = 100");
        x.force(0);
        t.due("25: 100", x.light(0), 100);
        x.force(1);
        t.due("25: beyond", x.light(0), -2);
    }

    private static void took() {
        BeanTrug x = Trial.with(BASE);
        t.due("26: all", x.took(0, 0), 40);
        t.due("26: least", x.took(0, 1), 1);
        Trial.tellRule(x, "lift 41 - time");
        x.force(0);
        x.note(0, 2);
        // 2 comes ahead of 0 (time 6), and of 0 alike only from 4 on.
        t.due("26: of 2", x.took(2, 0), 5);
        t.due("26: of 2", x.took(2, 1), 1);
        t.due("26: of 0", x.took(0, 0), 36);
        t.due("26: of 0", x.took(0, 1), 5);
        x.note(1, 1);
        t.due("26: none", x.took(2, 0), 0);
        t.due("26: none", x.took(2, 1), -2);
        t.due("26: what 2", x.took(2, 2), -1);
        t.due("26: what -1", x.took(2, -1), -1);
        t.due("26: none such", x.took(3, 0), -1);
        t.due("26: below", x.took(-1, 0), -1);
        x.note(-1, 0);
        x.note(0, 0);
        x.take(0);
        t.due("26: of one not in", x.took(0, 0), 4);
        t.due("26: nothing changes", x.sorrow(0, 1), 6);
    }

    private static void game() {
        BeanTrug x = Trial.with(BASE);
        // 0 first lets the other have 8; 2 first (3), then 0 (5), then 1 (8): 6 more.
        t.due("27: how much", x.game(0), 6);
        t.due("27: which", x.game(1), 2);
        t.due("27: others", x.game(2), -1000);
        t.due("27: others", x.game(-1), -1000);
        x.take(2);
        t.due("27: below 0", x.game(0), -3);
        t.due("27: which", x.game(1), 0);
        x.take(0);
        x.take(1);
        t.due("27: none", x.game(0), 0);
        t.due("27: none", x.game(1), -1);
        x = Trial.with("trug 9 9;sorrow 1 1 0;sorrow 1 1 0");
        t.due("27: of several the least", x.game(1), 0);
        x = Trial.with("trug 9 9;sorrow 1 1 7;sorrow 1 1 1;under 0 1;under 1 0");
        t.due("27: a ring ends it", x.game(0), 0);
        t.due("27: a ring ends it", x.game(1), -1);
    }

    private static void pence() {
        BeanTrug x = Trial.with(BASE);
        t.due("28: nothing", x.pence(100, 0), 0);
        x.step();
        x.step();
        x.step();
        // 100 by 5, 8, 3 of 16: 31.25, 50, 18.75
        t.due("28: 0", x.pence(100, 0), 31);
        t.due("28: 1", x.pence(100, 1), 50);
        t.due("28: 2", x.pence(100, 2), 19);
        t.due("28: none", x.pence(0, 1), 0);
        // 9999: 3124 and 11/16, 4999 and 8/16, 1874 and 13/16
        t.due("28: 9999", x.pence(9999, 0), 3125);
        t.due("28: 9999", x.pence(9999, 1), 4999);
        t.due("28: 9999", x.pence(9999, 2), 1875);
        t.due("28: 10000", x.pence(10000, 1), -1);
        t.due("28: -1", x.pence(-1, 1), -1);
        t.due("28: none such", x.pence(1, 3), -1);
        t.due("28: below", x.pence(1, -1), -1);
        x = Trial.with("trug 3 9;sorrow 1 1 7;sorrow 1 1 7;sorrow 1 1 7;sorrow 1 1 7");
        for (int i = 0; i < 4; i++) {
            x.step();
        }
        t.due("28: of several the least", x.pence(5, 0), 2);
        t.due("28: of several the least", x.pence(5, 1), 2);
        t.due("28: of several the least", x.pence(5, 2), 1);
        t.due("28: late", x.pence(5, 3), 0);
        x = Trial.with("trug 3 9;sorrow 1 1 0");
        x.step();
        t.due("28: no depth", x.pence(5, 0), 0);
    }

    private static void note() {
        BeanTrug x = Trial.with(BASE);
        t.due("29: first", x.note(0, 0), 1);
        t.due("29: none lifted", x.note(60, -1), 2);
        t.due("29: 61", x.note(61, 0), -2);
        t.due("29: -2", x.note(-2, 0), -2);
        t.due("29: none such", x.note(0, 3), -2);
        t.due("29: below", x.note(0, -2), -2);
        for (int i = 3; i <= 10; i++) {
            t.due("29: more", x.note(0, 0), i);
        }
        t.due("29: there are 10", x.note(0, 0), -2);
        t.due("34: notes", x.count(12), 10);
        t.due("29: none then", x.note(-1, 99), 0);
        t.due("34: notes", x.count(12), 0);
    }

    private static void ruled() {
        BeanTrug x = Trial.with(BASE);
        t.due("30: none alone", x.ruled(0), 1);
        t.due("30: none alone", x.ruled(1), -1);
        Trial.tellRule(x, "lift 9 - time");
        Trial.tellRule(x, "lift deep");
        Trial.tellRule(x, "lift 10 - time");
        t.due("30: without notes", x.ruled(0), 4);
        x.note(0, 2);
        t.due("30: how many", x.ruled(0), 2);
        t.due("30: the first", x.ruled(1), 0);
        x.note(2, 1);
        t.due("30: how many", x.ruled(0), 1);
        t.due("30: the first", x.ruled(1), 2);
        x.note(3, 1);
        t.due("30: none such", x.ruled(0), 0);
        t.due("30: none such", x.ruled(1), -2);
        t.due("30: others", x.ruled(2), -3);
        t.due("30: others", x.ruled(-1), -3);
        x.note(-1, 0);
        x.note(2, -1);
        x.lay(1, 0);
        x.take(0);
        x.force(1);
        t.due("30: from the begin on, as told", x.ruled(0), 1);
        t.due("30: from the begin on, as told", x.ruled(1), 0);
    }

    private static void look() {
        BeanTrug x = Trial.with(BASE);
        t.due("31: one alone", x.look(0), 0);
        t.due("31: one alone", x.look(1), 1);
        Trial.tellRule(x, "lift 9 - time");
        Trial.tellRule(x, "lift deep");
        Trial.tellRule(x, "lift 10 - time");
        // none: 0 1 2; rule 0: 2 0 none; rule 1: 0 1 2; rule 2: 2 0 1
        t.due("31: step 0 and 1 part by halves, so does none better", x.look(0), 0);
        t.due("31: how many", x.look(1), 2);
        x.note(0, 2);
        t.due("31: step 2", x.look(0), 2);
        t.due("31: how many", x.look(1), 1);
        x.note(2, 0);
        t.due("31: none is so", x.look(0), -2);
        t.due("31: none is so", x.look(1), -2);
        t.due("31: others", x.look(2), -1);
        t.due("31: others", x.look(-1), -1);
    }

    private static void seedAndYears() {
        BeanTrug x = new BeanTrug();
        t.due("32: 0 at first", x.seed(5), 0);
        t.due("32: which was", x.seed(BIG), 5);
        t.due("32: below 0", x.seed(-1), -1);
        t.due("34: x", x.count(14), BIG);
        Trial.tellTrug(x, BASE);
        x.seed(0);
        // x: 12345 (draw 0), 1406932606 (21468), 654583775 (9988), 1449466924 (22117), 229283573 (3498)
        // year 1: 0 of {0 2} is 0; 21468 of {1 2} is 1; then 2: minutes 6, 15, 19: all let be
        t.due("33: one year, deep", x.years(1, 0), 16);
        t.due("33: one year, minutes", x.years(1, 1), 19);
        x.await(5);
        // order of year 1: 0 (draw 0 of 2), 1 (21468 % 2 = 0), 2: 11, 20, 24 late: 13
        t.due("33: one year, deep", x.years(1, 0), 13);
        t.due("33: one year, minutes", x.years(1, 1), 24);
        // year 2: 22117 % 2 = 1: 2 first; then 0, then 1: 9, 15, 24 late: 8
        t.due("33: two years, deep", x.years(2, 0), 21);
        t.due("33: two years, minutes", x.years(2, 1), 48);
        t.due("33: x as it was", x.count(14), 0);
        t.due("33: 0", x.years(0, 0), -1);
        t.due("33: 21", x.years(21, 0), -1);
        t.due("33: what 2", x.years(1, 2), -1);
        t.due("33: what -1", x.years(1, -1), -1);
        t.due("33: nothing stays", x.count(8), 7);
    }

    private static void imageAndBack() {
        BeanTrug x = new BeanTrug();
        t.due("36: never made", x.back(0), -1);
        t.due("35: without a trug", x.image(3), 0);
        Trial.tellTrug(x, BASE);
        Trial.tellRule(x, "lift deep");
        x.force(0);
        x.seed(9);
        x.note(1, 1);
        x.step();
        x.lighten(1, 20);
        t.due("35: the minute", x.image(0), 6);
        t.due("35: no such", x.image(4), -1);
        t.due("35: no such", x.image(-1), -1);
        t.due("36: no such", x.back(4), -1);
        t.due("36: no such", x.back(-1), -1);
        t.due("36: never made", x.back(1), -1);
        t.due("35: acts stay", x.count(13), 2);
        Trial.tellTrug(x, "trug 5 3;sorrow 9 6 7");
        Trial.tellRule(x, "lift 1");
        x.force(1);
        x.seed(10);
        x.feed(0, 0, 0, 0, 0);
        x.step();
        t.due("36: back", x.back(0), 6);
        t.due("36: trug", x.count(0), 20);
        t.due("36: sorrows", x.count(2), 3);
        t.due("36: in force", x.count(5), 0);
        t.due("36: rules stay", x.count(4), 2);
        t.due("36: tape stays", x.count(15), 20);
        t.due("36: x", x.count(14), 9);
        t.due("36: notes", x.count(12), 1);
        t.due("36: step", x.count(7), 1);
        t.due("36: weight", x.sorrow(1, 0), 20);
        t.due("36: nothing can be undone", x.undo(), -1);
        t.due("36: in", x.count(8), 6);
        t.due("36: as told, too", x.ruled(0), 3);
        x.step();
        t.due("36: an image stays as it was", x.back(0), 6);
        t.due("36: to no trug", x.back(3), 0);
        t.due("36: no trug", x.step(), -1);
        t.due("36: none in force", x.count(5), -1);
    }
}
