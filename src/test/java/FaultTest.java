/** The language of trugs and rules: what is read, and where the first fault is of what kind. */
public final class FaultTest {
    private static Trial t;

    public static void main(String[] args) {
        t = new Trial("FaultTest");
        trugsThatAreRead();
        trugFaults();
        trugTooMany();
        rulesThatAreRead();
        ruleFaults();
        ruleTooDeep();
        ruleTooMany();
        t.close();
    }

    private static void reads(String text, int sorrows) {
        t.due("trug '" + text + "'", Trial.tellTrug(new BeanTrug(), text), sorrows);
    }

    private static void trugFault(String text, int place, int kind) {
        t.due("trug '" + text + "'", Trial.tellTrug(new BeanTrug(), text), Trial.fault(place, kind));
    }

    private static void ruleReads(String text) {
        t.due("rule '" + text + "'", Trial.tellRule(new BeanTrug(), text), 0);
    }

    private static void ruleFault(String text, int place, int kind) {
        t.due("rule '" + text + "'", Trial.tellRule(new BeanTrug(), text), Trial.fault(place, kind));
    }

    private static void trugsThatAreRead() {
        reads("trug 1 0", 0);
        reads("trug 300 20", 0);
        reads("  trug  300   20  ", 0);
        reads("trug1 0;sorrow1 1 0", 1);
        reads("trug 1 0".concat(" ".repeat(392)), 0);
        reads("trug 00300 00020 ; sorrow 20 40 30 ; sorrow 1 1 0", 2);
        reads("trug 1 0;sorrow 1 1 0;sorrow 1 1 0;under 0 1;under 0 1;under 1 0", 2);
        reads("trug 1 0;carrier 1;carrier 60;carrier 1;carrier 1", 0);
        BeanTrug x = Trial.with("trug 1 0;sorrow 1 1 0;sorrow 2 2 2;under 0 1;under 0 1;sorrow 3 3 3;under 0 2");
        t.due("under twice", x.sorrow(0, 5), 6);
        t.due("the third", x.sorrow(2, 0), 3);
    }

    private static void trugFaults() {
        trugFault("", 0, 0);
        trugFault("   ", 3, 0);
        trugFault("trug", 4, 0);
        trugFault("trug ", 5, 0);
        trugFault("trug 1", 6, 0);
        trugFault("trug 1 0;", 9, 0);
        trugFault("trug 1 0; ", 10, 0);
        trugFault("trug 1 0 1", 9, 0);
        trugFault("trug 1 0 sorrow", 9, 0);
        trugFault("trug 1 0;;", 9, 0);
        trugFault("trugs 1 0", 0, 0);
        trugFault("tru 1 0", 0, 0);
        trugFault("trugz 1 0", 0, 0);
        trugFault("trug{1 0", 4, 0);
        trugFault("trug`1 0", 4, 0);
        trugFault("trug 1/0", 6, 0);
        trugFault("trug 1:0", 6, 0);
        trugFault("<".repeat(400), 0, 0);
        trugFault("Trug 1 0", 0, 0);
        trugFault("trug x", 5, 0);
        trugFault("trug -1 0", 5, 0);
        trugFault("trug 1 0\0", 8, 0);
        trugFault("trug 1 0" + (char) 233, 8, 0);
        trugFault("trug\t1 0", 4, 0);
        trugFault("trug 0 0", 5, 1);
        trugFault("trug 301 0", 5, 1);
        trugFault("trug 99999 0", 5, 1);
        trugFault("trug 000001 0", 5, 1);
        trugFault("trug 1 21", 7, 1);
        trugFault("trug 4294967297 0", 5, 1);
        trugFault("sorrow 1 1 0", 0, 4);
        trugFault(" under 0 1", 1, 4);
        trugFault("carrier 1", 0, 4);
        trugFault("lift 1", 0, 0);
        trugFault("trug 1 0;lift 1", 9, 0);
        trugFault("trug 1 0;trug 1 0", 9, 4);
        trugFault("trug 1 0;sorrow 0 1 0", 16, 1);
        trugFault("trug 1 0;sorrow 21 1 0", 16, 1);
        trugFault("trug 1 0;sorrow 1 0 0", 18, 1);
        trugFault("trug 1 0;sorrow 1 41 0", 18, 1);
        trugFault("trug 1 0;sorrow 1 1 31", 20, 1);
        trugFault("trug 1 0;sorrow 1 1", 19, 0);
        trugFault("trug 1 0;sorrow 1 1;", 19, 0);
        trugFault("trug 1 0;under 0 1", 15, 1);
        trugFault("trug 1 0;sorrow 1 1 0;under 0 0", 30, 1);
        trugFault("trug 1 0;sorrow 1 1 0;under 0 1", 30, 1);
        trugFault("trug 1 0;sorrow 1 1 0;under 1 0", 28, 1);
        trugFault("trug 1 0;sorrow 1 1 0;under 0", 29, 0);
        trugFault("trug 1 0;sorrow 1 1 0;under 0 x", 30, 0);
        trugFault("trug 1 0;sorrow 1 1 0;under 0 0;sorrow 1 1 0", 30, 1);
        trugFault("trug 1 0;carrier 0", 17, 1);
        trugFault("trug 1 0;carrier 61", 17, 1);
        trugFault("trug 1 0;carrier", 16, 0);
    }

    private static void trugTooMany() {
        StringBuilder sorrows = new StringBuilder("trug 1 0");
        for (int i = 0; i < 8; i++) {
            sorrows.append(";sorrow 1 1 0");
        }
        reads(sorrows.toString(), 8);
        trugFault(sorrows + "; sorrow 1 1 0", sorrows.length() + 2, 4);
        trugFault(sorrows + "; sorrows", sorrows.length() + 2, 0);
        String carriers = "trug 1 0;carrier 1;carrier 1;carrier 1;carrier 1";
        trugFault(carriers + ";carrier", carriers.length() + 1, 4);
        StringBuilder clauses = new StringBuilder("trug1 0;sorrow1 1 0;sorrow1 1 0");
        for (int i = 3; i < 40; i++) {
            clauses.append(";under0 1");
        }
        reads(clauses.toString(), 2);
        trugFault(clauses + ";under0 1", clauses.length() + 1, 4);
        trugFault(clauses + ";trug", clauses.length() + 1, 4);
        trugFault(clauses + ";x", clauses.length() + 1, 0);
        trugFault(clauses + ";", clauses.length() + 1, 0);
    }

    private static void rulesThatAreRead() {
        ruleReads("lift 1");
        ruleReads(" lift  99999 ");
        ruleReads("lift1if2<3");
        ruleReads("lift sorrow+weight+time+deep+over+many+loose+left+load+rest+minute+step");
        ruleReads("lift 1 if 1<1 or 1<=1 and 1=1 or not 1>=1 and[1>1]");
        ruleReads("lift 5*4/3%2-1+0;lift 1");
        ruleReads("lift 1 if not not [not[1=1]]");
    }

    private static void ruleFaults() {
        ruleFault("", 0, 0);
        ruleFault("lift", 4, 0);
        ruleFault("lift ;", 5, 0);
        ruleFault("lift 1;", 7, 0);
        ruleFault("lift 1 if", 9, 0);
        ruleFault("lifts 1", 0, 0);
        ruleFault("trug 1 1", 0, 0);
        ruleFault("lift x", 5, 0);
        ruleFault("lift if", 5, 0);
        ruleFault("lift trug", 5, 0);
        ruleFault("lift 5 %", 8, 0);
        ruleFault("lift 5".concat(" ".repeat(393)).concat("+"), 400, 0);
        ruleFault("lift 5".concat(";".repeat(394)), 7, 0);
        ruleFault("lift 5 5", 7, 0);
        ruleFault("lift 5 123456", 7, 0);
        ruleFault("lift 5 time", 7, 0);
        ruleFault("lift timeif 1=1", 5, 0);
        ruleFault("lift -1", 5, 0);
        ruleFault("lift (1)", 5, 0);
        ruleFault("lift [1=1]", 5, 0);
        ruleFault("lift 123456", 5, 1);
        ruleFault("lift 1 if 123456 = 1", 10, 1);
        ruleFault("lift 1 if 1", 11, 0);
        ruleFault("lift 1 if 1 and", 12, 0);
        ruleFault("lift 1 if 1 =", 13, 0);
        ruleFault("lift 1 if 1 < = 2", 14, 0);
        ruleFault("lift 1 if 1 => 2", 13, 0);
        ruleFault("lift 1 if 1 = 2 = 3", 16, 0);
        ruleFault("lift 1 if 1 <> 2", 13, 0);
        ruleFault("lift 1 if many = 1]", 18, 0);
        ruleFault("lift 1 if [many = 1", 19, 0);
        ruleFault("lift 1 if [many = 1;", 19, 0);
        ruleFault("lift 1 if []", 11, 0);
        ruleFault("lift 1 if [1] = 1", 12, 0);
        ruleFault("lift 1 if not", 13, 0);
        ruleFault("lift 1 if and 1=1", 10, 0);
        ruleFault("lift 1 if 1=1 or", 16, 0);
        ruleFault("lift 1 if 1=1 if 1=1", 14, 0);
        ruleFault("lift 1 if 1=1 lift", 14, 0);
        ruleFault("lift 1\n", 6, 0);
        ruleFault("lift 1" + (char) 255, 6, 0);
    }

    private static void ruleTooDeep() {
        String ten = "lift 1 if ".concat("[".repeat(10));
        ruleReads(ten + "1=1" + "]".repeat(10));
        ruleFault(ten + "[1=1" + "]".repeat(11), ten.length(), 2);
        ruleFault(ten + "not 1=1" + "]".repeat(10), ten.length(), 2);
        ruleFault(ten + "1=1 or [", ten.length() + 7, 2);
        String nots = "lift 1 if " + "not [".repeat(5);
        ruleReads(nots + "1=1" + "]".repeat(5));
        ruleFault(nots + " not", nots.length() + 1, 2);
        ruleFault(nots + " [", nots.length() + 1, 2);
        ruleReads("lift 1 if " + "not ".repeat(10) + "1=1 and " + "not ".repeat(10) + "1=1");
        ruleFault("lift 1 if " + "not ".repeat(11) + "1=1", 50, 2);
        ruleFault(ten + ")", ten.length(), 0);
    }

    private static void ruleTooMany() {
        String sixty = "lift 1" + "+1".repeat(59);
        ruleReads(sixty);
        ruleFault(sixty + "+1", sixty.length() + 1, 3);
        ruleFault(sixty + "+x", sixty.length() + 1, 0);
        ruleFault(sixty + "+ 123456", sixty.length() + 2, 1);
        ruleFault(sixty + "+", sixty.length() + 1, 0);
        ruleFault(sixty + ";lift 1", sixty.length() + 6, 3);
        ruleFault(sixty + " if 1=1", sixty.length() + 4, 3);
        String fifty = "lift 1" + "+1".repeat(56);
        ruleReads(fifty + " if 1<=1");
        ruleFault(fifty + "+1 if 1 <= 1", fifty.length() + 11, 3);
        ruleFault(fifty + "+1+1 if 1 <= 1", fifty.length() + 10, 3);
        ruleFault(fifty + "+1+1 if 1 ! 1", fifty.length() + 10, 0);
        String clauses = "lift 1" + ";lift 1".repeat(11);
        ruleReads(clauses);
        ruleFault(clauses + "; lift", clauses.length() + 2, 4);
        ruleFault(clauses + "; left", clauses.length() + 2, 0);
        ruleFault(clauses + ";", clauses.length() + 1, 0);
    }
}
