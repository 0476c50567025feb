/** Promises 1 to 10: a new object, and pegs and thread. */
public final class PegsTest {
    private static final int NONE = -1, BAD = -2, NOT = -3, FULL = -4;

    public static void main(String[] args) {
        newObject();
        typing();
        wiping();
        undoing();
        faults();
        pegs();
        hiding();
        setting();
        reading();
        ways();
        Check.end("PegsTest");
    }

    private static void newObject() {
        SpiderLoom x = new SpiderLoom();
        int[] counts = {0, 0, 0, 99, 0, 1, 0, 0, 0, BAD};
        for (int what = 0; what < counts.length; what++) {
            Check.due("1: count(" + what + ")", x.count(what), counts[what]);
        }
        Check.due("1: count(-1)", x.count(-1), BAD);
        Check.due("1: fault()", x.fault(), NONE);
        for (int s = 0; s < 4; s++) {
            Check.due("1: lose(" + s + ")", x.lose(s), -11);
        }
        for (int peg = 0; peg < 10; peg++) {
            Check.due("1: hide(" + peg + ", 0)", x.hide(peg, 0), 0);
            Check.due("1: peg(" + peg + ", 0)", x.peg(peg, 0), BAD);
        }
        // Two objects have nothing in common.
        SpiderLoom other = new SpiderLoom();
        other.type('1');
        other.hide(0, 1);
        other.set(0, 5);
        Check.due("1: count(1) of the first", x.count(1), 0);
        Check.due("1: count(3) of the first", x.count(3), 99);
    }

    private static void typing() {
        SpiderLoom x = new SpiderLoom();
        Check.due("2: type(-1)", x.type(-1), BAD);
        Check.due("2: type(256)", x.type(256), BAD);
        Check.due("2: count(1)", x.count(1), 0);
        Check.due("2: type(0)", x.type(0), 1);
        Check.due("2: type(255)", x.type(255), 2);
        for (int i = 3; i <= 40; i++) {
            Check.due("2: the byte " + i, x.type('7'), i);
        }
        Check.due("2: a byte 41", x.type('7'), FULL);
        Check.due("2: BAD before FULL", x.type(256), BAD);
        Check.due("2: BAD before FULL", x.type(-1), BAD);
        Check.due("2: count(1)", x.count(1), 40);
        Check.due("2: fault()", x.fault(), 0);
    }

    private static void wiping() {
        SpiderLoom x = Check.loom("12;34");
        x.hide(1, 1);
        x.set(0, 7);
        x.seen(0, 1, 1);
        Check.due("3: wipe()", x.wipe(), 5);
        Check.due("3: count(0)", x.count(0), 0);
        Check.due("3: count(1)", x.count(1), 0);
        Check.due("3: fault()", x.fault(), NONE);
        Check.due("3: wipe() again", x.wipe(), 0);
        // What is no text stays.
        Check.due("3: HIDDEN stays", x.hide(1, 1), 1);
        Check.due("3: THREAD stays", x.count(3), 7);
        Check.due("3: SEEN stays", x.count(6), 1);
        Check.typeAll(x, "5");
        Check.due("3: fault() of what comes behind", x.fault(), 1);
        Check.typeAll(x, "6");
        Check.due("3: peg(0, 0)", x.peg(0, 0), 5);
        Check.due("3: peg(0, 1)", x.peg(0, 1), 6);
    }

    private static void undoing() {
        SpiderLoom x = new SpiderLoom();
        Check.due("4: undo() of nothing", x.undo(), NOT);
        Check.typeAll(x, "12;345");
        Check.due("4: with a FAULT there are none", x.count(0), 0);
        Check.due("4: undo()", x.undo(), 5);
        Check.due("4: count(0)", x.count(0), 2);
        Check.due("4: fault()", x.fault(), NONE);
        Check.due("4: undo()", x.undo(), 4);
        Check.due("4: fault()", x.fault(), 4);
        Check.due("4: undo()", x.undo(), 3);
        Check.due("4: undo()", x.undo(), 2);
        Check.due("4: peg(0, 1)", x.peg(0, 1), 2);
        Check.due("4: undo()", x.undo(), 1);
        Check.due("4: undo()", x.undo(), 0);
        Check.due("4: fault() of an empty text", x.fault(), NONE);
        Check.due("4: undo()", x.undo(), NOT);
    }

    private static void dueFault(String text, int place) {
        SpiderLoom x = Check.loom(text);
        Check.due("5: fault() of " + text, x.fault(), place);
        if (place != NONE) {
            Check.due("5: PEGS of " + text, x.count(0), 0);
            Check.due("5: peg(0, 0) of " + text, x.peg(0, 0), BAD);
            Check.due("5: web(0, 0, 0) of " + text, x.web(0, 0, 0), BAD);
        }
    }

    private static void faults() {
        dueFault("", NONE);
        dueFault("0", 1);
        dueFault("00", NONE);
        dueFault("99", NONE);
        dueFault("00;", 3);
        dueFault("00;9", 4);
        dueFault("00;99", NONE);
        dueFault(";", 0);
        dueFault("/0", 0);
        dueFault(":0", 0);
        dueFault("0/", 1);
        dueFault("0:", 1);
        dueFault("0;", 1);
        dueFault("000", 2);
        dueFault("00:11", 2);
        dueFault("00 ;11", 2);
        dueFault("00;;", 3);
        dueFault("00;x", 3);
        dueFault("00;1x", 4);
        dueFault("00;00", 4);
        dueFault("00;11;00", 7);
        dueFault("00;11;01;10;11", 13);
        dueFault("00;00;x", 4);
        dueFault("12;21", NONE);
        String ten = "00;01;02;03;04;05;06;07;08;09";
        dueFault(ten, NONE);
        dueFault(ten + ";", 30);
        dueFault(ten + ";1", 30);
        dueFault(ten + ";10", 30);
        dueFault(ten + ";00", 30);
        dueFault(ten + ";x", 30);
        dueFault(ten + "x", 29);
        dueFault(ten + ";10;11;12;", 30);
        dueFault("00;01;02;03;04;05;06;07;08;00", 28);
        Check.due("5: of ten", Check.loom(ten).count(0), 10);
    }

    private static void pegs() {
        SpiderLoom x = Check.loom("09;50");
        Check.due("6: x", x.peg(0, 0), 0);
        Check.due("6: y", x.peg(0, 1), 9);
        Check.due("6: x", x.peg(1, 0), 5);
        Check.due("6: y", x.peg(1, 1), 0);
        Check.due("6: hidden", x.peg(1, 2), 0);
        x.hide(1, 1);
        x.hide(2, 1);
        Check.due("6: hidden", x.peg(1, 2), 1);
        Check.due("6: hidden", x.peg(0, 2), 0);
        Check.due("6: x of a hidden one", x.peg(1, 0), 5);
        Check.due("6: no such peg", x.peg(2, 0), BAD);
        Check.due("6: no such peg, though hidden", x.peg(2, 2), BAD);
        Check.due("6: no such peg", x.peg(-1, 0), BAD);
        Check.due("6: no such peg", x.peg(Integer.MAX_VALUE, 0), BAD);
        Check.due("6: no such peg", x.peg(Integer.MIN_VALUE, 0), BAD);
        Check.due("6: no such what", x.peg(0, 3), BAD);
        Check.due("6: no such what", x.peg(0, -1), BAD);
    }

    private static void hiding() {
        SpiderLoom x = Check.loom("00;01;05");
        Check.due("7: hide(0, 1)", x.hide(0, 1), 0);
        Check.due("7: hide(0, 1)", x.hide(0, 1), 1);
        Check.due("7: hide(0, 0)", x.hide(0, 0), 1);
        Check.due("7: hide(0, 0)", x.hide(0, 0), 0);
        Check.due("7: hide(9, 1)", x.hide(9, 1), 0);
        Check.due("7: one that there is not", x.count(2), 0);
        Check.due("7: hide(10, 1)", x.hide(10, 1), BAD);
        Check.due("7: hide(-1, 1)", x.hide(-1, 1), BAD);
        Check.due("7: hide(32, 1)", x.hide(32, 1), BAD);
        Check.due("7: hide(0, 2)", x.hide(0, 2), BAD);
        Check.due("7: hide(0, -1)", x.hide(0, -1), BAD);
        x.hide(1, 1);
        Check.due("7: those that there are", x.count(2), 1);
        Check.dueWeb("7: not there for spiders", x, 0, 0, "02");
        Check.dueWeb("7: not there for spiders", x, 0, 2, "02");
        x.hide(1, 0);
        Check.dueWeb("7: there again", x, 0, 0, "012");
        // A number may be HIDDEN before there is such a PEG.
        SpiderLoom y = new SpiderLoom();
        y.hide(1, 1);
        Check.typeAll(y, "00;01;05");
        Check.due("7: hidden before it came", y.peg(1, 2), 1);
        Check.dueWeb("7: hidden before it came", y, 0, 0, "02");
    }

    private static void setting() {
        SpiderLoom x = new SpiderLoom();
        int[] first = {99, 0, 1};
        int[] most = {200, 9, 9};
        for (int what = 0; what < 3; what++) {
            Check.due("8: set most", x.set(what, most[what]), first[what]);
            Check.due("8: above", x.set(what, most[what] + 1), BAD);
            Check.due("8: below", x.set(what, -1), BAD);
            Check.due("8: far below", x.set(what, Integer.MIN_VALUE), BAD);
            Check.due("8: is most", x.count(3 + what), most[what]);
            Check.due("8: set least", x.set(what, 0), most[what]);
            Check.due("8: is least", x.set(what, 3), 0);
            Check.due("8: is three", x.count(3 + what), 3);
        }
        Check.due("8: no such what", x.set(3, 0), BAD);
        Check.due("8: no such what", x.set(-1, 0), BAD);
    }

    private static void reading() {
        SpiderLoom x = Check.loom("00;01;02");
        Check.due("9: no such sheet", x.read(4), BAD);
        Check.due("9: no such sheet", x.read(-1), BAD);
        Check.due("9: BAD is no FINDING", x.count(8), 0);
        Check.due("9: lost", x.read(0), -11);
        Check.due("9: FINDING", x.count(8), 1);
        Check.fill(x, 0, 0, 1, 0, 1, 2, 1);
        x.hide(1, 1);
        x.hide(3, 1);
        Check.due("9: up to the first that is neither", x.read(0), 3);
        Check.due("9: HIDDEN 0", x.peg(0, 2), 1);
        Check.due("9: HIDDEN 1", x.peg(1, 2), 0);
        Check.due("9: HIDDEN 2", x.peg(2, 2), 1);
        Check.due("9: HIDDEN 3 as it was", x.hide(3, 1), 1);
        Check.due("9: HIDDEN 4 as it was", x.hide(4, 0), 0);
        Check.fill(x, 1, 2, 1, 1, 1, 1, 1, 1, 1, 1, 1, 1, 1, 1);
        Check.due("9: ten at most", x.read(1), 10);
        Check.due("9: HIDDEN 9", x.hide(9, 0), 1);
        Check.fill(x, 2, 1);
        Check.due("9: no items", x.read(2), 0);
        Check.due("9: all stay", x.count(2), 3);
        Check.fill(x, 3, 1, -1, 0);
        Check.due("9: neither at once", x.read(3), 0);
        Check.fill(x, 3, 1, 0);
        Check.due("9: fewer items", x.read(3), 1);
        Check.due("9: the others stay", x.count(2), 2);
    }

    private static void ways() {
        SpiderLoom x = Check.loom("00;99;93");
        Check.due("10: far(0, 1)", x.far(0, 1), 18);
        Check.due("10: far(1, 0)", x.far(1, 0), 18);
        Check.due("10: far(0, 2)", x.far(0, 2), 12);
        Check.due("10: far(2, 1)", x.far(2, 1), 6);
        Check.due("10: far(1, 1)", x.far(1, 1), 0);
        Check.due("10: far(0, 3)", x.far(0, 3), BAD);
        Check.due("10: far(3, 0)", x.far(3, 0), BAD);
        Check.due("10: far(-1, 0)", x.far(-1, 0), BAD);
        Check.due("10: far(0, -1)", x.far(0, -1), BAD);
        x.hide(1, 1);
        Check.due("10: to a hidden one", x.far(0, 1), 18);
    }
}
