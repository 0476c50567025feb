/** Promises 11 to 17: webs. */
public final class WebsTest {
    private static final int NONE = -1, BAD = -2, NOT = -3;

    public static void main(String[] args) {
        laws();
        webRefusals();
        lengths();
        crossing();
        hanging();
        falling();
        turning();
        oneMore();
        Check.end("WebsTest");
    }

    private static void laws() {
        SpiderLoom x = Check.loom("44;54;45;34;43");
        Check.dueWeb("11: of like ones the least", x, 0, 0, "01234");
        Check.dueWeb("11: of like ones the least", x, 4, 1, "41230");
        Check.dueWeb("11: behind the last one PEG 0", x, 3, 2, "34012");
        Check.dueWeb("11: by y, then by x", x, 4, 3, "43012");
        Check.dueWeb("11: behind the last one the first", x, 2, 3, "24301");
        x.hide(0, 1);
        Check.dueWeb("11: without a hidden one", x, 3, 2, "3412");
        Check.dueWeb("11: without a hidden one", x, 2, 3, "2431");
        SpiderLoom line = Check.loom("00;03;09");
        line.set(0, 8);
        Check.dueWeb("11: not enough for the way", line, 0, 2, "01");
        Check.dueWeb("11: she takes no other one", line, 0, 1, "0");
        line.set(0, 9);
        Check.dueWeb("11: just enough", line, 0, 2, "012");
        line.set(1, 1);
        Check.dueWeb("11: not enough for hunger", line, 0, 2, "01");
        line.set(0, 11);
        Check.dueWeb("11: just enough for hunger", line, 0, 2, "012");
        line.set(0, 0);
        Check.dueWeb("11: no thread", line, 1, 0, "1");
        Check.dueWeb("11: alone", Check.loom("55"), 0, 3, "0");
    }

    private static void webRefusals() {
        SpiderLoom x = Check.loom("00;11;22");
        Check.due("11: fewer", x.web(0, 0, 3), NONE);
        Check.due("11: fewer", x.web(0, 0, 9), NONE);
        Check.due("11: the last", x.web(0, 0, 2), 2);
        Check.due("11: i", x.web(0, 0, 10), BAD);
        Check.due("11: i", x.web(0, 0, -1), BAD);
        Check.due("11: law", x.web(0, 4, 0), BAD);
        Check.due("11: law", x.web(0, -1, 0), BAD);
        Check.due("11: peg", x.web(3, 0, 0), BAD);
        Check.due("11: peg", x.web(-1, 0, 0), BAD);
        x.hide(0, 1);
        Check.due("11: hidden", x.web(0, 0, 0), NOT);
        Check.due("11: BAD before NOT", x.web(0, 4, 0), BAD);
        Check.due("11: BAD before NOT", x.web(0, 0, 10), BAD);
        x.hide(4, 1);
        Check.due("11: hidden, but not there", x.web(4, 0, 0), BAD);
        Check.due("11: no FINDINGS", x.count(8), 0);
    }

    private static void lengths() {
        SpiderLoom x = Check.loom("00;03;09;92");
        x.set(1, 2);
        Check.due("12: LENGTH", x.length(0, 2, 0), 25);
        Check.due("12: PEGS", x.length(0, 2, 1), 4);
        Check.due("12: left", x.length(0, 2, 2), 68);
        x.set(0, 14);
        Check.due("12: LENGTH", x.length(0, 2, 0), 9);
        Check.due("12: PEGS", x.length(0, 2, 1), 3);
        Check.due("12: left", x.length(0, 2, 2), 1);
        x.set(0, 4);
        Check.due("12: LENGTH", x.length(0, 2, 0), 0);
        Check.due("12: PEGS", x.length(0, 2, 1), 1);
        Check.due("12: left", x.length(0, 2, 2), 4);
        Check.due("12: what", x.length(0, 2, 3), BAD);
        Check.due("12: what", x.length(0, 2, -1), BAD);
        Check.due("12: law", x.length(0, 4, 0), BAD);
        Check.due("12: law", x.length(0, -1, 0), BAD);
        Check.due("12: peg", x.length(4, 0, 0), BAD);
        x.hide(0, 1);
        Check.due("12: hidden", x.length(0, 2, 0), NOT);
        Check.due("12: BAD before NOT", x.length(0, 2, 3), BAD);
    }

    private static void dueCrosses(String text, int want) {
        SpiderLoom x = Check.loom(text);
        x.set(0, 200);
        Check.due("13: crosses of " + text, x.crosses(0, 2), want);
    }

    private static void crossing() {
        dueCrosses("00", 0);
        dueCrosses("00;99", 0);
        dueCrosses("00;99;09", 0);
        dueCrosses("00;99;09;90", 1);
        dueCrosses("00;90;99;09", 0);
        // An end of one in the midst of the other, from either side.
        dueCrosses("00;08;44;04", 1);
        dueCrosses("44;04;00;08", 1);
        dueCrosses("40;44;09;04;84", 2);
        // All in one line: one upon the other, one within the other, apart.
        dueCrosses("00;04;02;06", 1);
        dueCrosses("00;06;02;04", 1);
        dueCrosses("00;02;04;06", 0);
        dueCrosses("00;22;44;66", 0);
        dueCrosses("00;44;22;66", 1);
        dueCrosses("66;22;44;00", 1);
        // In one line, side by side threads upon each other are no pair.
        dueCrosses("00;06;03", 0);
        // Boxes that overlap without a point in common.
        dueCrosses("00;88;98;32", 0);
        dueCrosses("00;99;01;10;05;50", 5);
        SpiderLoom x = Check.loom("00;99;09;90");
        x.set(0, 27);
        Check.due("13: less thread, less threads", x.crosses(0, 2), 0);
        Check.due("13: law", x.crosses(0, 4), BAD);
        Check.due("13: law", x.crosses(0, -1), BAD);
        Check.due("13: peg", x.crosses(4, 0), BAD);
        Check.due("13: peg", x.crosses(-1, 0), BAD);
        x.hide(3, 1);
        Check.due("13: hidden", x.crosses(3, 0), NOT);
        Check.due("13: BAD before NOT", x.crosses(3, 4), BAD);
    }

    private static void hanging() {
        SpiderLoom x = Check.loom("00;01;02;09");
        x.set(0, 2);
        Check.due("14: where she begins", x.hangs(0, 2, 0), 1);
        Check.due("14: in the midst", x.hangs(0, 2, 1), 2);
        Check.due("14: at the end", x.hangs(0, 2, 2), 1);
        Check.due("14: not of it", x.hangs(0, 2, 3), 0);
        x.set(0, 0);
        Check.due("14: all alone", x.hangs(0, 2, 0), 0);
        Check.due("14: no such one", x.hangs(0, 2, 4), BAD);
        Check.due("14: no such one", x.hangs(0, 2, -1), BAD);
        Check.due("14: law", x.hangs(0, 4, 0), BAD);
        Check.due("14: peg", x.hangs(4, 0, 0), BAD);
        x.set(0, 9);
        x.hide(1, 1);
        Check.due("14: on a hidden one", x.hangs(0, 2, 1), 0);
        Check.due("14: hidden", x.hangs(1, 2, 0), NOT);
        Check.due("14: BAD before NOT", x.hangs(1, 2, 4), BAD);
    }

    private static void falling() {
        SpiderLoom x = Check.loom("00;01;02;09");
        x.set(0, 2);
        Check.due("15: where she begins", x.pieces(0, 2, 0), 1);
        Check.due("15: in the midst", x.pieces(0, 2, 1), 2);
        Check.due("15: at the end", x.pieces(0, 2, 2), 1);
        Check.due("15: not of it", x.pieces(0, 2, 3), 1);
        x.set(0, 0);
        Check.due("15: it was all", x.pieces(0, 2, 0), 0);
        Check.due("15: not of it", x.pieces(0, 2, 1), 1);
        Check.due("15: no such one", x.pieces(0, 2, 4), BAD);
        Check.due("15: no such one", x.pieces(0, 2, -1), BAD);
        Check.due("15: law", x.pieces(0, -1, 0), BAD);
        Check.due("15: peg", x.pieces(4, 0, 0), BAD);
        x.hide(1, 1);
        Check.due("15: without a hidden one", x.pieces(0, 2, 1), 1);
        Check.due("15: hidden", x.pieces(1, 2, 0), NOT);
        Check.due("15: BAD before NOT", x.pieces(1, 2, 4), BAD);
    }

    private static void turning() {
        SpiderLoom x = Check.loom("00;10;01;11");
        for (int law = 0; law < 3; law++) {
            Check.due("16: law " + law, x.turned(0, law), 1);
        }
        // Turned, 0 to 3 lie at 90, 91, 80, 81: by rows 2, 0, 3, 1.
        Check.dueWeb("16: as it is", x, 0, 3, "0123");
        Check.due("16: 0132 is another row", x.turned(0, 3), 0);
        Check.due("16: alone", Check.loom("37").turned(0, 3), 1);
        SpiderLoom two = Check.loom("00;99");
        Check.due("16: of two", two.turned(0, 3), 1);
        // A line turned by a quarter is a line of x; turned the other way it would go back.
        SpiderLoom line = Check.loom("04;24;44");
        Check.due("16: rightwards comes downwards", line.turned(1, 3), 1);
        SpiderLoom down = Check.loom("40;42;44");
        Check.due("16: downwards comes leftwards", down.turned(1, 3), 0);
        down.set(0, 1);
        Check.due("16: with too little thread", down.turned(1, 3), 1);
        Check.due("16: law", down.turned(0, 4), BAD);
        Check.due("16: peg", down.turned(3, 0), BAD);
        down.hide(0, 1);
        Check.due("16: hidden", down.turned(0, 0), NOT);
        Check.due("16: BAD before NOT", down.turned(0, -1), BAD);
        down.set(0, 99);
        Check.due("16: of two that are left", down.turned(1, 3), 1);
        Check.due("16: pegs are as they were", down.peg(1, 1), 2);
    }

    private static void oneMore() {
        SpiderLoom x = Check.loom("00;04");
        Check.due("17: behind all", x.more(0, 2, 0, 2), 6);
        Check.due("17: nearest", x.more(0, 0, 0, 2), 4);
        x.hide(2, 1);
        Check.due("17: hidden, if that number is", x.more(0, 0, 0, 2), 4);
        Check.due("17: hidden, if that number is", x.more(0, 2, 0, 2), 4);
        x.hide(2, 0);
        x.set(0, 5);
        Check.due("17: not enough thread", x.more(0, 2, 0, 2), 4);
        Check.due("17: no peg more has come", x.count(0), 2);
        Check.due("17: x", x.more(0, 0, 10, 0), BAD);
        Check.due("17: x", x.more(0, 0, -1, 0), BAD);
        Check.due("17: y", x.more(0, 0, 0, 10), BAD);
        Check.due("17: y", x.more(0, 0, 0, -1), BAD);
        Check.due("17: law", x.more(0, 4, 5, 5), BAD);
        Check.due("17: peg", x.more(2, 0, 5, 5), BAD);
        Check.due("17: one lies there", x.more(0, 0, 0, 4), NOT);
        Check.due("17: she begins there", x.more(0, 0, 0, 0), NOT);
        x.hide(1, 1);
        Check.due("17: a hidden one lies there", x.more(0, 0, 0, 4), NOT);
        Check.due("17: hidden", x.more(1, 0, 5, 5), NOT);
        Check.due("17: BAD before NOT", x.more(1, 0, 5, 10), BAD);
        SpiderLoom nine = Check.loom("00;01;02;03;04;05;06;07;08");
        Check.due("17: of nine", nine.more(0, 0, 0, 9), 9);
        Check.due("17: there are ten", Check.loom("00;01;02;03;04;05;06;07;08;09").more(0, 0, 5, 5), NOT);
        Check.due("17: BAD of ten", Check.loom("00;01;02;03;04;05;06;07;08;09").more(0, 0, 5, 10), BAD);
        Check.due("17: of none", new SpiderLoom().more(0, 0, 5, 5), BAD);
    }
}
