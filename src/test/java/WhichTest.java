/** Promises 18 to 20: from where, without which, and two on one frame. */
public final class WhichTest {
    private static final int NONE = -1, BAD = -2, NOT = -3;

    public static void main(String[] args) {
        beginning();
        endingBits();
        endingRefusals();
        twoOfThem();
        twoRefusals();
        Check.end("WhichTest");
    }

    private static void beginning() {
        SpiderLoom x = new SpiderLoom();
        Check.due("18: there are none", x.begin(0), NONE);
        Check.due("18: law", x.begin(4), BAD);
        Check.due("18: law", x.begin(-1), BAD);
        Check.typeAll(x, "05;00;09");
        // From 0, 1, 2 she needs 13, 9, 9 by the nearest; 14, 13, 14 by the farthest.
        Check.due("18: of like ones the least", x.begin(0), 1);
        Check.due("18: the least LENGTH", x.begin(1), 1);
        // With so little thread by numbers: 01 of 5, 1 of 0, 20 of 4.
        x.set(0, 5);
        Check.due("18: most PEGS, then the least LENGTH", x.begin(2), 2);
        x.hide(2, 1);
        Check.due("18: not a hidden one", x.begin(0), 0);
        x.hide(0, 1);
        Check.due("18: not a hidden one", x.begin(0), 1);
        x.hide(1, 1);
        Check.due("18: all are hidden", x.begin(0), NONE);
        x.wipe();
        x.hide(0, 0);
        Check.typeAll(x, "05;0");
        Check.due("18: with a FAULT there are none", x.begin(0), NONE);
    }

    private static void dueLast(String of, SpiderLoom x, int peg, int law, int end, int many, int bits) {
        Check.due("19: " + of + ": how many", x.last(peg, law, end, 0), many);
        Check.due("19: " + of + ": as bits", x.last(peg, law, end, 1), bits);
    }

    private static void endingBits() {
        SpiderLoom x = Check.loom("00;01;02;03;04");
        dueLast("as it is", x, 0, 2, 4, 0, 0);
        dueLast("all behind it", x, 0, 2, 1, 3, 28);
        dueLast("one behind it", x, 0, 2, 3, 1, 16);
        dueLast("round", x, 3, 2, 2, 0, 0);
        dueLast("round", x, 3, 2, 4, 3, 7);
        dueLast("nearest: 1 comes first, unless alone", x, 2, 0, 1, 3, 25);
        dueLast("nearest: without 1 it is 2340", x, 2, 0, 0, 1, 2);
        x.hide(4, 1);
        dueLast("a hidden one does not count", x, 0, 2, 3, 0, 0);
        dueLast("nor is it of the bits", x, 0, 2, 1, 2, 12);
        Check.due("19: HIDDEN is as it was", x.count(2), 1);
        // Too little thread for the third: the web ends before it.
        SpiderLoom shortOf = Check.loom("00;01;05;09");
        shortOf.set(0, 4);
        dueLast("ended by thread", shortOf, 0, 2, 1, 0, 0);
        dueLast("too far even alone", shortOf, 0, 2, 2, NONE, NONE);
        shortOf.set(0, 5);
        dueLast("reached when straight", shortOf, 0, 2, 2, 0, 0);
        dueLast("never reached", shortOf, 0, 2, 3, NONE, NONE);
        // One of 1 and 2 is to go, so that there is thread for 3: the least bits.
        SpiderLoom like = Check.loom("00;20;02;22");
        like.set(0, 7);
        dueLast("of like ones the least bits", like, 0, 2, 3, 1, 2);
    }

    private static void endingRefusals() {
        SpiderLoom x = Check.loom("00;01;02");
        Check.due("19: both are one", x.last(1, 0, 1, 0), BAD);
        Check.due("19: peg", x.last(3, 0, 1, 0), BAD);
        Check.due("19: peg", x.last(-1, 0, 1, 0), BAD);
        Check.due("19: law", x.last(0, 4, 1, 0), BAD);
        Check.due("19: law", x.last(0, -1, 1, 0), BAD);
        Check.due("19: end", x.last(0, 0, 3, 0), BAD);
        Check.due("19: end", x.last(0, 0, -1, 0), BAD);
        Check.due("19: what", x.last(0, 0, 1, 2), BAD);
        Check.due("19: what", x.last(0, 0, 1, -1), BAD);
        x.hide(1, 1);
        Check.due("19: the one is hidden", x.last(1, 0, 0, 0), NOT);
        Check.due("19: the other is hidden", x.last(0, 0, 1, 0), NOT);
        Check.due("19: BAD before NOT", x.last(1, 0, 1, 0), BAD);
        Check.due("19: BAD before NOT", x.last(1, 0, 0, 2), BAD);
    }

    private static void dueTwo(String of, SpiderLoom x, int[] told, int first, int second, int lastStep) {
        int[] want = {first, second, lastStep};
        for (int what = 0; what < 3; what++) {
            Check.due("20: " + of + ": " + what, x.two(told[0], told[1], told[2], told[3], what), want[what]);
        }
    }

    private static void twoOfThem() {
        SpiderLoom x = Check.loom("00;01;02;03;04");
        // 1, 3, 2: the first one goes to 1, the second to 3, the first to 2.
        dueTwo("in turn", x, new int[] {0, 0, 4, 0}, 3, 2, 2);
        dueTwo("the other one's first is none", x, new int[] {0, 2, 1, 2}, 3, 2, 4);
        dueTwo("by two laws", x, new int[] {0, 1, 1, 2}, 3, 2, 3);
        x.hide(2, 1);
        dueTwo("without a hidden one", x, new int[] {0, 0, 4, 0}, 2, 2, 3);
        // The first cannot go so far as 3 till the second one has taken it.
        SpiderLoom stays = Check.loom("00;09;02;08");
        stays.set(0, 7);
        dueTwo("who cannot go on stays till the next turn", stays, new int[] {0, 1, 1, 0}, 2, 2, 2);
        stays.set(1, 6);
        dueTwo("hunger", stays, new int[] {0, 1, 1, 0}, 1, 2, 3);
        stays.set(0, 0);
        dueTwo("no step", stays, new int[] {0, 0, 1, 0}, 1, 1, NONE);
        dueTwo("of two pegs", Check.loom("00;99"), new int[] {1, 0, 0, 3}, 1, 1, NONE);
        // Each has thread of her own.
        SpiderLoom own = Check.loom("00;01;09;08");
        own.set(0, 1);
        dueTwo("thread of her own", own, new int[] {0, 0, 2, 0}, 2, 2, 3);
    }

    private static void twoRefusals() {
        SpiderLoom x = Check.loom("00;01;02");
        Check.due("20: both at one", x.two(1, 0, 1, 1, 0), BAD);
        Check.due("20: a", x.two(3, 0, 1, 0, 0), BAD);
        Check.due("20: a", x.two(-1, 0, 1, 0, 0), BAD);
        Check.due("20: b", x.two(0, 0, 3, 0, 0), BAD);
        Check.due("20: b", x.two(0, 0, -1, 0, 0), BAD);
        Check.due("20: lawA", x.two(0, 4, 1, 0, 0), BAD);
        Check.due("20: lawB", x.two(0, 0, 1, 4, 0), BAD);
        Check.due("20: lawB", x.two(0, 0, 1, -1, 0), BAD);
        Check.due("20: what", x.two(0, 0, 1, 0, 3), BAD);
        Check.due("20: what", x.two(0, 0, 1, 0, -1), BAD);
        x.hide(1, 1);
        Check.due("20: the first is hidden", x.two(1, 0, 0, 0, 0), NOT);
        Check.due("20: the second is hidden", x.two(0, 0, 1, 0, 0), NOT);
        Check.due("20: BAD before NOT", x.two(1, 0, 1, 0, 0), BAD);
        Check.due("20: BAD before NOT", x.two(1, 0, 0, 0, 3), BAD);
    }
}
