/** Promises 21 to 26: what was seen, flies and dew. */
public final class SeenTest {
    private static final int NONE = -1, BAD = -2, NOT = -3, FULL = -4;

    public static void main(String[] args) {
        seeing();
        forgetting();
        fitting();
        telling();
        flying();
        dewing();
        Check.end("SeenTest");
    }

    private static void seeing() {
        SpiderLoom x = new SpiderLoom();
        Check.due("21: from", x.seen(10, 1, 0), BAD);
        Check.due("21: from", x.seen(-1, 1, 0), BAD);
        Check.due("21: i", x.seen(0, 0, 0), BAD);
        Check.due("21: i", x.seen(0, 10, 0), BAD);
        Check.due("21: peg", x.seen(0, 1, 10), BAD);
        Check.due("21: peg", x.seen(0, 1, -1), BAD);
        Check.due("21: none yet", x.count(6), 0);
        for (int n = 1; n <= 8; n++) {
            Check.due("21: the " + n, x.seen(9, 9, 9), n);
        }
        Check.due("21: a ninth", x.seen(0, 1, 1), FULL);
        Check.due("21: BAD before FULL", x.seen(0, 0, 1), BAD);
        Check.due("21: eight", x.count(6), 8);
    }

    private static void forgetting() {
        SpiderLoom x = Check.loom("00;01");
        Check.due("22: none", x.forget(), 0);
        x.seen(0, 1, 0);
        x.seen(0, 2, 0);
        Check.due("22: fits() before", x.fits(), 0);
        Check.due("22: two", x.forget(), 2);
        Check.due("22: none", x.forget(), 0);
        Check.due("22: count(6)", x.count(6), 0);
        Check.due("22: fits() behind", x.fits(), 15);
        Check.due("22: room again", x.seen(0, 1, 1), 1);
        Check.due("22: fits() of what came behind", x.fits(), 15);
    }

    private static void fitting() {
        SpiderLoom x = Check.loom("00;09;01;90");
        // From 0: 0213 or 0231, 0132, 0123, 0321
        Check.due("23: nothing was seen", x.fits(), 15);
        x.seen(0, 1, 1);
        Check.due("23: farthest, numbers", x.fits(), 6);
        x.seen(0, 2, 2);
        Check.due("23: numbers", x.fits(), 4);
        x.seen(0, 3, 3);
        Check.due("23: numbers", x.fits(), 4);
        x.seen(0, 3, 2);
        Check.due("23: none", x.fits(), 0);
        x.forget();
        x.seen(0, 3, 3);
        int before = x.fits();
        x.set(0, 9);
        Check.holds("23: it fitted before", before != 0);
        Check.due("23: of WEBS with so many PEGS", x.fits(), 0);
        x.set(0, 99);
        Check.due("23: again", x.fits(), before);
        x.hide(0, 1);
        Check.due("23: who begins at a hidden one lays none", x.fits(), 0);
        x.hide(0, 0);
        x.seen(4, 1, 0);
        Check.due("23: who begins where no PEG is lays none", x.fits(), 0);
        x.forget();
        x.seen(0, 4, 0);
        Check.due("23: more than there are", x.fits(), 0);
        x.forget();
        x.seen(0, 9, 0);
        Check.due("23: more than there are", x.fits(), 0);
        Check.due("23: of no PEGS, nothing seen", new SpiderLoom().fits(), 15);
    }

    private static void telling() {
        SpiderLoom x = new SpiderLoom();
        Check.due("24: no PEGS", x.tells(), NONE);
        Check.typeAll(x, "00;01;02");
        // From 0: 012, 021, 012, 012. From 1: 102, 102, 120, 120. From 2: 210, 201, 201, 201.
        Check.due("24: of like ones the least", x.tells(), 0);
        x.hide(0, 1);
        Check.due("24: not a hidden one", x.tells(), 1);
        x.hide(1, 1);
        Check.due("24: not a hidden one", x.tells(), 2);
        x.hide(2, 1);
        Check.due("24: all are hidden", x.tells(), NONE);
        x.hide(0, 0);
        x.hide(1, 0);
        x.hide(2, 0);
        x.seen(1, 1, 0);
        Check.due("24: nearest, farthest", x.fits(), 3);
        Check.due("24: they differ from 0", x.tells(), 0);
        x.forget();
        x.seen(1, 1, 2);
        Check.due("24: numbers, rows", x.fits(), 12);
        Check.due("24: they never differ", x.tells(), 0);
        x.forget();
        x.seen(2, 1, 2);
        Check.due("24: none", x.fits(), 0);
        Check.due("24: 0 from each", x.tells(), 0);
        x.hide(0, 1);
        Check.due("24: 0 from each that is not hidden", x.tells(), 1);
        SpiderLoom line = Check.loom("00;02;01");
        // From 0: 021, 012, 012, 021. From 1: 120, 102, 120, 102. From 2: 201, 201, 201, 210.
        Check.due("24: two from each", line.tells(), 0);
        line.seen(2, 1, 0);
        line.seen(0, 1, 1);
        Check.due("24: farthest, numbers", line.fits(), 6);
        Check.due("24: they differ from 1", line.tells(), 1);
    }

    private static int lot(int seed) {
        return seed * 1103515245 + 12345;
    }

    private static void flying() {
        SpiderLoom x = Check.loom("00;99;09;90;44");
        x.set(0, 9);
        int[] seeds = {0, 1, -1, 7, Integer.MIN_VALUE, Integer.MAX_VALUE, 123456789};
        for (int seed : seeds) {
            for (int reach = 0; reach < 10; reach++) {
                x.set(2, reach);
                // With so little thread there are 4 4 and the corner 0 0.
                int now = seed;
                int caught = 0;
                for (int k = 0; k < 99; k++) {
                    now = lot(now);
                    int fx = (int) (((long) now & 0xFFFFFFFFL) / 65536 % 10);
                    now = lot(now);
                    int fy = (int) (((long) now & 0xFFFFFFFFL) / 65536 % 10);
                    if (fx + fy <= reach || Math.abs(fx - 4) + Math.abs(fy - 4) <= reach) {
                        caught++;
                    }
                }
                Check.due("25: flies by " + seed + ", reach " + reach, x.flies(4, 0, seed, 99), caught);
            }
        }
        Check.due("25: no fly", x.flies(4, 0, 7, 0), 0);
        Check.due("25: n", x.flies(4, 0, 7, 100), BAD);
        Check.due("25: n", x.flies(4, 0, 7, -1), BAD);
        Check.due("25: law", x.flies(4, 4, 7, 1), BAD);
        Check.due("25: peg", x.flies(5, 0, 7, 1), BAD);
        x.hide(4, 1);
        Check.due("25: hidden", x.flies(4, 0, 7, 1), NOT);
        Check.due("25: BAD before NOT", x.flies(4, 0, 7, 100), BAD);
    }

    private static void dewing() {
        SpiderLoom x = Check.loom("00;03;07;09");
        Check.due("26: sheet", x.dew(0, 2, 4), BAD);
        Check.due("26: sheet", x.dew(0, 2, -1), BAD);
        Check.due("26: law", x.dew(0, 4, 0), BAD);
        Check.due("26: peg", x.dew(4, 0, 0), BAD);
        Check.due("26: no FINDING yet", x.count(8), 0);
        Check.due("26: lost", x.dew(0, 2, 0), -11);
        Check.due("26: FINDING", x.count(8), 1);
        Check.fill(x, 0, 2, 3, 4, 2);
        Check.due("26: as many as it is long", x.dew(0, 2, 0), NONE);
        x.put(0, 2, 2, 3);
        Check.due("26: the last", x.dew(0, 2, 0), 2);
        x.put(0, 2, 1, 5);
        Check.due("26: the first that tears", x.dew(0, 2, 0), 1);
        x.put(0, 2, 0, Integer.MAX_VALUE);
        Check.due("26: the first that tears", x.dew(0, 2, 0), 0);
        Check.fill(x, 1, 1, -1, -30000, 0, 99, 99);
        Check.due("26: more items than threads", x.dew(0, 2, 1), NONE);
        Check.fill(x, 2, 0, 3);
        Check.due("26: fewer items than threads", x.dew(0, 2, 2), NONE);
        Check.fill(x, 3, 0);
        Check.due("26: no items", x.dew(0, 2, 3), NONE);
        x.set(0, 2);
        Check.due("26: no threads", x.dew(0, 2, 0), NONE);
        x.hide(0, 1);
        Check.due("26: hidden", x.dew(0, 2, 0), NOT);
        x.lose(0);
        Check.due("26: NULL before NOT", x.dew(0, 2, 0), -11);
        Check.due("26: BAD before NULL", x.dew(0, 4, 0), BAD);
    }
}
