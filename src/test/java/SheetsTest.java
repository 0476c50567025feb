/** Promises 27 to 34: sheets, counts and the digest. */
public final class SheetsTest {
    private static final int NONE = -1, BAD = -2, NOT = -3;
    private static final int NULL = -11, INDEX = -12, CAST = -13, STORE = -14, SIZE = -15;
    private static final int LEAST = Integer.MIN_VALUE;

    public static void main(String[] args) {
        making();
        losing();
        putting();
        getting();
        copying();
        copyRefusals();
        writing();
        counting();
        digestOfNone();
        digestOfSome();
        Check.end("SheetsTest");
    }

    private static void making() {
        SpiderLoom x = new SpiderLoom();
        Check.due("27: sheet", x.sheet(4, 0, 1), BAD);
        Check.due("27: sheet", x.sheet(-1, 0, 1), BAD);
        Check.due("27: form", x.sheet(0, 3, 1), BAD);
        Check.due("27: form", x.sheet(0, -1, 1), BAD);
        Check.due("27: above 48", x.sheet(0, 0, 49), BAD);
        Check.due("27: above 48", x.sheet(0, 0, Integer.MAX_VALUE), BAD);
        Check.due("27: BAD before SIZE", x.sheet(4, 0, -1), BAD);
        Check.due("27: BAD before SIZE", x.sheet(0, 3, -1), BAD);
        Check.due("27: no FINDING", x.count(8), 0);
        Check.due("27: SIZE", x.sheet(0, 0, -1), SIZE);
        Check.due("27: SIZE", x.sheet(0, 0, Integer.MIN_VALUE), SIZE);
        Check.due("27: FINDING", x.count(8), 5);
        Check.due("27: still lost", x.lose(0), NULL);
        Check.due("27: n", x.sheet(0, 2, 48), 48);
        for (int i = 0; i < 48; i++) {
            Check.due("27: 0 at first", x.get(0, 2, i), 0);
            x.put(0, 2, i, i + 1);
        }
        Check.due("27: SIZE", x.sheet(0, 1, -1), SIZE);
        Check.due("27: as it was", x.get(0, 2, 47), 48);
        Check.due("27: a new row", x.sheet(0, 1, 3), 3);
        Check.due("27: 0 again", x.get(0, 1, 2), 0);
        Check.due("27: of the new FORM", x.get(0, 2, 2), LEAST);
        Check.due("27: fewer items", x.get(0, 1, 3), LEAST);
        Check.due("27: more items again", x.sheet(0, 1, 48), 48);
        Check.due("27: all 0", x.get(0, 1, 40), 0);
        Check.due("27: none", x.sheet(0, 0, 0), 0);
        Check.due("27: not lost", x.lose(0), 0);
    }

    private static void losing() {
        SpiderLoom x = new SpiderLoom();
        Check.due("28: sheet", x.lose(4), BAD);
        Check.due("28: sheet", x.lose(-1), BAD);
        Check.due("28: no FINDING", x.count(8), 0);
        Check.due("28: lost", x.lose(3), NULL);
        Check.due("28: FINDING", x.count(8), 1);
        Check.fill(x, 3, 1, 5, 6, 7);
        Check.fill(x, 2, 1, 5);
        Check.due("28: items", x.lose(3), 3);
        Check.due("28: lost again", x.lose(3), NULL);
        Check.due("28: no other one", x.get(2, 1, 0), 5);
        x.sheet(3, 1, 3);
        Check.due("28: a new one is new", x.get(3, 1, 1), 0);
    }

    private static void putting() {
        SpiderLoom x = new SpiderLoom();
        Check.due("29: sheet", x.put(4, 0, 0, 0), BAD);
        Check.due("29: sheet", x.put(-1, 0, 0, 0), BAD);
        Check.due("29: form before NULL", x.put(0, 3, 0, 0), BAD);
        Check.due("29: form before NULL", x.put(0, -1, 0, 0), BAD);
        Check.due("29: no FINDING", x.count(8), 0);
        Check.due("29: lost", x.put(0, 0, 0, 0), NULL);
        for (int form = 0; form < 3; form++) {
            x.sheet(form, form, 2);
        }
        Check.due("29: CAST", x.put(0, 1, 0, 0), CAST);
        Check.due("29: FINDING", x.count(8), 3);
        Check.due("29: INDEX", x.put(0, 0, 2, 0), INDEX);
        Check.due("29: FINDING", x.count(8), 2);
        Check.due("29: INDEX", x.put(0, 0, -1, 0), INDEX);
        Check.due("29: CAST before INDEX", x.put(0, 2, 9, 0), CAST);
        int[] values = {0, 1, -1, 127, 128, 255, 256, -128, -129, 32767, 32768, 65535, 65536, -32768, -32769,
            Integer.MAX_VALUE, Integer.MIN_VALUE};
        for (int v : values) {
            for (int form = 0; form < 3; form++) {
                Check.due("29: put", x.put(form, form, 1, v), 1);
            }
            Check.due("29: as a byte " + v, x.get(0, 0, 1), (byte) v);
            Check.due("29: as a short " + v, x.get(1, 1, 1), (short) v);
            Check.due("29: as an int " + v, x.get(2, 2, 1), v);
            Check.due("29: the other item stays", x.get(2, 2, 0), 0);
        }
    }

    private static void getting() {
        SpiderLoom x = new SpiderLoom();
        Check.due("30: sheet", x.get(4, 0, 0), LEAST);
        Check.due("30: sheet", x.get(-1, 0, 0), LEAST);
        Check.due("30: form", x.get(0, 3, 0), LEAST);
        Check.due("30: form", x.get(0, -1, 0), LEAST);
        Check.due("30: BAD is no FINDING", x.count(8), 0);
        Check.due("30: lost", x.get(0, 0, 0), LEAST);
        Check.due("30: NULL", x.count(8), 1);
        Check.fill(x, 0, 2, 5, -6, -2);
        Check.due("30: item", x.get(0, 2, 0), 5);
        Check.due("30: item", x.get(0, 2, 1), -6);
        Check.due("30: item", x.get(0, 2, 2), -2);
        Check.due("30: items are no FINDING", x.count(8), 1);
        Check.due("30: INDEX", x.get(0, 2, 3), LEAST);
        Check.due("30: INDEX", x.count(8), 2);
        Check.due("30: CAST", x.get(0, 0, 0), LEAST);
        Check.due("30: CAST", x.count(8), 3);
        Check.due("30: INDEX", x.get(0, 2, -1), LEAST);
        Check.due("30: INDEX", x.count(8), 2);
        Check.due("30: CAST before INDEX", x.get(0, 1, -1), LEAST);
        Check.due("30: CAST before INDEX", x.count(8), 3);
    }

    private static void dueItems(String of, SpiderLoom x, int s, int form, int... want) {
        for (int i = 0; i < want.length; i++) {
            Check.due("31: " + of + ": item " + i, x.get(s, form, i), want[i]);
        }
    }

    private static void copying() {
        SpiderLoom x = new SpiderLoom();
        Check.fill(x, 0, 1, 1, 2, 3, 4, 5);
        Check.fill(x, 1, 1, 9, 9, 9);
        Check.due("31: copy", x.copy(0, 2, 1, 1, 2), 1);
        dueItems("to another", x, 1, 1, 9, 3, 4);
        dueItems("the first stays", x, 0, 1, 1, 2, 3, 4, 5);
        Check.due("31: upwards in itself", x.copy(0, 0, 0, 1, 4), 1);
        dueItems("upwards, as they were", x, 0, 1, 1, 1, 2, 3, 4);
        Check.due("31: downwards in itself", x.copy(0, 2, 0, 0, 3), 1);
        dueItems("downwards, as they were", x, 0, 1, 2, 3, 4, 3, 4);
        Check.due("31: all", x.copy(1, 0, 0, 0, 3), 1);
        dueItems("all", x, 0, 1, 9, 3, 4, 3, 4);
        Check.due("31: none", x.copy(0, 5, 1, 3, 0), 1);
        Check.due("31: none", x.copy(0, 0, 1, 0, 0), 1);
        dueItems("none", x, 1, 1, 9, 3, 4);
        Check.due("31: no FINDING", x.count(8), 0);
    }

    private static void copyRefusals() {
        SpiderLoom x = new SpiderLoom();
        Check.due("31: s", x.copy(4, 0, 0, 0, 0), BAD);
        Check.due("31: s", x.copy(-1, 0, 0, 0, 0), BAD);
        Check.due("31: t", x.copy(0, 0, 4, 0, 0), BAD);
        Check.due("31: t", x.copy(0, 0, -1, 0, 0), BAD);
        Check.due("31: no FINDING", x.count(8), 0);
        Check.due("31: both are lost", x.copy(0, 0, 1, 0, 0), NULL);
        Check.due("31: FINDING", x.count(8), 1);
        x.sheet(0, 0, 3);
        Check.due("31: t is lost", x.copy(0, 0, 1, 0, 9), NULL);
        Check.due("31: s is lost", x.copy(1, 0, 0, 0, 9), NULL);
        x.sheet(1, 1, 3);
        Check.due("31: STORE", x.copy(0, 0, 1, 0, 1), STORE);
        Check.due("31: FINDING", x.count(8), 4);
        Check.due("31: STORE before INDEX", x.copy(0, 9, 1, 0, 1), STORE);
        x.sheet(1, 0, 2);
        int most = Integer.MAX_VALUE;
        int[][] beyond = {{-1, 0, 1}, {0, -1, 1}, {0, 0, -1}, {0, 0, 3}, {1, 1, 2}, {3, 0, 1}, {0, 2, 1}, {2, 0, 2},
            {4, 0, 0}, {0, 3, 0}, {-1, 0, 0}, {0, -1, 0}, {most, 0, most}, {1, 0, most}, {0, 1, most}, {most, 0, 1},
            {0, most, 1}, {0, 0, Integer.MIN_VALUE}, {Integer.MIN_VALUE, 0, 1}};
        Check.fill(x, 0, 0, 7, 7, 7);
        for (int[] b : beyond) {
            x.lose(2);
            Check.due("31: INDEX", x.copy(0, b[0], 1, b[1], b[2]), INDEX);
            Check.due("31: FINDING", x.count(8), 2);
        }
        dueItems("nothing came", x, 1, 0, 0, 0);
    }

    private static void writing() {
        SpiderLoom x = Check.loom("00;01;02;03");
        Check.due("32: sheet", x.write(0, 2, 4), BAD);
        Check.due("32: sheet", x.write(0, 2, -1), BAD);
        Check.due("32: law", x.write(0, 4, 0), BAD);
        Check.due("32: peg", x.write(4, 2, 0), BAD);
        Check.due("32: no FINDING", x.count(8), 0);
        Check.due("32: lost", x.write(0, 2, 0), NULL);
        Check.due("32: FINDING", x.count(8), 1);
        for (int form = 0; form < 3; form++) {
            Check.fill(x, form, form, 9, 9, 9, 9, 9);
            Check.due("32: as many as PEGS", x.write(2, 2, form), 4);
            int[] want = {2, 3, 0, 1, 9};
            for (int i = 0; i < 5; i++) {
                Check.due("32: item " + i, x.get(form, form, i), want[i]);
            }
            x.sheet(form, form, 2);
            Check.due("32: as many as items", x.write(3, 2, form), 2);
            Check.due("32: item 0", x.get(form, form, 0), 3);
            Check.due("32: item 1", x.get(form, form, 1), 0);
        }
        x.sheet(3, 0, 0);
        Check.due("32: no items", x.write(0, 0, 3), 0);
        x.hide(0, 1);
        Check.due("32: hidden", x.write(0, 0, 0), NOT);
        Check.due("32: nothing came", x.get(0, 0, 0), 3);
        x.lose(0);
        Check.due("32: NULL before NOT", x.write(0, 0, 0), NULL);
        Check.due("32: BAD before NULL", x.write(0, 4, 0), BAD);
    }

    private static void counting() {
        SpiderLoom x = Check.loom("00;03;44");
        x.hide(1, 1);
        x.hide(7, 1);
        x.set(0, 50);
        x.set(1, 4);
        x.set(2, 6);
        x.seen(1, 2, 3);
        x.seen(1, 2, 3);
        x.lose(0);
        int[] want = {3, 8, 1, 50, 4, 6, 2, 16, 1};
        for (int what = 0; what < want.length; what++) {
            Check.due("33: count(" + what + ")", x.count(what), want[what]);
        }
        Check.due("33: count(9)", x.count(9), BAD);
        Check.due("33: count(-1)", x.count(-1), BAD);
        x.type(';');
        Check.due("33: PEGS with a FAULT", x.count(0), 0);
        Check.due("33: bytes with a FAULT", x.count(1), 9);
        Check.due("33: HIDDEN with a FAULT", x.count(2), 0);
        Check.due("33: pairs with a FAULT", x.count(7), 0);
    }

    private static void digestOfNone() {
        SpiderLoom x = new SpiderLoom();
        // Of no PEGS: counts, fault, four begins, last and two and more are BAD, all LAWS fit, none tells.
        int[] told = {0, 0, 0, 99, 0, 1, 0, 0, NONE, NONE, NONE, NONE, NONE, BAD, BAD, BAD, BAD, BAD, BAD, 15, NONE};
        long h = 17;
        for (int v : told) {
            h = 31 * h + v;
        }
        Check.due("34: of none", x.digest(), h);
        x.lose(0);
        x.sheet(1, 0, 4);
        Check.due("34: SHEETS and FINDINGS are not told", x.digest(), h);
        Check.due("34: it changes nothing", x.count(8), 1);
    }

    private static long mix(long h, int... told) {
        for (int v : told) {
            h = 31 * h + v;
        }
        return h;
    }

    private static void digestOfSome() {
        String[] texts = {"55", "00;44", "12;80;37;55;91;26", "00;01;02;03;04;05;06;07;08;09", "12;80;"};
        for (String text : texts) {
            SpiderLoom x = Check.loom(text);
            x.set(0, 30);
            x.set(1, 1);
            x.hide(2, 1);
            x.seen(0, 1, 1);
            Check.due("34: of " + text, x.digest(), dueDigest(x));
            x.hide(0, 1);
            Check.due("34: without 0 of " + text, x.digest(), dueDigest(x));
        }
    }

    private static long dueDigest(SpiderLoom x) {
        long h = 17;
        for (int what = 0; what <= 7; what++) {
            h = mix(h, x.count(what));
        }
        h = mix(h, x.fault());
        for (int p = 0; p < x.count(0); p++) {
            for (int law = 0; law <= 3; law++) {
                h = mix(h, x.length(p, law, 0), x.length(p, law, 1), x.length(p, law, 2), x.crosses(p, law),
                    x.turned(p, law), x.web(p, law, 1), x.hangs(p, law, 0), x.pieces(p, law, 1),
                    x.flies(p, law, 7, 9));
            }
        }
        h = mix(h, x.begin(0), x.begin(1), x.begin(2), x.begin(3), x.last(0, 0, 1, 0), x.last(0, 0, 1, 1));
        h = mix(h, x.two(0, 0, 1, 1, 0), x.two(0, 0, 1, 1, 1), x.two(0, 0, 1, 1, 2), x.more(0, 0, 5, 5));
        return mix(h, x.fits(), x.tells());
    }
}
