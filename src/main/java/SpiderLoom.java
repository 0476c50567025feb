/** A mill without looms: spiders lay threads from peg to peg, each by a law of her own. */
public final class SpiderLoom {
    public static final int NONE = -1, BAD = -2, NOT = -3, FULL = -4;

    private static final int MOST_PEGS = 10, PLACES = 10, MOST_BYTES = 40;
    private static final int MOST_SEEN = 8, MOST_ITEMS = 48, MOST_FLIES = 99;
    private static final int MOST_THREAD = 200, MOST_HUNGER = 9, MOST_REACH = 9;
    private static final int LAWS = 4, SHEETS = 4;

    /** What is none of these, but a law, is by rows. */
    private static final int NEAREST = 0, FARTHEST = 1, BY_NUMBERS = 2;

    private static final int BYTES = 0, SHORTS = 1, INTS = 2;

    private static final int NULL = 1, INDEX = 2, CAST = 3, STORE = 4, SIZE = 5;

    /** What get() answers for every refusal, as -2 and the like may be items. */
    private static final int LEAST = -2147483648;

    /** Says that nothing speaks against an act; no refusal has this number. */
    private static final int WELL = 0;

    private final Text text = new Text();
    private final Frame frame = new Frame();
    /** The frame as it would be (turned, or with a peg more), made anew for each question. */
    private final Frame otherFrame = new Frame();
    /** One for each law, so that the webs of all laws can be held against each other. */
    private final Spider[] spiders = new Spider[LAWS];
    private final Notes notes = new Notes();
    private final Sheet[] sheets = new Sheet[SHEETS];
    private int faultPlace = NONE;
    private int hidden = 0;
    private int thread = 99;
    private int hunger = 0;
    private int reach = 1;
    private int latestFinding = 0;

    public SpiderLoom() {
        for (int law = 0; law < LAWS; law++) {
            spiders[law] = new Spider();
        }
        for (int s = 0; s < SHEETS; s++) {
            sheets[s] = new Sheet();
        }
    }

    // ---- pegs, thread

    public int type(int b) {
        if (b < 0 || b > 255) {
            return BAD;
        }
        if (text.size >= MOST_BYTES) {
            return FULL;
        }
        text.append(b);
        faultPlace = text.pegsTo(frame);
        return text.size;
    }

    public int wipe() {
        int had = text.size;
        text.shorten(0);
        faultPlace = text.pegsTo(frame);
        return had;
    }

    public int undo() {
        if (text.size <= 0) {
            return NOT;
        }
        text.shorten(text.size - 1);
        faultPlace = text.pegsTo(frame);
        return text.size;
    }

    public int fault() {
        return faultPlace;
    }

    public int peg(int peg, int what) {
        if (!frame.has(peg)) {
            return BAD;
        }
        switch (what) {
            case 0: return frame.x[peg];
            case 1: return frame.y[peg];
            case 2: return isHidden(peg) ? 1 : 0;
            default: return BAD;
        }
    }

    public int hide(int peg, int v) {
        if (peg < 0 || peg >= MOST_PEGS || v < 0 || v > 1) {
            return BAD;
        }
        int was = isHidden(peg) ? 1 : 0;
        setHidden(peg, v);
        return was;
    }

    public int set(int what, int v) {
        if (v < 0) {
            return BAD;
        }
        int was = BAD;
        if (what == 0 && v <= MOST_THREAD) {
            was = thread;
            thread = v;
        } else if (what == 1 && v <= MOST_HUNGER) {
            was = hunger;
            hunger = v;
        } else if (what == 2 && v <= MOST_REACH) {
            was = reach;
            reach = v;
        }
        return was;
    }

    public int read(int s) {
        if (!isSheet(s)) {
            return BAD;
        }
        Sheet from = sheets[s];
        if (from.lost) {
            return found(NULL);
        }
        int most = Math.min(from.size, MOST_PEGS);
        for (int i = 0; i < most; i++) {
            int v = from.items[i];
            if (v != 0 && v != 1) {
                return i;
            }
            setHidden(i, v);
        }
        return most;
    }

    public int far(int a, int b) {
        if (!frame.has(a) || !frame.has(b)) {
            return BAD;
        }
        return frame.apart(a, b);
    }

    // ---- webs

    public int web(int peg, int law, int i) {
        if (!canBeTold(peg, law) || i < 0 || i >= MOST_PEGS) {
            return BAD;
        }
        if (isHidden(peg)) {
            return NOT;
        }
        Spider spider = lay(spiders[0], frame, peg, law, hidden);
        return i < spider.size ? spider.row[i] : NONE;
    }

    public int length(int peg, int law, int what) {
        if (!canBeTold(peg, law) || what < 0 || what > 2) {
            return BAD;
        }
        if (isHidden(peg)) {
            return NOT;
        }
        Spider spider = lay(spiders[0], frame, peg, law, hidden);
        switch (what) {
            case 0: return spider.way;
            case 1: return spider.size;
            default: return spider.left;
        }
    }

    public int crosses(int peg, int law) {
        if (!canBeTold(peg, law)) {
            return BAD;
        }
        if (isHidden(peg)) {
            return NOT;
        }
        Spider spider = lay(spiders[0], frame, peg, law, hidden);
        int pairs = 0;
        for (int i = 0; i + 1 < spider.size; i++) {
            for (int j = i + 2; j + 1 < spider.size; j++) {
                if (frame.meet(spider.row[i], spider.row[i + 1], spider.row[j], spider.row[j + 1])) {
                    pairs++;
                }
            }
        }
        return pairs;
    }

    public int hangs(int peg, int law, int at) {
        if (!canBeTold(peg, law) || !frame.has(at)) {
            return BAD;
        }
        if (isHidden(peg)) {
            return NOT;
        }
        return neighbours(lay(spiders[0], frame, peg, law, hidden), at);
    }

    public int pieces(int peg, int law, int out) {
        if (!canBeTold(peg, law) || !frame.has(out)) {
            return BAD;
        }
        if (isHidden(peg)) {
            return NOT;
        }
        Spider spider = lay(spiders[0], frame, peg, law, hidden);
        // A row falls into one piece for each neighbour that the peg had in it.
        return spider.placeOf(out) == NONE ? 1 : neighbours(spider, out);
    }

    public int turned(int peg, int law) {
        if (!canBeTold(peg, law)) {
            return BAD;
        }
        if (isHidden(peg)) {
            return NOT;
        }
        otherFrame.becomeTurned(frame);
        Spider asIs = lay(spiders[0], frame, peg, law, hidden);
        Spider asTurned = lay(spiders[1], otherFrame, peg, law, hidden);
        return asIs.hasRowOf(asTurned) ? 1 : 0;
    }

    public int more(int peg, int law, int x, int y) {
        if (!canBeTold(peg, law) || x < 0 || x >= PLACES || y < 0 || y >= PLACES) {
            return BAD;
        }
        if (isHidden(peg) || frame.size >= MOST_PEGS || frame.isTaken(x, y)) {
            return NOT;
        }
        otherFrame.become(frame);
        otherFrame.add(x, y);
        return lay(spiders[0], otherFrame, peg, law, hidden).way;
    }

    // ---- which ones

    public int begin(int law) {
        if (!isLaw(law)) {
            return BAD;
        }
        int best = NONE;
        int bestSize = 0;
        int bestWay = 0;
        for (int peg = 0; peg < frame.size; peg++) {
            if (isHidden(peg)) {
                continue;
            }
            Spider spider = lay(spiders[0], frame, peg, law, hidden);
            if (spider.size > bestSize || (spider.size == bestSize && spider.way < bestWay)) {
                best = peg;
                bestSize = spider.size;
                bestWay = spider.way;
            }
        }
        return best;
    }

    public int last(int peg, int law, int end, int what) {
        if (!canBeTold(peg, law) || !frame.has(end) || peg == end || what < 0 || what > 1) {
            return BAD;
        }
        if (isHidden(peg) || isHidden(end)) {
            return NOT;
        }
        int bits = fewestHiddenFor(peg, law, end);
        if (bits == NONE) {
            return NONE;
        }
        return what == 0 ? Integer.bitCount(bits) : bits;
    }

    public int two(int a, int lawA, int b, int lawB, int what) {
        if (!canBeTold(a, lawA) || !canBeTold(b, lawB) || a == b || what < 0 || what > 2) {
            return BAD;
        }
        if (isHidden(a) || isHidden(b)) {
            return NOT;
        }
        Spider first = spiders[0];
        Spider second = spiders[1];
        first.startAt(a, lawA, thread);
        second.startAt(b, lawB, thread);
        int lastStep = stepInTurn(first, second);
        switch (what) {
            case 0: return first.size;
            case 1: return second.size;
            default: return lastStep;
        }
    }

    // ---- seen, flies, dew

    public int seen(int from, int i, int peg) {
        if (from < 0 || from >= MOST_PEGS || i < 1 || i >= MOST_PEGS || peg < 0 || peg >= MOST_PEGS) {
            return BAD;
        }
        if (notes.size >= MOST_SEEN) {
            return FULL;
        }
        notes.add(from, i, peg);
        return notes.size;
    }

    public int forget() {
        int had = notes.size;
        notes.size = 0;
        return had;
    }

    public int fits() {
        int bits = 0;
        for (int law = 0; law < LAWS; law++) {
            if (comesOut(law)) {
                bits |= 1 << law;
            }
        }
        return bits;
    }

    public int tells() {
        int laws = fits();
        int best = NONE;
        int most = NONE;
        for (int peg = 0; peg < frame.size; peg++) {
            if (isHidden(peg)) {
                continue;
            }
            int unlike = unlikeWebs(peg, laws);
            if (unlike > most) {
                most = unlike;
                best = peg;
            }
        }
        return best;
    }

    public int flies(int peg, int law, int seed, int n) {
        if (!canBeTold(peg, law) || n < 0 || n > MOST_FLIES) {
            return BAD;
        }
        if (isHidden(peg)) {
            return NOT;
        }
        Spider spider = lay(spiders[0], frame, peg, law, hidden);
        int lot = seed;
        int caught = 0;
        for (int k = 0; k < n; k++) {
            lot = nextLot(lot);
            int x = placeByLot(lot);
            lot = nextLot(lot);
            int y = placeByLot(lot);
            if (isCaught(spider, x, y)) {
                caught++;
            }
        }
        return caught;
    }

    public int dew(int peg, int law, int s) {
        if (!canBeTold(peg, law) || !isSheet(s)) {
            return BAD;
        }
        Sheet drops = sheets[s];
        if (drops.lost) {
            return found(NULL);
        }
        if (isHidden(peg)) {
            return NOT;
        }
        Spider spider = lay(spiders[0], frame, peg, law, hidden);
        for (int i = 0; i < drops.size && i + 1 < spider.size; i++) {
            if (drops.items[i] > frame.apart(spider.row[i], spider.row[i + 1])) {
                return i;
            }
        }
        return NONE;
    }

    // ---- sheets

    public int sheet(int s, int form, int n) {
        if (!isSheet(s) || !isForm(form) || n > MOST_ITEMS) {
            return BAD;
        }
        if (n < 0) {
            return found(SIZE);
        }
        sheets[s].renew(form, n);
        return n;
    }

    public int lose(int s) {
        if (!isSheet(s)) {
            return BAD;
        }
        if (sheets[s].lost) {
            return found(NULL);
        }
        sheets[s].lost = true;
        return sheets[s].size;
    }

    public int put(int s, int form, int i, int v) {
        int refusal = refusalOfItem(s, form, i);
        if (refusal != WELL) {
            return refusal;
        }
        sheets[s].store(i, v);
        return 1;
    }

    public int get(int s, int form, int i) {
        if (refusalOfItem(s, form, i) != WELL) {
            return LEAST;
        }
        return sheets[s].items[i];
    }

    public int copy(int s, int i, int t, int j, int n) {
        if (!isSheet(s) || !isSheet(t)) {
            return BAD;
        }
        Sheet from = sheets[s];
        Sheet to = sheets[t];
        if (from.lost || to.lost) {
            return found(NULL);
        }
        if (from.form != to.form) {
            return found(STORE);
        }
        if (!from.hasRun(i, n) || !to.hasRun(j, n)) {
            return found(INDEX);
        }
        System.arraycopy(from.items, i, to.items, j, n);
        return 1;
    }

    public int write(int peg, int law, int s) {
        if (!canBeTold(peg, law) || !isSheet(s)) {
            return BAD;
        }
        Sheet to = sheets[s];
        if (to.lost) {
            return found(NULL);
        }
        if (isHidden(peg)) {
            return NOT;
        }
        Spider spider = lay(spiders[0], frame, peg, law, hidden);
        int n = Math.min(to.size, spider.size);
        for (int i = 0; i < n; i++) {
            to.store(i, spider.row[i]);
        }
        return n;
    }

    public int count(int what) {
        switch (what) {
            case 0: return frame.size;
            case 1: return text.size;
            case 2: return Integer.bitCount(frame.all() & hidden);
            case 3: return thread;
            case 4: return hunger;
            case 5: return reach;
            case 6: return notes.size;
            case 7: return frame.apartOfAllPairs();
            case 8: return latestFinding;
            default: return BAD;
        }
    }

    public long digest() {
        long h = 17;
        for (int what = 0; what < 8; what++) {
            h = 31 * h + count(what);
        }
        h = 31 * h + fault();
        for (int peg = 0; peg < frame.size; peg++) {
            for (int law = 0; law < LAWS; law++) {
                h = mixWeb(h, peg, law);
            }
        }
        for (int law = 0; law < LAWS; law++) {
            h = 31 * h + begin(law);
        }
        for (int what = 0; what < 2; what++) {
            h = 31 * h + last(0, 0, 1, what);
        }
        for (int what = 0; what < 3; what++) {
            h = 31 * h + two(0, 0, 1, 1, what);
        }
        h = 31 * h + more(0, 0, 5, 5);
        h = 31 * h + fits();
        return 31 * h + tells();
    }

    private long mixWeb(long before, int peg, int law) {
        long h = before;
        for (int what = 0; what < 3; what++) {
            h = 31 * h + length(peg, law, what);
        }
        h = 31 * h + crosses(peg, law);
        h = 31 * h + turned(peg, law);
        h = 31 * h + web(peg, law, 1);
        h = 31 * h + hangs(peg, law, 0);
        h = 31 * h + pieces(peg, law, 1);
        return 31 * h + flies(peg, law, 7, 9);
    }

    // ---- what is as told, and what was found

    private static boolean isLaw(int law) {
        return law >= 0 && law < LAWS;
    }

    private static boolean isForm(int form) {
        return form >= BYTES && form <= INTS;
    }

    private static boolean isSheet(int s) {
        return s >= 0 && s < SHEETS;
    }

    private boolean canBeTold(int peg, int law) {
        return frame.has(peg) && isLaw(law);
    }

    private boolean isHidden(int peg) {
        return (hidden >> peg & 1) == 1;
    }

    private void setHidden(int peg, int v) {
        hidden = (hidden & ~(1 << peg)) | (v << peg);
    }

    private int found(int finding) {
        latestFinding = finding;
        return -10 - finding;
    }

    private int refusalOfItem(int s, int form, int i) {
        if (!isSheet(s) || !isForm(form)) {
            return BAD;
        }
        Sheet told = sheets[s];
        if (told.lost) {
            return found(NULL);
        }
        if (told.form != form) {
            return found(CAST);
        }
        return i < 0 || i >= told.size ? found(INDEX) : WELL;
    }

    // ---- how webs are laid

    /** Lets a spider lay her web on a frame without some pegs (as bits); answers her. */
    private Spider lay(Spider spider, Frame on, int peg, int law, int without) {
        spider.startAt(peg, law, thread);
        int free = on.all() & ~without & ~(1 << peg);
        for (int k = 1; k < on.size; k++) {
            int to = on.choose(law, spider.here(), free);
            if (to == NONE || !spider.goOn(to, on.apart(spider.here(), to), hunger)) {
                break;
            }
            free &= ~(1 << to);
        }
        return spider;
    }

    /** Lets two spiders step till neither can; answers the peg of the last step, or NONE. */
    private int stepInTurn(Spider first, Spider second) {
        int free = frame.all() & ~hidden & ~(1 << first.here()) & ~(1 << second.here());
        int lastStep = NONE;
        int inVain = 0;
        // Each step takes a free peg and at most one turn in vain lies before it, so this bound is never met.
        for (int turn = 0; turn < 4 * MOST_PEGS && inVain < 2; turn++) {
            Spider spider = turn % 2 == 0 ? first : second;
            int to = frame.choose(spider.law, spider.here(), free);
            if (to != NONE && spider.goOn(to, frame.apart(spider.here(), to), hunger)) {
                free &= ~(1 << to);
                lastStep = to;
                inVain = 0;
            } else {
                inVain++;
            }
        }
        return lastStep;
    }

    private static int neighbours(Spider spider, int peg) {
        int place = spider.placeOf(peg);
        if (place == NONE) {
            return 0;
        }
        return (place > 0 ? 1 : 0) + (place + 1 < spider.size ? 1 : 0);
    }

    /** The fewest pegs, as bits, without which the web ends at the told one; NONE: there are none such. */
    private int fewestHiddenFor(int peg, int law, int end) {
        int allowed = frame.all() & ~hidden & ~(1 << peg) & ~(1 << end);
        int best = NONE;
        int fewest = MOST_PEGS + 1;
        // Upwards, so that of like ones the least bits are met first.
        for (int bits = 0; bits <= allowed; bits++) {
            if ((bits & ~allowed) != 0 || Integer.bitCount(bits) >= fewest) {
                continue;
            }
            Spider spider = lay(spiders[0], frame, peg, law, hidden | bits);
            if (spider.here() == end) {
                best = bits;
                fewest = Integer.bitCount(bits);
            }
        }
        return best;
    }

    // ---- what was seen, and what is caught

    private boolean comesOut(int law) {
        for (int k = 0; k < notes.size; k++) {
            int from = notes.from[k];
            if (!frame.has(from) || isHidden(from)) {
                return false;
            }
            Spider spider = lay(spiders[0], frame, from, law, hidden);
            int i = notes.turn[k];
            if (i >= spider.size || spider.row[i] != notes.peg[k]) {
                return false;
            }
        }
        return true;
    }

    /** How many unlike webs the laws (as bits) lay from a peg. */
    private int unlikeWebs(int peg, int laws) {
        int unlike = 0;
        for (int law = 0; law < LAWS; law++) {
            if ((laws >> law & 1) == 0) {
                continue;
            }
            Spider spider = lay(spiders[law], frame, peg, law, hidden);
            boolean isNew = true;
            for (int other = 0; other < law; other++) {
                if ((laws >> other & 1) == 1 && spider.hasRowOf(spiders[other])) {
                    isNew = false;
                }
            }
            if (isNew) {
                unlike++;
            }
        }
        return unlike;
    }

    private static int nextLot(int lot) {
        return 1103515245 * lot + 12345;
    }

    private static int placeByLot(int lot) {
        return (lot >>> 16) % PLACES;
    }

    private boolean isCaught(Spider spider, int x, int y) {
        for (int i = 0; i < spider.size; i++) {
            if (frame.apartFrom(spider.row[i], x, y) <= reach) {
                return true;
            }
        }
        return false;
    }

    /** The bytes that were typed. */
    private static final class Text {
        private final int[] bytes = new int[MOST_BYTES];
        private int size = 0;

        void append(int b) {
            if (size < MOST_BYTES) {
                bytes[size] = b;
                size++;
            }
        }

        void shorten(int left) {
            if (left >= 0 && left < size) {
                size = left;
            }
        }

        /** Puts the pegs of the text on a frame, none with a fault; answers the fault's place, or NONE. */
        int pegsTo(Frame frame) {
            frame.size = 0;
            int place = 0;
            while (place < size && goesOn(frame, place)) {
                if (place % 3 == 1) {
                    frame.add(bytes[place - 1] - '0', bytes[place] - '0');
                }
                place++;
            }
            // Ended well: nothing was typed, or the last byte was a y.
            if (place == size && (size == 0 || size % 3 == 2)) {
                return NONE;
            }
            frame.size = 0;
            return place;
        }

        /** Whether the byte at a place can stand behind those before it, whose pegs are on the frame. */
        private boolean goesOn(Frame frame, int place) {
            int b = bytes[place];
            if (place % 3 == 2) {
                return b == ';';
            }
            if (b < '0' || b > '9' || frame.size >= MOST_PEGS) {
                return false;
            }
            return place % 3 == 0 || !frame.isTaken(bytes[place - 1] - '0', b - '0');
        }
    }

    /** Pegs by their numbers, and how they lie to each other. */
    private static final class Frame {
        private final int[] x = new int[MOST_PEGS];
        private final int[] y = new int[MOST_PEGS];
        private int size = 0;

        boolean has(int peg) {
            return peg >= 0 && peg < size;
        }

        int all() {
            return (1 << size) - 1;
        }

        void add(int atX, int atY) {
            if (size < MOST_PEGS) {
                x[size] = atX;
                y[size] = atY;
                size++;
            }
        }

        boolean isTaken(int atX, int atY) {
            for (int peg = 0; peg < size; peg++) {
                if (x[peg] == atX && y[peg] == atY) {
                    return true;
                }
            }
            return false;
        }

        void become(Frame other) {
            size = 0;
            for (int peg = 0; peg < other.size; peg++) {
                add(other.x[peg], other.y[peg]);
            }
        }

        void becomeTurned(Frame other) {
            size = 0;
            for (int peg = 0; peg < other.size; peg++) {
                add(PLACES - 1 - other.y[peg], other.x[peg]);
            }
        }

        int apart(int a, int b) {
            return Math.abs(x[a] - x[b]) + Math.abs(y[a] - y[b]);
        }

        int apartFrom(int peg, int atX, int atY) {
            return Math.abs(x[peg] - atX) + Math.abs(y[peg] - atY);
        }

        int apartOfAllPairs() {
            int sum = 0;
            for (int a = 0; a < size; a++) {
                for (int b = a + 1; b < size; b++) {
                    sum += apart(a, b);
                }
            }
            return sum;
        }

        /** The peg, of the free ones (as bits), to which a law leads from another; NONE: none is free. */
        int choose(int law, int from, int free) {
            int best = NONE;
            int bestRank = 0;
            for (int to = 0; to < size; to++) {
                if ((free >> to & 1) == 0) {
                    continue;
                }
                int rank = law == NEAREST ? apart(from, to)
                    : law == FARTHEST ? -apart(from, to)
                    : law == BY_NUMBERS ? behindByNumbers(from, to)
                    : behindByRows(from, to);
                if (best == NONE || rank < bestRank) {
                    best = to;
                    bestRank = rank;
                }
            }
            return best;
        }

        /** How far behind a peg another one comes, as the numbers go round. */
        private static int behindByNumbers(int from, int to) {
            return to > from ? to - from : to - from + MOST_PEGS;
        }

        /** How far behind a peg another one comes, as the places of all rows go round. */
        private int behindByRows(int from, int to) {
            int on = (y[to] - y[from]) * PLACES + x[to] - x[from];
            return on > 0 ? on : on + PLACES * PLACES;
        }

        /** Whether the straight pieces from a to b and from c to d have a point in common. */
        boolean meet(int a, int b, int c, int d) {
            // The boxes decide where all four lie in one line and no side tells anything.
            return overlap(x[a], x[b], x[c], x[d]) && overlap(y[a], y[b], y[c], y[d])
                && side(a, b, c) * side(a, b, d) <= 0
                && side(c, d, a) * side(c, d, b) <= 0;
        }

        private static boolean overlap(int a, int b, int c, int d) {
            return Math.max(a, b) >= Math.min(c, d) && Math.max(c, d) >= Math.min(a, b);
        }

        /** Above 0 on one side of the line from a to b, below 0 on the other one, 0 on it. */
        private int side(int a, int b, int c) {
            return (x[b] - x[a]) * (y[c] - y[a]) - (y[b] - y[a]) * (x[c] - x[a]);
        }
    }

    /** One spider: the web that she has laid, and the thread that she has left. */
    private static final class Spider {
        private final int[] row = new int[MOST_PEGS];
        private int size = 0;
        private int law = 0;
        private int way = 0;
        private int left = 0;

        void startAt(int peg, int herLaw, int thread) {
            row[0] = peg;
            size = 1;
            law = herLaw;
            way = 0;
            left = thread;
        }

        int here() {
            return size > 0 ? row[size - 1] : 0;
        }

        /** Goes to a peg, if her thread is enough; answers whether it was. */
        boolean goOn(int peg, int far, int hunger) {
            if (size >= MOST_PEGS || far + hunger > left) {
                return false;
            }
            row[size] = peg;
            size++;
            way += far;
            left -= far + hunger;
            return true;
        }

        int placeOf(int peg) {
            for (int i = 0; i < size; i++) {
                if (row[i] == peg) {
                    return i;
                }
            }
            return NONE;
        }

        boolean hasRowOf(Spider other) {
            if (size != other.size) {
                return false;
            }
            for (int i = 0; i < size; i++) {
                if (row[i] != other.row[i]) {
                    return false;
                }
            }
            return true;
        }
    }

    /** What was seen: who began at one peg was at another one as the so-manieth. */
    private static final class Notes {
        private final int[] from = new int[MOST_SEEN];
        private final int[] turn = new int[MOST_SEEN];
        private final int[] peg = new int[MOST_SEEN];
        private int size = 0;

        void add(int began, int i, int was) {
            if (size < MOST_SEEN) {
                from[size] = began;
                turn[size] = i;
                peg[size] = was;
                size++;
            }
        }
    }

    /** A row of items of one form; its room is made once and used again. */
    private static final class Sheet {
        private final int[] items = new int[MOST_ITEMS];
        private boolean lost = true;
        private int form = BYTES;
        private int size = 0;

        void renew(int newForm, int n) {
            lost = false;
            form = newForm;
            size = Math.min(n, MOST_ITEMS);
            for (int i = 0; i < size; i++) {
                items[i] = 0;
            }
        }

        void store(int i, int v) {
            if (i < 0 || i >= size) {
                return;
            }
            switch (form) {
                case BYTES: items[i] = (byte) v; break;
                case SHORTS: items[i] = (short) v; break;
                default: items[i] = v;
            }
        }

        /** Whether n items lie there from place i on. */
        boolean hasRun(int i, int n) {
            return i >= 0 && n >= 0 && i <= size && n <= size - i;
        }
    }
}
