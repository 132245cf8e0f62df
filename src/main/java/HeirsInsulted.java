/**
 * Each heir of a will gets what he would least have liked, by what he says, and may change it only
 * with one who minds it more. The promises are numbered in DOC.md.
 */
public final class HeirsInsulted {
    public static final int NONE = -1, UNKNOWN = -101, OUTSIDE = -102, STATE = -103, FULL = -104;

    private static final int HEIR = 0, SHAMMER = 1, PRIEST = 2, LAWYER = 3, ACTOR = 4;
    private static final int KINDS = 5;
    private static final String KIND_LETTERS = "hspla";

    private static final int LEAST_HEIRS = 2, MOST_HEIRS = 4, THINGS = 4;
    private static final int MOST_WORTH = 9, CONTENT_FROM = 5, PRIEST_SAYS = 5;

    private static final int MOST_LETTERS = 25;
    // an heir's letters with the comma behind him; the last one has none
    private static final int HEIR_LETTERS = 6, WILL_LETTERS = MOST_HEIRS * HEIR_LETTERS - 1;

    // four things lie with four heirs in so many ways at most
    private static final int MOST_WAYS = 24;
    private static final int THING_BITS = 2, THING_MASK = 3;
    private static final int ALL_LIES = 1 << (THING_BITS * MOST_HEIRS);

    // what may be said of a change: these, added
    private static final int WISHED = 1, ALLOWED = 2;

    private static final int MOST_HEARD = 6;
    private static final int MOST_TIMES = 60;
    private static final int WORTHS_FROM = 10, SAYINGS_FROM = 20, WORST_FROM = 10;
    private static final int COUNTS = 7;

    private final Page page;
    private final Estate estate;
    private final Ends found;
    private final Standing kept;
    private int readings;
    // the reading whose will the image is of; 0: none was kept
    private int keptReading;

    public HeirsInsulted() {
        page = new Page();
        estate = new Estate();
        found = new Ends();
        kept = new Standing();
        readings = 0;
        keptReading = 0;
    }

    // ---- the will

    public int letter(int code) {
        if (code < 32 || code > 126) {
            return OUTSIDE;
        }
        if (page.letters >= MOST_LETTERS) {
            return FULL;
        }
        page.write(code);
        return page.letters;
    }

    public int blank() {
        int had = page.letters;
        page.letters = 0;
        return had;
    }

    public int fault() {
        return page.firstFault();
    }

    public int will() {
        int named = page.heirsNamed();
        if (named == 0) {
            return STATE;
        }
        estate.takeFrom(page, named);
        page.letters = 0;
        readings++;
        return named;
    }

    // ---- heirs

    public int about(int heir, int what) {
        if (!estate.knows(heir)) {
            return UNKNOWN;
        }
        if (isThing(what - WORTHS_FROM)) {
            return estate.now.worths.at(heir, what - WORTHS_FROM);
        }
        if (isThing(what - SAYINGS_FROM)) {
            return estate.saidBy(heir, what - SAYINGS_FROM);
        }
        switch (what) {
            case 0:
                return estate.kinds.get(heir);
            case 1:
                return estate.thingOf(heir);
            case 2:
                return estate.isContent(estate.now.lie, heir) ? 1 : 0;
            case 3:
                return estate.now.made.get(heir);
            default:
                return OUTSIDE;
        }
    }

    public int as(int heir, int kind) {
        if (!estate.knows(heir)) {
            return UNKNOWN;
        }
        if (kind < 0 || kind >= KINDS) {
            return OUTSIDE;
        }
        return isA(estate.kinds.get(heir), kind) ? heir : NONE;
    }

    public int has(int thing) {
        if (!isThing(thing) || estate.heirs == 0) {
            return UNKNOWN;
        }
        return estate.ownerOf(thing);
    }

    public int worth(int heir, int thing, int v) {
        if (!estate.knows(heir) || !isThing(thing)) {
            return UNKNOWN;
        }
        if (v < 0 || v > MOST_WORTH) {
            return OUTSIDE;
        }
        int was = estate.now.worths.at(heir, thing);
        estate.now.worths.put(heir, thing, v);
        return was;
    }

    public int deal() {
        if (estate.heirs == 0) {
            return STATE;
        }
        int before = estate.now.lie;
        estate.now.lie = estate.dealt();
        return estate.unlikeIn(before, estate.now.lie);
    }

    public int may(int a, int b) {
        if (!areTwo(a, b)) {
            return UNKNOWN;
        }
        return estate.mayIn(estate.now.lie, a, b);
    }

    public int change(int a, int b) {
        if (!areTwo(a, b)) {
            return UNKNOWN;
        }
        if (estate.mayIn(estate.now.lie, a, b) < ALLOWED) {
            return STATE;
        }
        estate.now.lie = estate.changed(estate.now.lie, a, b);
        estate.now.noteChange(a, b);
        return estate.now.changes;
    }

    // ---- what would be

    public int ends(int what) {
        if (what < 0 || what > 3) {
            return OUTSIDE;
        }
        if (estate.heirs == 0) {
            return STATE;
        }
        found.seek(estate);
        switch (what) {
            case 0:
                return found.number;
            case 1:
                return found.greatest;
            case 2:
                return found.least;
            default:
                return found.fewest;
        }
    }

    public int served(int heir, int what) {
        if (!estate.knows(heir)) {
            return UNKNOWN;
        }
        if (what < 0 || what > 1) {
            return OUTSIDE;
        }
        int own = estate.kinds.get(heir);
        int best = NONE;
        int most = NONE;
        for (int kind = 0; kind < KINDS; kind++) {
            // he is of this kind only while it is looked at what the deal would bring him
            estate.kinds.set(heir, kind);
            int gets = estate.worthIn(estate.dealt(), heir);
            if (gets > most) {
                best = kind;
                most = gets;
            }
        }
        estate.kinds.set(heir, own);
        return what == 0 ? best : most;
    }

    public int worst(int what) {
        int heir = what - WORST_FROM;
        boolean ofHeir = heir >= 0 && heir < MOST_HEIRS;
        if (what != 0 && !ofHeir) {
            return OUTSIDE;
        }
        if (estate.heirs == 0) {
            return STATE;
        }
        if (ofHeir && !estate.knows(heir)) {
            return NONE;
        }
        int lie = estate.worstLie();
        return ofHeir ? estate.thingIn(lie, heir) : estate.sumOf(lie);
    }

    // ---- what is heard

    public int hear(int heir, int a, int b, boolean more) {
        if (!estate.knows(heir) || !isThing(a) || !isThing(b) || a == b) {
            return UNKNOWN;
        }
        if (estate.now.heard >= MOST_HEARD) {
            return FULL;
        }
        estate.now.noteHeard(heir, a, b, more);
        return estate.now.heard;
    }

    public int forget() {
        int had = estate.now.heard;
        estate.now.heard = 0;
        return had;
    }

    public int truths(int heir, int thing) {
        if (!estate.knows(heir) || !isThing(thing)) {
            return UNKNOWN;
        }
        int bits = 0;
        for (int v = 0; v <= MOST_WORTH; v++) {
            if (estate.wouldBeSo(heir, thing, v)) {
                bits |= 1 << v;
            }
        }
        return bits;
    }

    public int ask(int heir, int thing) {
        if (!estate.knows(heir) || !isThing(thing)) {
            return UNKNOWN;
        }
        int bits = truths(heir, thing);
        if (bits == 0) {
            return NONE;
        }
        int best = NONE;
        int fewest = MOST_WORTH + 2;
        for (int other = 0; other < THINGS; other++) {
            int left = leftAtWorst(bits, estate.now.worths.at(heir, other));
            if (other != thing && left < fewest) {
                best = other;
                fewest = left;
            }
        }
        return best;
    }

    public int years(int times, int seed, int what) {
        if (times < 1 || times > MOST_TIMES || seed < 0 || what < 0 || what > 2) {
            return OUTSIDE;
        }
        if (estate.heirs == 0) {
            return STATE;
        }
        int lie = estate.now.lie;
        int done = 0;
        int next = seed;
        for (int time = 0; time < times; time++) {
            next = nextSeed(next);
            int a = drawn(next, estate.heirs);
            next = nextSeed(next);
            int b = drawn(next, estate.heirs);
            if (a != b && estate.mayIn(lie, a, b) == ALLOWED + WISHED) {
                lie = estate.changed(lie, a, b);
                done++;
            }
        }
        if (what == 0) {
            return done;
        }
        return what == 1 ? estate.contentIn(lie) : next;
    }

    // ---- what is told of all

    public int image() {
        if (estate.heirs == 0) {
            return STATE;
        }
        kept.takeFrom(estate.now);
        keptReading = readings;
        return kept.changes;
    }

    public int restore() {
        if (keptReading == 0 || keptReading != readings) {
            return STATE;
        }
        estate.now.takeFrom(kept);
        return estate.now.changes;
    }

    public int count(int what) {
        switch (what) {
            case 0:
                return estate.heirs;
            case 1:
                return estate.contentIn(estate.now.lie);
            case 2:
                return estate.now.changes;
            case 3:
                return estate.sumOf(estate.now.lie);
            case 4:
                return estate.now.heard;
            case 5:
                return page.letters;
            case 6:
                return readings;
            default:
                return OUTSIDE;
        }
    }

    public long digest() {
        long h = 907;
        if (estate.heirs != 0) {
            for (int thing = 0; thing < THINGS; thing++) {
                h = with(h, has(thing));
            }
            for (int what = 0; what <= 3; what++) {
                h = with(h, ends(what));
            }
            h = with(h, worst(0));
            for (int heir = 0; heir < MOST_HEIRS; heir++) {
                h = with(h, worst(WORST_FROM + heir));
            }
        }
        for (int heir = 0; heir < MOST_HEIRS && heir < estate.heirs; heir++) {
            h = withHeir(h, heir);
        }
        for (int place = 0; place < MOST_LETTERS && place < page.letters; place++) {
            h = with(h, page.codes.get(place));
        }
        for (int what = 0; what < COUNTS; what++) {
            h = with(h, count(what));
        }
        return h;
    }

    private static long with(long h, int number) {
        return 31 * h + number;
    }

    private long withHeir(long before, int heir) {
        long h = before;
        for (int what = 0; what <= 3; what++) {
            h = with(h, about(heir, what));
        }
        for (int thing = 0; thing < THINGS; thing++) {
            h = with(h, about(heir, WORTHS_FROM + thing));
        }
        for (int thing = 0; thing < THINGS; thing++) {
            h = with(h, about(heir, SAYINGS_FROM + thing));
        }
        h = with(h, served(heir, 0));
        h = with(h, served(heir, 1));
        for (int thing = 0; thing < THINGS; thing++) {
            h = with(h, truths(heir, thing));
            h = with(h, ask(heir, thing));
        }
        return h;
    }

    private boolean areTwo(int a, int b) {
        return estate.knows(a) && estate.knows(b) && a != b;
    }

    private static boolean isThing(int thing) {
        return thing >= 0 && thing < THINGS;
    }

    private static boolean isA(int own, int kind) {
        return kind == HEIR || kind == own || (kind == SHAMMER && own == ACTOR);
    }

    private static int leftAtWorst(int bits, int other) {
        int above = Integer.bitCount(bits >> (other + 1));
        return Math.max(above, Integer.bitCount(bits) - above);
    }

    private static int nextSeed(int seed) {
        // the mask is the rest by 2 to the 31
        return (int) ((1103515245L * seed + 12345L) & 0x7fffffffL);
    }

    private static int drawn(int seed, int of) {
        return of <= 0 ? 0 : (seed / 65536) % of;
    }

    /** A row of numbers that looks at every index itself, so that the machine never throws. */
    private static final class Row {
        private final int[] cells;

        Row(int length) {
            cells = new int[Math.max(0, length)];
        }

        int get(int index) {
            return index >= 0 && index < cells.length ? cells[index] : 0;
        }

        void set(int index, int number) {
            if (index >= 0 && index < cells.length) {
                cells[index] = number;
            }
        }

        void takeFrom(Row other) {
            for (int i = 0; other != null && i < cells.length && i < other.cells.length; i++) {
                cells[i] = other.cells[i];
            }
        }
    }

    /** A number for each heir and thing, as careful as a row. */
    private static final class Table {
        private final int[] cells = new int[MOST_HEIRS * THINGS];

        int at(int heir, int thing) {
            int cell = heir * THINGS + thing;
            return cell >= 0 && cell < cells.length ? cells[cell] : 0;
        }

        void put(int heir, int thing, int number) {
            int cell = heir * THINGS + thing;
            if (cell >= 0 && cell < cells.length) {
                cells[cell] = number;
            }
        }

        void takeFrom(Table other) {
            for (int i = 0; other != null && i < cells.length && i < other.cells.length; i++) {
                cells[i] = other.cells[i];
            }
        }
    }

    /** The letters of which a will may come to be. */
    private static final class Page {
        private final Row codes = new Row(MOST_LETTERS);
        private int letters;

        void write(int code) {
            codes.set(letters, code);
            letters++;
        }

        int firstFault() {
            for (int place = 0; place < MOST_LETTERS && place < letters; place++) {
                if (!fits(place, codes.get(place))) {
                    return place;
                }
            }
            return letters;
        }

        /** How many heirs it has as a will; 0 if it is none. */
        int heirsNamed() {
            // the comma that the last heir lacks makes all heirs as long
            int heirs = (letters + 1) / HEIR_LETTERS;
            boolean whole = (letters + 1) % HEIR_LETTERS == 0 && heirs >= LEAST_HEIRS;
            return whole && firstFault() == letters ? heirs : 0;
        }

        int kindOf(int heir) {
            return kindCalled(codes.get(heir * HEIR_LETTERS));
        }

        int digitOf(int heir, int thing) {
            return codes.get(heir * HEIR_LETTERS + 1 + thing) - '0';
        }

        private static boolean fits(int place, int code) {
            if (place >= WILL_LETTERS) {
                return false;
            }
            int part = place % HEIR_LETTERS;
            if (part == 0) {
                return kindCalled(code) != NONE;
            }
            return part <= THINGS ? code >= '0' && code <= '9' : code == ',';
        }

        private static int kindCalled(int code) {
            return KIND_LETTERS.indexOf((char) code);
        }
    }

    /** What an image keeps: all of a will that can become another. */
    private static final class Standing {
        private final Table worths = new Table();
        private final Row made = new Row(MOST_HEIRS);
        private final Row heardOf = new Row(MOST_HEARD);
        private final Row heardThing = new Row(MOST_HEARD);
        private final Row heardOther = new Row(MOST_HEARD);
        private final Row heardMore = new Row(MOST_HEARD);
        private int lie;
        private int changes;
        private int heard;

        void forgetAll() {
            for (int heir = 0; heir < MOST_HEIRS; heir++) {
                made.set(heir, 0);
            }
            changes = 0;
            heard = 0;
        }

        void noteChange(int a, int b) {
            made.set(a, made.get(a) + 1);
            made.set(b, made.get(b) + 1);
            changes++;
        }

        void noteHeard(int heir, int thing, int other, boolean more) {
            heardOf.set(heard, heir);
            heardThing.set(heard, thing);
            heardOther.set(heard, other);
            heardMore.set(heard, more ? 1 : 0);
            heard++;
        }

        void takeFrom(Standing other) {
            if (other == null) {
                return;
            }
            worths.takeFrom(other.worths);
            made.takeFrom(other.made);
            heardOf.takeFrom(other.heardOf);
            heardThing.takeFrom(other.heardThing);
            heardOther.takeFrom(other.heardOther);
            heardMore.takeFrom(other.heardMore);
            lie = other.lie;
            changes = other.changes;
            heard = other.heard;
        }
    }

    /**
     * The will (without heirs: there is none) and its things. A LIE is a way in which they lie: the
     * thing of each heir by two bits, the eldest's highest, so that lies in order are first by the
     * thing of heir 0.
     */
    private static final class Estate {
        private final Row kinds = new Row(MOST_HEIRS);
        private final Standing now = new Standing();
        private int heirs;

        void takeFrom(Page page, int named) {
            if (page == null) {
                return;
            }
            heirs = named;
            for (int heir = 0; heir < MOST_HEIRS && heir < heirs; heir++) {
                kinds.set(heir, page.kindOf(heir));
                for (int thing = 0; thing < THINGS; thing++) {
                    now.worths.put(heir, thing, page.digitOf(heir, thing));
                }
            }
            now.forgetAll();
            now.lie = dealt();
        }

        boolean knows(int heir) {
            return heir >= 0 && heir < heirs;
        }

        int saidBy(int heir, int thing) {
            // ahead of heir 0 nothing is said, so that as a lawyer he says 9, as the document has it
            int said = 0;
            for (int each = 0; each < MOST_HEIRS && each <= heir; each++) {
                said = saidAs(kinds.get(each), now.worths.at(each, thing), said);
            }
            return said;
        }

        private static int saidAs(int kind, int worth, int saidAhead) {
            switch (kind) {
                case SHAMMER:
                    return MOST_WORTH - worth;
                case PRIEST:
                    return PRIEST_SAYS;
                case LAWYER:
                    return MOST_WORTH - saidAhead;
                case ACTOR:
                    return worth >= CONTENT_FROM ? MOST_WORTH - worth : 0;
                default:
                    return worth;
            }
        }

        /** How things lie behind the deal. */
        int dealt() {
            int lie = 0;
            int gone = 0;
            for (int heir = 0; heir < MOST_HEIRS && heir < heirs; heir++) {
                int thing = leastSaid(heir, gone);
                gone |= 1 << thing;
                lie = placed(lie, heir, thing);
            }
            return lie;
        }

        private int leastSaid(int heir, int gone) {
            int best = 0;
            int least = MOST_WORTH + 1;
            for (int thing = 0; thing < THINGS; thing++) {
                int said = saidBy(heir, thing);
                if (((gone >> thing) & 1) == 0 && said < least) {
                    best = thing;
                    least = said;
                }
            }
            return best;
        }

        int thingIn(int lie, int heir) {
            return (lie >> (THING_BITS * (heirs - 1 - heir))) & THING_MASK;
        }

        private int placed(int lie, int heir, int thing) {
            int shift = THING_BITS * (heirs - 1 - heir);
            return (lie & ~(THING_MASK << shift)) | (thing << shift);
        }

        int thingOf(int heir) {
            return thingIn(now.lie, heir);
        }

        int ownerOf(int thing) {
            for (int heir = 0; heir < MOST_HEIRS && heir < heirs; heir++) {
                if (thingOf(heir) == thing) {
                    return heir;
                }
            }
            return NONE;
        }

        int unlikeIn(int lie, int other) {
            int unlike = 0;
            for (int heir = 0; heir < MOST_HEIRS && heir < heirs; heir++) {
                if (thingIn(lie, heir) != thingIn(other, heir)) {
                    unlike++;
                }
            }
            return unlike;
        }

        int worthIn(int lie, int heir) {
            return now.worths.at(heir, thingIn(lie, heir));
        }

        int sumOf(int lie) {
            int sum = 0;
            for (int heir = 0; heir < MOST_HEIRS && heir < heirs; heir++) {
                sum += worthIn(lie, heir);
            }
            return sum;
        }

        boolean isContent(int lie, int heir) {
            return worthIn(lie, heir) >= CONTENT_FROM;
        }

        int contentIn(int lie) {
            int content = 0;
            for (int heir = 0; heir < MOST_HEIRS && heir < heirs; heir++) {
                if (isContent(lie, heir)) {
                    content++;
                }
            }
            return content;
        }

        /** Whether a change of two would be allowed and wished, if things lay so. */
        int mayIn(int lie, int a, int b) {
            int ofA = thingIn(lie, a);
            int ofB = thingIn(lie, b);
            boolean allowed = saidBy(a, ofB) < saidBy(b, ofB) && saidBy(b, ofA) < saidBy(a, ofA);
            boolean wished = now.worths.at(a, ofB) > now.worths.at(a, ofA)
                    && now.worths.at(b, ofA) > now.worths.at(b, ofB);
            return (allowed ? ALLOWED : 0) + (wished ? WISHED : 0);
        }

        int changed(int lie, int a, int b) {
            return placed(placed(lie, a, thingIn(lie, b)), b, thingIn(lie, a));
        }

        int worstLie() {
            int worst = 0;
            int least = MOST_HEIRS * MOST_WORTH + 1;
            for (int lie = 0; lie < ALL_LIES && lie < 1 << (THING_BITS * heirs); lie++) {
                if (isParted(lie) && sumOf(lie) < least) {
                    worst = lie;
                    least = sumOf(lie);
                }
            }
            return worst;
        }

        /** Whether each heir has another thing. */
        private boolean isParted(int lie) {
            int gone = 0;
            for (int heir = 0; heir < MOST_HEIRS && heir < heirs; heir++) {
                gone |= 1 << thingIn(lie, heir);
            }
            return Integer.bitCount(gone) == heirs;
        }

        /** Whether all that is heard of an heir would be so, if the thing were worth v to him. */
        boolean wouldBeSo(int heir, int thing, int v) {
            for (int i = 0; i < MOST_HEARD && i < now.heard; i++) {
                int one = now.heardThing.get(i);
                int other = now.heardOther.get(i);
                int worthOfOne = one == thing ? v : now.worths.at(heir, one);
                int worthOfOther = other == thing ? v : now.worths.at(heir, other);
                boolean more = now.heardMore.get(i) == 1;
                if (now.heardOf.get(i) == heir && more != worthOfOne > worthOfOther) {
                    return false;
                }
            }
            return true;
        }
    }

    /** All ends of changing; breadth first, so that each lie is come to by fewest changes. */
    private static final class Ends {
        private final Row lies = new Row(MOST_WAYS);
        private final Row steps = new Row(MOST_WAYS);
        private int reached;
        private int number;
        private int greatest;
        private int least;
        private int fewest;

        void seek(Estate estate) {
            reached = 0;
            number = 0;
            if (estate == null) {
                return;
            }
            reach(estate.now.lie, 0);
            for (int i = 0; i < MOST_WAYS && i < reached; i++) {
                if (!goesOn(estate, lies.get(i), steps.get(i) + 1)) {
                    noteEnd(estate.sumOf(lies.get(i)), steps.get(i));
                }
            }
        }

        private boolean goesOn(Estate estate, int lie, int step) {
            if (estate == null) {
                return false;
            }
            boolean on = false;
            for (int a = 0; a < MOST_HEIRS && a < estate.heirs; a++) {
                for (int b = a + 1; b < MOST_HEIRS && b < estate.heirs; b++) {
                    if (estate.mayIn(lie, a, b) == ALLOWED + WISHED) {
                        on = true;
                        reach(estate.changed(lie, a, b), step);
                    }
                }
            }
            return on;
        }

        private void reach(int lie, int step) {
            for (int i = 0; i < MOST_WAYS && i < reached; i++) {
                if (lies.get(i) == lie) {
                    return;
                }
            }
            lies.set(reached, lie);
            steps.set(reached, step);
            reached++;
        }

        private void noteEnd(int sum, int step) {
            greatest = number == 0 ? sum : Math.max(greatest, sum);
            least = number == 0 ? sum : Math.min(least, sum);
            fewest = number == 0 ? step : Math.min(fewest, step);
            number++;
        }
    }
}
