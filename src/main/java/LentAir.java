import java.util.Arrays;

/** Sounds in a valley whose air has owners. The words in capitals are those of the document. */
public final class LentAir {
    public static final int NONE = -1, BAD = -2, NO = -3, FULL = -4;

    private static final int SIDE = 6, FIRST_SIDE = 5;
    private static final int OWNERS = 6, KINDS = 6, MAKERS = 6, LEAVES = 8, UNDOS = 8, IMAGES = 2;
    private static final int DEAREST = 99, LOUDEST = 20, FIRST_CRY = 5, LAST_HOUR = 23;
    private static final int HEDGE = 1, CLIFF = 2, GROUNDS = 3;
    private static final int EARS = 1, DEAF = 2, TELLS = 3;
    private static final int BELL = 1, DOG = 2, WHISPER = 3, HORN = 4, THUNDER = 5;
    private static final int HORN_IS_FREE = 3;
    private static final int OF_MAKER = 0, OF_OWNER = 1, OF_FROM = 2, OF_TO = 3, OF_LOUD = 4, PARTS = 5;
    private static final int PAST = 1 + LEAVES * PARTS;
    private static final int TEXT = 150, LAST_BYTE = 127;
    private static final int NOT_SO_MANY = -5, BAD_TOO = -10, NO_TOO = -20, FAULT = -10;
    private static final int MENDED_CLIFFS = 8;
    private static final int LAST_SEED = 999999, CLAPS = 60, CLAP_LOUDS = 9;
    private static final int COUNTS = 6, REASONS = 3;

    private Land now;
    private Land draft;
    private final Land[] images;
    private final boolean[] kept;
    private final Sound sound;
    private final Reader reader;
    private final int[] refused;
    private final int[] heardBy;

    public LentAir() {
        now = new Land();
        draft = new Land();
        images = new Land[] {new Land(), new Land()};
        kept = new boolean[IMAGES];
        sound = new Sound(now);
        reader = new Reader(draft);
        refused = new int[REASONS];
        heardBy = new int[MAKERS];
    }

    // ---- a valley

    public int valley(int w, int h) {
        if (w < 1 || w > SIDE || h < 1 || h > SIDE) {
            return refuse(BAD);
        }
        now.lay(w, h);
        return 1;
    }

    public int put(int what, int cell, int v) {
        if (!isCell(cell) || v < 0) {
            return refuse(BAD);
        }
        if (what == 0 && v < GROUNDS) {
            return Land.sortInto(now.grounds, cell, v);
        }
        if (what == 1 && v < OWNERS) {
            return Land.sortInto(now.airs, cell, v);
        }
        return refuse(BAD);
    }

    public int fee(int owner, int n) {
        if (!isOwner(owner) || n < 0 || n > DEAREST) {
            return refuse(BAD);
        }
        return now.changeFee(owner, n);
    }

    public int maker(int kind, int cell, int owner) {
        if (kind < 0 || kind >= KINDS || !isCell(cell) || !isOwner(owner)) {
            return refuse(BAD);
        }
        if (now.makers >= MAKERS) {
            return refuse(FULL);
        }
        now.addMaker(kind, cell, owner);
        return now.makers - 1;
    }

    public int leave(int maker, int owner, int from, int to, int loud) {
        if (!isMaker(maker) || !isOwner(owner) || !isHour(from) || !isHour(to) || from > to || !isLoud(loud)) {
            return refuse(BAD);
        }
        if (now.leaves >= LEAVES) {
            return refuse(FULL);
        }
        now.keepPast();
        now.addLeave(maker, owner, from, to, loud);
        return now.leaves - 1;
    }

    public int take(int leave) {
        if (!isLeave(leave)) {
            return refuse(BAD);
        }
        now.keepPast();
        now.dropLeave(leave);
        return now.leaves;
    }

    public int undo() {
        if (now.pasts < 1) {
            return refuse(NO);
        }
        now.goBack();
        return now.leaves;
    }

    public int about(int leave, int what) {
        if (!isLeave(leave) || what < 0 || what >= PARTS) {
            return refuse(BAD);
        }
        return now.part(leave, what);
    }

    public int type(int c) {
        if (c < 0 || c > LAST_BYTE) {
            return refuse(BAD);
        }
        if (!reader.append(c)) {
            return refuse(FULL);
        }
        return reader.length;
    }

    public int clear() {
        return reader.empty();
    }

    public int read() {
        int items = reader.readInto(draft);
        if (items > 0) {
            Land old = now;
            now = draft;
            draft = old;
        }
        return items;
    }

    // ---- sounds

    public int heard(int maker, int loud, int hour, int cell) {
        if (!isSound(maker, loud, hour) || !isCell(cell)) {
            return refuse(BAD);
        }
        makeSound(maker, loud, hour);
        return sound.loudIn(cell);
    }

    public int far(int maker, int loud, int hour) {
        if (!isSound(maker, loud, hour)) {
            return refuse(BAD);
        }
        makeSound(maker, loud, hour);
        return Long.bitCount(sound.all);
    }

    public int cost(int maker, int loud, int hour) {
        if (!isSound(maker, loud, hour)) {
            return refuse(BAD);
        }
        makeSound(maker, loud, hour);
        return costOfSound(maker);
    }

    public int trespass(int maker, int loud, int hour, int i) {
        if (!isSound(maker, loud, hour) || i < NONE) {
            return refuseAs(BAD, BAD_TOO);
        }
        makeSound(maker, loud, hour);
        long is = sound.straight;
        long wouldBe = sound.straightIfFree();
        return pick(wouldBe & ~is, i);
    }

    public int carried(int maker, int loud, int hour, int i) {
        if (!isSound(maker, loud, hour) || i < NONE) {
            return refuseAs(BAD, BAD_TOO);
        }
        makeSound(maker, loud, hour);
        return pick(sound.all & ~sound.straight, i);
    }

    public long mend(int maker, int loud, int hour) {
        if (!isSound(maker, loud, hour)) {
            return refuseAs(BAD, BAD_TOO);
        }
        if (Long.bitCount(now.grounds[CLIFF]) > MENDED_CLIFFS) {
            return refuseAs(NO, NO_TOO);
        }
        makeSound(maker, loud, hour);
        return sound.carriers();
    }

    // ---- leaves, ears

    public int ears(int cell, int v) {
        if (!isCell(cell) || v < 0 || v >= TELLS) {
            return refuse(BAD);
        }
        return Land.sortInto(now.tolds, cell, v);
    }

    public int buy(int maker, int loud, int hour, int what) {
        if (!isSound(maker, loud, hour) || !isEither(what)) {
            return refuseAs(BAD, BAD_TOO);
        }
        int bestCost = NONE;
        int bestBits = NONE;
        for (int bits = 0; bits < 1 << OWNERS; bits++) {
            if ((bits >> now.selves[maker] & 1) != 0) {
                continue;
            }
            sound.make(now, maker, loud, hour, bits, 0);
            int asked = costOfSound(maker);
            if (isAsTold() && (bestBits == NONE || asked < bestCost)) {
                bestCost = asked;
                bestBits = bits;
            }
        }
        return what == 0 ? bestCost : bestBits;
    }

    public int who(int hour, int i) {
        if (!isHour(hour) || i < NONE) {
            return refuseAs(BAD, BAD_TOO);
        }
        int pairs = 0;
        for (int maker = 0; maker < now.makers; maker++) {
            for (int loud = 1; loud <= LOUDEST; loud++) {
                makeSound(maker, loud, hour);
                if (isAsTold()) {
                    if (pairs == i) {
                        return 100 * maker + loud;
                    }
                    pairs++;
                }
            }
        }
        return i == NONE ? pairs : NOT_SO_MANY;
    }

    public int still(int loud, int hour, int cell) {
        if (!isLoud(loud) || !isHour(hour) || !isCell(cell)) {
            return refuse(BAD);
        }
        int inHour = leavesIn(hour);
        // To take back more may make an ECHO less LOUD, and so let it come further. But by no LEAVE at all it comes
        // only into AIR of the CLIFF's OWNER, the further the LOUDER it is: if all is not enough, nothing is.
        if (!isStill(loud, hour, cell, inHour)) {
            return NONE;
        }
        int best = inHour;
        for (int gone = 0; gone < inHour; gone++) {
            boolean fewer = (gone & ~inHour) == 0 && Integer.bitCount(gone) < Integer.bitCount(best);
            if (fewer && isStill(loud, hour, cell, gone)) {
                best = gone;
            }
        }
        return best;
    }

    public int cry(int maker, int loud) {
        if (!isMaker(maker) || loud < 0 || loud > LOUDEST) {
            return refuse(BAD);
        }
        int was = now.cries[maker];
        now.cries[maker] = loud;
        return was;
    }

    public int criers(int from, int to, int hour, int what) {
        if (!isMaker(from) || !isMaker(to) || !isHour(hour) || !isEither(what)) {
            return refuse(BAD);
        }
        if (from == to) {
            return what == 0 ? 1 : NONE;
        }
        listen(hour);
        int near = 1 << to;
        for (int many = 2; many <= now.makers; many++) {
            if ((heardBy[from] & near) != 0) {
                return what == 0 ? many : leastOf(heardBy[from] & near);
            }
            near = behind(near);
        }
        return NONE;
    }

    // ---- lets, hours, thunder

    public int let(int owner, int to) {
        if (!isOwner(owner) || to == owner || to != NONE && !isOwner(to)) {
            return refuse(BAD);
        }
        int was = now.lets[owner];
        now.lets[owner] = to;
        return was;
    }

    public int liable(int owner) {
        if (!isOwner(owner)) {
            return refuse(BAD);
        }
        int at = owner;
        for (int step = 0; step < OWNERS; step++) {
            int next = now.letBy(at);
            if (next == NONE) {
                return at;
            }
            at = next;
        }
        return NONE;
    }

    public int rings() {
        int bits = 0;
        for (int owner = 0; owner < OWNERS; owner++) {
            int at = owner;
            for (int step = 0; step < OWNERS; step++) {
                at = now.letBy(at);
                if (at == owner) {
                    bits |= 1 << owner;
                }
            }
        }
        return bits;
    }

    public int first(int maker, int loud, int hour, int cell) {
        if (!isSound(maker, loud, hour) || !isCell(cell)) {
            return refuse(BAD);
        }
        for (int at = hour; at <= LAST_HOUR; at++) {
            makeSound(maker, loud, at);
            if (hasCell(sound.all, cell)) {
                return at;
            }
        }
        return NONE;
    }

    public int peal(int maker, int hour, int what) {
        if (!isMaker(maker) || !isHour(hour) || !isEither(what)) {
            return refuse(BAD);
        }
        int bestLoud = 0;
        int most = 0;
        for (int loud = 1; loud <= LOUDEST; loud++) {
            makeSound(maker, loud, hour);
            int cells = Long.bitCount(sound.all);
            if (cells > most) {
                bestLoud = loud;
                most = cells;
            }
        }
        return what == 0 ? bestLoud : most;
    }

    public int thunder(int seed, int n) {
        if (seed < 0 || seed > LAST_SEED || n < 0 || n > CLAPS) {
            return refuse(BAD);
        }
        int cells = now.width * now.height;
        long some = 0;
        long x = seed;
        for (int clap = 0; clap < n && cells > 0; clap++) {
            x = (x * 1103515245L + 12345L) % 2147483648L;
            long near = 1L << x / 65536 % cells;
            long loud = x / 4096 % CLAP_LOUDS + 1;
            // 1 less by each step: it is heard as many steps away as it is LOUD, less one.
            for (int steps = 1; steps < loud && steps < CLAP_LOUDS; steps++) {
                near |= now.beside(near);
            }
            some |= near;
        }
        return Long.bitCount(some);
    }

    // ---- what there is

    public int image(int i) {
        if (i < 0 || i >= IMAGES) {
            return refuse(BAD);
        }
        images[i].copyFrom(now);
        kept[i] = true;
        return 1;
    }

    public int from(int i) {
        if (i < 0 || i >= IMAGES) {
            return refuse(BAD);
        }
        if (!kept[i]) {
            return refuse(NO);
        }
        now.copyFrom(images[i]);
        return 1;
    }

    public int status(int what) {
        if (what < 0 || what >= REASONS) {
            return refuseAs(BAD, -1);
        }
        return refused[what];
    }

    public int count(int what) {
        if (what < 0 || what >= COUNTS) {
            return refuse(BAD);
        }
        return countOf(what);
    }

    public long digest() {
        long h = 829;
        for (int what = 0; what < COUNTS; what++) {
            h = 31 * h + countOf(what);
        }
        for (int cell = 0; cell < now.width * now.height; cell++) {
            h = 31 * h + Land.rowOf(now.grounds, cell);
            h = 31 * h + Land.rowOf(now.airs, cell);
            h = 31 * h + Land.rowOf(now.tolds, cell);
        }
        for (int owner = 0; owner < OWNERS; owner++) {
            h = 31 * h + now.fees[owner];
        }
        for (int owner = 0; owner < OWNERS; owner++) {
            h = 31 * h + now.lets[owner];
        }
        for (int maker = 0; maker < now.makers; maker++) {
            h = 31 * h + now.kinds[maker];
            h = 31 * h + now.cells[maker];
            h = 31 * h + now.selves[maker];
            h = 31 * h + now.cries[maker];
        }
        for (int leave = 0; leave < now.leaves; leave++) {
            for (int what = 0; what < PARTS; what++) {
                h = 31 * h + now.part(leave, what);
            }
        }
        return h;
    }

    // ---- numbers as told

    private boolean isCell(int cell) {
        return cell >= 0 && cell < now.width * now.height;
    }

    private boolean isMaker(int maker) {
        return maker >= 0 && maker < now.makers;
    }

    private boolean isLeave(int leave) {
        return leave >= 0 && leave < now.leaves;
    }

    private boolean isSound(int maker, int loud, int hour) {
        return isMaker(maker) && isLoud(loud) && isHour(hour);
    }

    private static boolean isOwner(int owner) {
        return owner >= 0 && owner < OWNERS;
    }

    private static boolean isHour(int hour) {
        return hour >= 0 && hour <= LAST_HOUR;
    }

    private static boolean isLoud(int loud) {
        return loud >= 1 && loud <= LOUDEST;
    }

    private static boolean isEither(int what) {
        return what == 0 || what == 1;
    }

    // ---- STATUS

    private int refuse(int reason) {
        return refuseAs(reason, reason);
    }

    private int refuseAs(int reason, int answer) {
        int row = BAD - reason;
        if (row >= 0 && row < REASONS) {
            refused[row]++;
        }
        return answer;
    }

    private int countOf(int what) {
        switch (what) {
            case 0:
                return now.width;
            case 1:
                return now.height;
            case 2:
                return now.makers;
            case 3:
                return now.leaves;
            case 4:
                return now.pasts;
            default:
                return reader.length;
        }
    }

    // ---- what is made of a SOUND

    private void makeSound(int maker, int loud, int hour) {
        sound.make(now, maker, loud, hour, 0, 0);
    }

    private int costOfSound(int maker) {
        int sum = 0;
        for (int owner = 0; owner < OWNERS; owner++) {
            if (owner != now.selfOf(maker)) {
                sum += now.fees[owner] * Long.bitCount(sound.straight & now.airs[owner]);
            }
        }
        return sum;
    }

    private boolean isAsTold() {
        return (now.tolds[EARS] & ~sound.all) == 0 && (now.tolds[DEAF] & sound.all) == 0;
    }

    private int leavesIn(int hour) {
        int bits = 0;
        for (int leave = 0; leave < now.leaves; leave++) {
            if (now.isIn(leave, hour)) {
                bits |= 1 << leave;
            }
        }
        return bits;
    }

    private boolean isStill(int loud, int hour, int cell, int gone) {
        for (int maker = 0; maker < now.makers; maker++) {
            sound.make(now, maker, loud, hour, 0, gone);
            if (hasCell(sound.all, cell)) {
                return false;
            }
        }
        return true;
    }

    /** Who hears whose CRY, as bits of MAKERS. */
    private void listen(int hour) {
        for (int maker = 0; maker < now.makers; maker++) {
            heardBy[maker] = 0;
            if (now.cries[maker] > 0) {
                sound.make(now, maker, now.cries[maker], hour, 0, 0);
                for (int other = 0; other < now.makers; other++) {
                    if (hasCell(sound.all, now.cells[other])) {
                        heardBy[maker] |= 1 << other;
                    }
                }
            }
        }
    }

    /** Those told and all MAKERS whom one of those hears. */
    private int behind(int near) {
        int bits = near;
        for (int maker = 0; maker < now.makers; maker++) {
            if ((heardBy[maker] & near) != 0) {
                bits |= 1 << maker;
            }
        }
        return bits;
    }

    private static int leastOf(int bits) {
        for (int i = 0; i < MAKERS; i++) {
            if ((bits >> i & 1) != 0) {
                return i;
            }
        }
        return NONE;
    }

    private static boolean hasCell(long cells, int cell) {
        return (cells >> cell & 1) != 0;
    }

    private static int pick(long cells, int i) {
        if (i == NONE) {
            return Long.bitCount(cells);
        }
        int before = 0;
        for (int cell = 0; cell < SIDE * SIDE; cell++) {
            if (hasCell(cells, cell)) {
                if (before == i) {
                    return cell;
                }
                before++;
            }
        }
        return NOT_SO_MANY;
    }

    /** THE VALLEY, all that an IMAGE keeps. Sets of CELLS are bits of a long. */
    private static final class Land {
        int width;
        int height;
        long everywhere;
        private long firstColumn;
        private long lastColumn;
        final long[] grounds = new long[GROUNDS];
        final long[] airs = new long[OWNERS];
        final long[] tolds = new long[TELLS];
        final int[] fees = new int[OWNERS];
        final int[] lets = new int[OWNERS];
        int makers;
        final int[] kinds = new int[MAKERS];
        final int[] cells = new int[MAKERS];
        final int[] selves = new int[MAKERS];
        final int[] cries = new int[MAKERS];
        int leaves;
        private final int[] parts = new int[LEAVES * PARTS];
        int pasts;
        private final int[] past = new int[UNDOS * PAST];

        Land() {
            lay(FIRST_SIDE, FIRST_SIDE);
        }

        void lay(int w, int h) {
            width = w;
            height = h;
            everywhere = (1L << w * h) - 1;
            firstColumn = 0;
            for (int y = 0; y < h; y++) {
                firstColumn |= 1L << w * y;
            }
            lastColumn = firstColumn << w - 1;
            startRows(grounds);
            startRows(airs);
            startRows(tolds);
            Arrays.fill(fees, 1);
            Arrays.fill(lets, NONE);
            makers = 0;
            leaves = 0;
            pasts = 0;
        }

        private void startRows(long[] rows) {
            for (int v = 0; v < rows.length; v++) {
                rows[v] = v == 0 ? everywhere : 0;
            }
        }

        void copyFrom(Land other) {
            width = other.width;
            height = other.height;
            everywhere = other.everywhere;
            firstColumn = other.firstColumn;
            lastColumn = other.lastColumn;
            System.arraycopy(other.grounds, 0, grounds, 0, GROUNDS);
            System.arraycopy(other.airs, 0, airs, 0, OWNERS);
            System.arraycopy(other.tolds, 0, tolds, 0, TELLS);
            System.arraycopy(other.fees, 0, fees, 0, OWNERS);
            System.arraycopy(other.lets, 0, lets, 0, OWNERS);
            makers = other.makers;
            System.arraycopy(other.kinds, 0, kinds, 0, MAKERS);
            System.arraycopy(other.cells, 0, cells, 0, MAKERS);
            System.arraycopy(other.selves, 0, selves, 0, MAKERS);
            System.arraycopy(other.cries, 0, cries, 0, MAKERS);
            leaves = other.leaves;
            System.arraycopy(other.parts, 0, parts, 0, LEAVES * PARTS);
            pasts = other.pasts;
            System.arraycopy(other.past, 0, past, 0, UNDOS * PAST);
        }

        /** In which of the rows the CELL is: each is in one of them. */
        static int rowOf(long[] rows, int cell) {
            for (int v = 0; v < rows.length; v++) {
                if (hasCell(rows[v], cell)) {
                    return v;
                }
            }
            return 0;
        }

        static int sortInto(long[] rows, int cell, int to) {
            int was = rowOf(rows, cell);
            long bit = 1L << cell;
            for (int v = 0; v < rows.length; v++) {
                rows[v] = v == to ? rows[v] | bit : rows[v] & ~bit;
            }
            return was;
        }

        long beside(long set) {
            long across = (set & ~firstColumn) >>> 1 | (set & ~lastColumn) << 1;
            return (across | set >>> width | set << width) & everywhere;
        }

        long airOf(int owner) {
            return owner >= 0 && owner < OWNERS ? airs[owner] : 0;
        }

        int changeFee(int owner, int n) {
            if (owner < 0 || owner >= OWNERS) {
                return NONE;
            }
            int was = fees[owner];
            fees[owner] = n;
            return was;
        }

        int letBy(int owner) {
            return owner >= 0 && owner < OWNERS ? lets[owner] : NONE;
        }

        int selfOf(int maker) {
            return maker >= 0 && maker < makers ? selves[maker] : NONE;
        }

        void addMaker(int kind, int cell, int owner) {
            if (makers < MAKERS) {
                kinds[makers] = kind;
                cells[makers] = cell;
                selves[makers] = owner;
                cries[makers] = FIRST_CRY;
                makers++;
            }
        }

        int part(int leave, int what) {
            int at = leave * PARTS + what;
            return at >= 0 && at < parts.length ? parts[at] : NONE;
        }

        boolean isIn(int leave, int hour) {
            return part(leave, OF_FROM) <= hour && hour <= part(leave, OF_TO);
        }

        void addLeave(int maker, int owner, int hourFrom, int hourTo, int loud) {
            if (leaves < LEAVES) {
                int at = leaves * PARTS;
                parts[at + OF_MAKER] = maker;
                parts[at + OF_OWNER] = owner;
                parts[at + OF_FROM] = hourFrom;
                parts[at + OF_TO] = hourTo;
                parts[at + OF_LOUD] = loud;
                leaves++;
            }
        }

        void dropLeave(int leave) {
            if (leave >= 0 && leave < leaves) {
                for (int at = leave * PARTS; at < (leaves - 1) * PARTS; at++) {
                    parts[at] = parts[at + PARTS];
                }
                leaves--;
            }
        }

        void keepPast() {
            if (pasts >= UNDOS) {
                System.arraycopy(past, PAST, past, 0, (UNDOS - 1) * PAST);
                pasts = UNDOS - 1;
            }
            int at = pasts * PAST;
            past[at] = leaves;
            System.arraycopy(parts, 0, past, at + 1, LEAVES * PARTS);
            pasts++;
        }

        void goBack() {
            if (pasts > 0) {
                pasts--;
                int at = pasts * PAST;
                leaves = past[at];
                System.arraycopy(past, at + 1, parts, 0, LEAVES * PARTS);
            }
        }
    }

    /**
     * One SOUND at a time. A row of CELLS for each LOUD says where some way comes just so LOUD: a louder way
     * to a CELL must not hide one that is less LOUD, which may go where the louder one may not.
     */
    private static final class Sound {
        private Land land;
        private int maker;
        private int loud;
        private int hour;
        private int bought;
        private int gone;
        private final long[] may = new long[LOUDEST + 1];
        private final long[] ways = new long[LOUDEST + 1];
        private final long[] echo = new long[LOUDEST + 1];
        private final long[] echoes = new long[LOUDEST + 1];
        long straight;
        long all;

        Sound(Land first) {
            land = first;
        }

        /** With LEAVES of the OWNERS bought (bits), without the LEAVES gone (bits). */
        void make(Land over, int byMaker, int soLoud, int inHour, int boughtOf, int without) {
            land = over;
            maker = byMaker;
            loud = soLoud;
            hour = inHour;
            bought = boughtOf;
            gone = without;
            goStraight(freeUpTo(kind()));
            Arrays.fill(echoes, 0);
            for (int owner = 0; owner < OWNERS; owner++) {
                giveBack(cliffs() & land.airOf(owner), owner);
            }
            all = straight | union(echoes);
        }

        /** Where the SOUND made last would be heard, but for ECHOES, needed nobody LEAVE: it is made anew so. */
        long straightIfFree() {
            goStraight(LOUDEST);
            return straight;
        }

        /**
         * CLIFFS by whose ECHO some CELL is CARRIED. To be GRASS changes nothing of a CLIFF but its ECHO, so
         * just these must be mended, each of them.
         */
        long carriers() {
            long bits = 0;
            for (int cell = 0; cell < SIDE * SIDE; cell++) {
                long bit = 1L << cell & cliffs();
                if (bit != 0) {
                    Arrays.fill(echoes, 0);
                    giveBack(bit, Land.rowOf(land.airs, cell));
                    if ((union(echoes) & ~straight) != 0) {
                        bits |= bit;
                    }
                }
            }
            return bits;
        }

        int loudIn(int cell) {
            for (int l = LOUDEST; l > 0; l--) {
                if (hasCell(ways[l] | echoes[l], cell)) {
                    return l;
                }
            }
            return 0;
        }

        private int kind() {
            return maker >= 0 && maker < land.makers ? land.kinds[maker] : 0;
        }

        private long place() {
            return maker >= 0 && maker < land.makers ? 1L << land.cells[maker] : 0;
        }

        private long cliffs() {
            return straight & land.grounds[CLIFF] & ~place();
        }

        private void goStraight(int free) {
            int kind = kind();
            allow(land.selfOf(maker), maker);
            for (int l = 1; l <= LOUDEST; l++) {
                if (l <= free) {
                    may[l] = land.everywhere;
                }
                if (kind == WHISPER) {
                    may[l] &= ~land.grounds[HEDGE];
                }
            }
            Arrays.fill(ways, 0);
            if (loud >= 1 && loud <= LOUDEST) {
                ways[loud] = place();
            }
            spread(ways, lessByStep(kind), lessFromHedge(kind));
            straight = union(ways);
        }

        /** What these CLIFFS, all of one OWNER, give back comes to the ECHOES. */
        private void giveBack(long of, int owner) {
            if (of == 0) {
                return;
            }
            Arrays.fill(echo, 0);
            long left = of;
            for (int l = LOUDEST; l > 1; l--) {
                echo[l / 2] |= ways[l] & left;
                left &= ~ways[l];
            }
            allow(owner, NONE);
            spread(echo, 1, 0);
            for (int l = 1; l <= LOUDEST; l++) {
                echoes[l] |= echo[l];
            }
        }

        /** Into which CELLS there is LEAVE for that OWNER: by LEAVES of one MAKER, or (NONE) of all who are he. */
        private void allow(int owner, int by) {
            Arrays.fill(may, 0);
            may[LOUDEST] = land.airOf(owner);
            for (int other = 0; other < OWNERS; other++) {
                if ((bought >> other & 1) != 0 && owner == land.selfOf(maker)) {
                    may[LOUDEST] |= land.airs[other];
                }
            }
            for (int leave = 0; leave < land.leaves; leave++) {
                int whose = land.part(leave, OF_MAKER);
                int upTo = land.part(leave, OF_LOUD);
                boolean serves = by == NONE ? land.selfOf(whose) == owner : whose == by;
                boolean holds = (gone >> leave & 1) == 0 && land.isIn(leave, hour);
                if (serves && holds && upTo >= 1 && upTo <= LOUDEST) {
                    may[upTo] |= land.airOf(land.part(leave, OF_OWNER));
                }
            }
            for (int l = LOUDEST - 1; l > 0; l--) {
                may[l] |= may[l + 1];
            }
        }

        private void spread(long[] rows, int less, int lessFromHedge) {
            long hedges = land.grounds[HEDGE];
            for (int l = rows.length - 1; l > 0; l--) {
                if (rows[l] != 0) {
                    step(rows, rows[l] & ~hedges, l, less);
                    step(rows, rows[l] & hedges, l, lessFromHedge);
                }
            }
        }

        /** By 0 less there is no step. */
        private void step(long[] rows, long from, int l, int less) {
            int then = l - less;
            if (from != 0 && less > 0 && then > 0 && then < rows.length && then < may.length) {
                rows[then] |= land.beside(from) & may[then];
            }
        }

        private static long union(long[] rows) {
            long set = 0;
            for (int l = 1; l < rows.length; l++) {
                set |= rows[l];
            }
            return set;
        }

        private static int lessByStep(int kind) {
            return kind == DOG || kind == WHISPER ? 2 : 1;
        }

        private static int lessFromHedge(int kind) {
            switch (kind) {
                case BELL:
                case HORN:
                    return 2;
                case THUNDER:
                    return 1;
                default:
                    return 0;
            }
        }

        private static int freeUpTo(int kind) {
            switch (kind) {
                case HORN:
                    return HORN_IS_FREE;
                case THUNDER:
                    return LOUDEST;
                default:
                    return 0;
            }
        }
    }

    /** THE TEXT, and the VALLEY that it tells. */
    private static final class Reader {
        private static final int END = 0, WORD = 1, NUMBER = 2, STOP = 3, NO_TOKEN = 4;
        private static final int VALLEY = 0, GROUND = 1, AIR = 2, FEE = 3, MAKER = 4, LEAVE = 5, WORDS = 6;
        private static final int BLANK = 32, SEMICOLON = 59;

        private final byte[] text = new byte[TEXT];
        int length;
        private Land land;
        private int place;
        private int end;
        private int token;
        private final int[] numbers = new int[PARTS];

        Reader(Land first) {
            land = first;
        }

        boolean append(int c) {
            if (length < 0 || length >= TEXT) {
                return false;
            }
            text[length] = (byte) c;
            length++;
            return true;
        }

        int empty() {
            int had = length;
            length = 0;
            return had;
        }

        /** How many ITEMS, or FAULT less the place of the first TOKEN that can not stand there. */
        int readInto(Land told) {
            land = told;
            end = 0;
            int items = 0;
            nextToken();
            // An ITEM takes a byte at least.
            for (int most = 0; most < TEXT && (token != END || items == 0); most++) {
                if (!readItem(items == 0)) {
                    return FAULT - place;
                }
                items++;
                nextToken();
            }
            return items;
        }

        private boolean readItem(boolean isFirst) {
            int word = token == WORD ? wordAtPlace() : WORDS;
            if (word == WORDS || isFirst != (word == VALLEY) || isTooMany(word)) {
                return false;
            }
            for (int i = 0; i < numbersOf(word) && i < numbers.length; i++) {
                nextToken();
                int n = token == NUMBER ? numberAtPlace() : NONE;
                if (n < least(word, i) || n > most(word, i)) {
                    return false;
                }
                numbers[i] = n;
            }
            nextToken();
            if (token != STOP) {
                return false;
            }
            tell(word);
            return true;
        }

        private boolean isTooMany(int word) {
            return word == MAKER && land.makers >= MAKERS || word == LEAVE && land.leaves >= LEAVES;
        }

        private static int numbersOf(int word) {
            return word == LEAVE ? PARTS : word == MAKER ? 3 : 2;
        }

        private int least(int word, int i) {
            if (word == LEAVE && i == OF_TO) {
                return numbers[OF_FROM];
            }
            return word == VALLEY || word == LEAVE && i == OF_LOUD ? 1 : 0;
        }

        private int most(int word, int i) {
            switch (word) {
                case VALLEY:
                    return SIDE;
                case GROUND:
                    return i == 0 ? lastCell() : GROUNDS - 1;
                case AIR:
                    return i == 0 ? lastCell() : OWNERS - 1;
                case FEE:
                    return i == 0 ? OWNERS - 1 : DEAREST;
                case MAKER:
                    return i == 0 ? KINDS - 1 : i == 1 ? lastCell() : OWNERS - 1;
                default:
                    return mostOfLeave(i);
            }
        }

        private int mostOfLeave(int i) {
            switch (i) {
                case OF_MAKER:
                    return land.makers - 1;
                case OF_OWNER:
                    return OWNERS - 1;
                case OF_LOUD:
                    return LOUDEST;
                default:
                    return LAST_HOUR;
            }
        }

        private int lastCell() {
            return land.width * land.height - 1;
        }

        private void tell(int word) {
            switch (word) {
                case VALLEY:
                    land.lay(numbers[0], numbers[1]);
                    break;
                case GROUND:
                    Land.sortInto(land.grounds, numbers[0], numbers[1]);
                    break;
                case AIR:
                    Land.sortInto(land.airs, numbers[0], numbers[1]);
                    break;
                case FEE:
                    land.changeFee(numbers[0], numbers[1]);
                    break;
                case MAKER:
                    land.addMaker(numbers[0], numbers[1], numbers[2]);
                    break;
                default:
                    land.addLeave(numbers[0], numbers[1], numbers[2], numbers[3], numbers[4]);
                    break;
            }
        }

        /** The TOKEN behind the last one: its place, its end; at the TEXT's length: END. */
        private void nextToken() {
            place = end;
            while (place < length && at(place) == BLANK) {
                place++;
            }
            end = place;
            if (place >= length) {
                token = END;
            } else if (isLetter(at(place))) {
                while (end < length && isLetter(at(end))) {
                    end++;
                }
                token = WORD;
            } else if (isFigure(at(place))) {
                while (end < length && isFigure(at(end))) {
                    end++;
                }
                token = end - place > 2 ? NO_TOKEN : NUMBER;
            } else {
                end++;
                token = at(place) == SEMICOLON ? STOP : NO_TOKEN;
            }
        }

        private int wordAtPlace() {
            for (int word = 0; word < WORDS; word++) {
                if (isAtPlace(spelling(word))) {
                    return word;
                }
            }
            return WORDS;
        }

        private static String spelling(int word) {
            switch (word) {
                case VALLEY:
                    return "valley";
                case GROUND:
                    return "ground";
                case AIR:
                    return "air";
                case FEE:
                    return "fee";
                case MAKER:
                    return "maker";
                default:
                    return "leave";
            }
        }

        private boolean isAtPlace(String word) {
            if (end - place != word.length()) {
                return false;
            }
            for (int i = 0; i < word.length(); i++) {
                if (at(place + i) != word.charAt(i)) {
                    return false;
                }
            }
            return true;
        }

        private int numberAtPlace() {
            int n = 0;
            for (int i = place; i < end; i++) {
                n = 10 * n + at(i) - '0';
            }
            return n;
        }

        private int at(int i) {
            return i >= 0 && i < length && i < TEXT ? text[i] : NONE;
        }

        private static boolean isLetter(int c) {
            return c >= 'a' && c <= 'z';
        }

        private static boolean isFigure(int c) {
            return c >= '0' && c <= '9';
        }
    }
}
