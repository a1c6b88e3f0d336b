/** A beach with its bathers, its plan and its hours, as ../shared/DOC.md tells of it. */
public final class DeepBathing {
    /** There is none; it is refused. */
    public static final int NONE = -1;
    /** Told where a number below 0 may be one. */
    public static final long NOTHING = -1000000000000000L;

    private static final int MOST_BYTES = 1600;
    private static final int MOST_STATEMENTS = 60;
    private static final int MOST_IDEAS = 8;
    private static final int MOST_NEEDS = 16;
    private static final int MOST_BATHERS = 6;
    private static final int MOST_ROWS = 16;
    private static final int MOST_OPEN = 6;
    private static final int NAME_LETTERS = 6;
    private static final int DIGITS = 4;
    private static final int MOST_TIDE = 9;
    private static final int MOST_STRENGTH = 99;
    private static final int LAST_HOUR = 999;
    private static final int MOST_AHEAD = 60;
    private static final int MOST_FAR = 30;
    private static final int MOST_COURSE = 4;
    private static final int MOST_ACT_HOURS = 100;
    private static final int MOST_KEPT = 40;
    private static final int MOST_ACTS = 20;
    private static final int MOST_FOUND = 16;
    private static final int ROW_BYTES = 4;
    private static final int WITS = 10;
    private static final int MOST_IMAGE = 3 + MOST_BATHERS * MOST_IDEAS + 2 * MOST_ROWS;

    /** The kinds of formulas: those of a BEACH, and that of a QUESTION. */
    private static final int TIDE = 0;
    private static final int KEEPS = 1;
    private static final int FADES = 2;
    private static final int BEARS = 3;
    private static final int QUESTION = 4;
    private static final int FORMULAS = 5;

    /** Places of what a formula sees; an order below SIGHTS lays what is seen there on the pile. */
    private static final int SEE_HOUR = 0;
    private static final int SEE_DEPTH = 1;
    private static final int SEE_WITS = 2;
    private static final int SEE_KNOWN = 3;
    private static final int SEE_LUNG = 4;
    private static final int SEE_TIDE = 5;
    private static final int SEE_STRENGTH = 6;
    private static final int SEE_ROOTED = 7;
    private static final int SEE_NUMBER = 8;
    private static final int SEE_READY = 9;
    private static final int SEE_STRONG = 10;
    private static final int SIGHTS = SEE_STRONG + MOST_IDEAS;

    /** The other orders: a number, those of one value (up to READY), those of two. */
    private static final int NUMBER = 32;
    private static final int NOT = 33;
    private static final int KNOWS = 34;
    private static final int READY = 35;
    private static final int PLUS = 36;
    private static final int MINUS = 37;
    private static final int TIMES = 38;
    private static final int OVER = 39;
    private static final int LESS = 40;
    private static final int MORE = 41;
    private static final int SAME = 42;
    private static final int AND = 43;
    private static final int OR = 44;
    private static final int MIN = 45;
    private static final int MAX = 46;

    private final byte[] tape = new byte[MOST_BYTES];
    private int length;
    private Beach beach = new Beach();
    private Beach spare = new Beach();
    private final Moment now = new Moment();
    private final Past past = new Past();
    private final Life life = new Life(beach);
    private final Foresight foresight = new Foresight(life, now);
    private final Text text = new Text(tape);
    private final Reader reader = new Reader(text, spare);
    private final Orders question = new Orders();
    private final byte[] written = new byte[MOST_IMAGE];
    private int writtenBytes;
    private final int[] refused = new int[6];
    private int fault;
    private int place = NONE;
    private int seed = 1;

    public DeepBathing() {
    }

    public int feed(int a, int b, int c, int d, int e) {
        if (length + 20 > MOST_BYTES) {
            return refuse(0);
        }
        putNumber(a);
        putNumber(b);
        putNumber(c);
        putNumber(d);
        putNumber(e);
        return length;
    }

    private void putNumber(int number) {
        for (int shift = 24; shift >= 0 && length < MOST_BYTES; shift -= 8) {
            tape[length] = (byte) (number >> shift);
            length++;
        }
    }

    public boolean end(int n) {
        if (n < 0 || n > length) {
            refuse(0);
            return false;
        }
        length = n;
        return true;
    }

    public int beach() {
        text.open(takeTape());
        int told = reader.readBeach(spare);
        noteFault();
        if (fault != 0) {
            return refuse(1);
        }
        Beach old = beach;
        beach = spare;
        spare = old;
        life.standAt(beach);
        now.begin(beach);
        past.clear();
        foresight.foundRows = 0;
        return told;
    }

    public int fault(int what) {
        switch (what) {
            case 0: return fault;
            case 1: return place;
            default: return NONE;
        }
    }

    public int has(int what) {
        switch (what) {
            case 0: return beach.ideas;
            case 1: return beach.needsTold;
            case 2: return beach.bathers;
            case 3: return now.rows;
            case 4: return now.hour;
            case 5: return life.tideAt(now.hour);
            case 6: return allKnown();
            case 7: return allStrengths();
            case 8: return now.keptRows;
            case 9: return foresight.foundRows;
            case 10: return past.count;
            default: return NONE;
        }
    }

    private int allKnown() {
        int sum = 0;
        for (int b = 0; b < beach.bathers; b++) {
            sum += Integer.bitCount(bitsKnown(now.strong[b]));
        }
        return sum;
    }

    private int allStrengths() {
        int sum = 0;
        for (int b = 0; b < beach.bathers; b++) {
            sum += sumOf(now.strong[b]);
        }
        return sum;
    }

    public int letter(int kind, int which, int k) {
        if (k < 0 || k >= NAME_LETTERS) {
            return NONE;
        }
        if (kind == 0 && hasIdea(which)) {
            return letterOf(beach.ideaName[which], k);
        }
        if (kind == 1 && hasBather(which)) {
            return letterOf(beach.batherName[which], k);
        }
        return NONE;
    }

    public int idea(int idea, int what) {
        if (!hasIdea(idea)) {
            return NONE;
        }
        switch (what) {
            case 0: return beach.depth[idea];
            case 1: return beach.needs[idea];
            case 2: return beach.roots[idea];
            case 3: return knowers(idea);
            default: return NONE;
        }
    }

    private int knowers(int idea) {
        int sum = 0;
        for (int b = 0; b < beach.bathers; b++) {
            if (now.strong[b][idea] > 0) {
                sum++;
            }
        }
        return sum;
    }

    public int bather(int bather, int what) {
        if (!hasBather(bather)) {
            return NONE;
        }
        switch (what) {
            case 0: return beach.lung[bather];
            case 1: return beach.wits[bather];
            case 2: return bitsKnown(now.strong[bather]);
            case 3:
                lookAt(bather);
                return life.readyBits();
            case 4: return sumOf(now.strong[bather]);
            default: return NONE;
        }
    }

    public int knows(int bather, int idea) {
        return hasBoth(bather, idea) ? now.strong[bather][idea] : NONE;
    }

    public int keeps(int bather, int idea) {
        if (!hasBoth(bather, idea)) {
            return NONE;
        }
        lookAt(bather);
        return life.strengthBy(idea);
    }

    public int plan(int k, int what) {
        if (k < 0 || k >= now.rows) {
            return NONE;
        }
        switch (what) {
            case 0: return now.planBather[k];
            case 1: return now.planIdea[k];
            default: return NONE;
        }
    }

    public int kept(int k, int what) {
        if (k < 0 || k >= now.keptRows || what < 0 || what >= ROW_BYTES) {
            return NONE;
        }
        return now.kept[ROW_BYTES * k + what];
    }

    // ---- ahead

    public int tide(int n) {
        return comes(n, 0, MOST_AHEAD) ? life.tideAt(now.hour + n) : NONE;
    }

    public int later(int bather, int idea, int n) {
        if (!hasBoth(bather, idea) || !comes(n, 0, MOST_AHEAD)) {
            return NONE;
        }
        return foresight.strengthBehind(bather, idea, n);
    }

    public int learns(int bather, int idea) {
        return hasBoth(bather, idea) ? foresight.firstKnown(bather, idea) : NONE;
    }

    public int lasts(int bather, int idea) {
        if (!hasBoth(bather, idea) || now.strong[bather][idea] == 0) {
            return NONE;
        }
        return foresight.lastKnown(bather, idea);
    }

    // ---- courses, changes, matches

    public int course(int bather, int idea, int k) {
        if (!hasBoth(bather, idea) || k < NONE || k >= MOST_COURSE) {
            return NONE;
        }
        int hours = foresight.findCourse(bather, idea);
        if (k == NONE) {
            return hours;
        }
        return k < hours ? foresight.path[k] : NONE;
    }

    public int change(int n, int what) {
        if (!comes(n, 1, MOST_FAR) || what < 0 || what > 2) {
            return NONE;
        }
        foresight.findChange(n);
        switch (what) {
            case 0: return foresight.lessRow;
            case 1: return foresight.otherRow;
            default: return foresight.changeSum;
        }
    }

    public int match(int bather) {
        if (bather != NONE && !hasBather(bather)) {
            return NONE;
        }
        int sum = foresight.findMatch();
        return bather == NONE ? sum : foresight.picks[bather];
    }

    public int odds(int bather, int idea) {
        if (!hasBoth(bather, idea) || now.hour >= LAST_HOUR) {
            return NONE;
        }
        return foresight.countOdds(bather, idea);
    }

    // ---- how quick

    public int discover() {
        int bytes = takeTape();
        int rows = bytes / ROW_BYTES;
        if (rows < 1 || rows > MOST_FOUND || bytes % ROW_BYTES != 0) {
            return refuse(1);
        }
        for (int k = 0; k < rows; k++) {
            if (!canBeFound(ROW_BYTES * k)) {
                return refuse(1);
            }
        }
        for (int k = 0; k < bytes; k++) {
            foresight.found[k] = tapeByte(k);
        }
        foresight.foundRows = rows;
        return rows;
    }

    private boolean canBeFound(int from) {
        return tapeByte(from) <= MOST_FAR
                && hasBoth(tapeByte(from + 1), tapeByte(from + 2))
                && tapeByte(from + 3) <= MOST_STRENGTH;
    }

    public int wits(int bather) {
        return hasBather(bather) ? foresight.witsLeft(bather) : NONE;
    }

    public int tells(int bather, int what) {
        if (!hasBather(bather) || what < 0 || what > 2) {
            return NONE;
        }
        int left = foresight.witsLeft(bather);
        if (left == 0 || beach.ideas == 0 || now.hour >= LAST_HOUR) {
            return NONE;
        }
        foresight.findTelling(bather, left);
        switch (what) {
            case 0: return foresight.tellingHours;
            case 1: return foresight.tellingIdea;
            default: return foresight.tellingLeft;
        }
    }

    // ---- acts

    public int duck(int bather, int idea) {
        if (!hasBoth(bather, idea)) {
            return refuse(2);
        }
        lookAt(bather);
        if (!life.isReady(idea)) {
            return refuse(2);
        }
        past.push(now);
        int strength = life.strengthBy(idea);
        now.strong[bather][idea] = strength;
        return strength;
    }

    public boolean forget(int bather, int idea) {
        if (!hasBoth(bather, idea) || now.strong[bather][idea] == 0) {
            refuse(2);
            return false;
        }
        past.push(now);
        now.strong[bather][idea] = 0;
        return true;
    }

    public boolean send(int k, int bather, int idea) {
        if (k < 0 || k >= now.rows || !hasBoth(bather, idea)
                || now.planBather[k] == bather && now.planIdea[k] == idea) {
            refuse(2);
            return false;
        }
        past.push(now);
        now.planBather[k] = bather;
        now.planIdea[k] = idea;
        return true;
    }

    public int hours(int n) {
        if (!comes(n, 1, MOST_ACT_HOURS)) {
            return refuse(3);
        }
        past.push(now);
        int ducked = 0;
        for (int k = 0; k < n; k++) {
            ducked += life.passAll(now, life.tideAt(now.hour));
        }
        return ducked;
    }

    public int chance(int n) {
        if (!comes(n, 1, MOST_ACT_HOURS)) {
            return refuse(3);
        }
        past.push(now);
        int squalls = 0;
        for (int k = 0; k < n; k++) {
            if (draw(100) < beach.squall) {
                squalls++;
                life.passAll(now, draw(10));
            } else {
                life.passAll(now, life.tideAt(now.hour));
            }
        }
        return squalls;
    }

    private int draw(int below) {
        seed = (int) ((1103515245L * seed + 12345L) & 0x7fffffffL);
        return below > 0 ? seed / 64 % below : 0;
    }

    public boolean undo() {
        if (past.count == 0) {
            refuse(4);
            return false;
        }
        past.pop(now);
        return true;
    }

    public boolean seed(int seed) {
        if (seed < 0) {
            refuse(5);
            return false;
        }
        this.seed = seed;
        return true;
    }

    // ---- questions

    public long ask() {
        text.open(takeTape());
        int word = reader.readQuestion(question);
        noteFault();
        return fault != 0 ? NOTHING : answer(word);
    }

    private long answer(int word) {
        long got = word == Text.FIRST || word == Text.LAST ? NONE : 0;
        int tide = life.tideAt(now.hour);
        for (int b = 0; b < beach.bathers; b++) {
            life.settle(now.strong[b], b, beach.wits[b], now.hour, tide);
            int value = life.valueOf(question, b, now.strong[b]);
            if (word == Text.OFTEN || word == Text.TOTAL) {
                got += value;
            } else if (word == Text.MOST) {
                got = b == 0 ? value : Math.max(got, value);
            } else if (word == Text.LEAST) {
                got = b == 0 ? value : Math.min(got, value);
            } else if (value != 0 && (word == Text.LAST || got == NONE)) {
                got = b;
            }
        }
        return got;
    }

    // ---- images, refusals

    public int image() {
        writtenBytes = 0;
        write(now.hour >> 8);
        write(now.hour & 255);
        for (int b = 0; b < beach.bathers; b++) {
            for (int i = 0; i < beach.ideas; i++) {
                write(now.strong[b][i]);
            }
        }
        for (int k = 0; k < now.rows; k++) {
            write(now.planBather[k]);
            write(now.planIdea[k]);
        }
        write(checkOf(written, writtenBytes));
        return writtenBytes;
    }

    private void write(int octet) {
        if (writtenBytes < MOST_IMAGE) {
            written[writtenBytes] = (byte) octet;
            writtenBytes++;
        }
    }

    public int octet(int k) {
        return k < 0 || k >= writtenBytes ? NONE : written[k] & 255;
    }

    public boolean on() {
        int bytes = takeTape();
        if (!isImage(bytes)) {
            refuse(5);
            return false;
        }
        now.hour = 256 * tapeByte(0) + tapeByte(1);
        int at = 2;
        for (int b = 0; b < beach.bathers; b++) {
            for (int i = 0; i < beach.ideas; i++) {
                now.strong[b][i] = tapeByte(at);
                at++;
            }
        }
        for (int k = 0; k < now.rows; k++) {
            now.planBather[k] = tapeByte(at);
            now.planIdea[k] = tapeByte(at + 1);
            at += 2;
        }
        now.keptRows = 0;
        past.clear();
        return true;
    }

    private boolean isImage(int bytes) {
        int plan = 2 + beach.bathers * beach.ideas;
        int check = plan + 2 * now.rows;
        if (bytes != check + 1 || 256 * tapeByte(0) + tapeByte(1) > LAST_HOUR) {
            return false;
        }
        for (int k = 2; k < plan; k++) {
            if (tapeByte(k) > MOST_STRENGTH) {
                return false;
            }
        }
        for (int k = plan; k < check; k += 2) {
            if (!hasBoth(tapeByte(k), tapeByte(k + 1))) {
                return false;
            }
        }
        return tapeByte(check) == checkOf(tape, check);
    }

    public int status(int what) {
        return what < 0 || what >= refused.length ? NONE : refused[what];
    }

    private int refuse(int what) {
        if (what >= 0 && what < refused.length) {
            refused[what]++;
        }
        return NONE;
    }

    /** The tape goes: its bytes can be read until the next ones come. */
    private int takeTape() {
        int bytes = length;
        length = 0;
        return bytes;
    }

    private int tapeByte(int k) {
        return k < 0 || k >= MOST_BYTES ? 0 : tape[k] & 255;
    }

    private void noteFault() {
        fault = text.fault;
        place = text.place;
    }

    private boolean hasIdea(int idea) {
        return idea >= 0 && idea < beach.ideas;
    }

    private boolean hasBather(int bather) {
        return bather >= 0 && bather < beach.bathers;
    }

    private boolean hasBoth(int bather, int idea) {
        return hasBather(bather) && hasIdea(idea);
    }

    /** Whether n is in its bounds and HOUR 999 is not passed by n HOURS. */
    private boolean comes(int n, int least, int most) {
        return n >= least && n <= most && now.hour + n <= LAST_HOUR;
    }

    private void lookAt(int bather) {
        int tide = life.tideAt(now.hour);
        life.settle(now.strong[bather], bather, beach.wits[bather], now.hour, tide);
    }

    private static int between(int value, int least, int most) {
        return Math.max(least, Math.min(most, value));
    }

    private static int letterOf(int name, int k) {
        return name >> 5 * k & 31;
    }

    private static int bitsKnown(int[] strong) {
        int bits = 0;
        for (int i = 0; i < strong.length; i++) {
            if (strong[i] > 0) {
                bits |= 1 << i;
            }
        }
        return bits;
    }

    private static int sumOf(int[] numbers) {
        int sum = 0;
        for (int i = 0; i < numbers.length; i++) {
            sum += numbers[i];
        }
        return sum;
    }

    private static int checkOf(byte[] bytes, int count) {
        int check = 239;
        for (int k = 0; k < count && k < bytes.length; k++) {
            check = (3 * check + (bytes[k] & 255)) % 251;
        }
        return check;
    }

    private static void copyRow(int[] from, int[] to) {
        System.arraycopy(from, 0, to, 0, Math.min(from.length, to.length));
    }

    /** Formulas, one of a kind, as orders to a pile: each lays a value on it, or takes one or two for one. */
    private static final class Orders {
        /** A text has fewer parts than bytes; the rest is for the formulas that are not told. */
        private static final int MOST_ORDERS = MOST_BYTES + 20;
        /** Six that are open leave at most some thirty values waiting. */
        private static final int PILE = 64;
        private static final int HELD = 1000000;

        private final int[] code = new int[MOST_ORDERS];
        private final int[] from = new int[FORMULAS];
        private final int[] to = new int[FORMULAS];
        private final int[] pile = new int[PILE];
        private int size;

        void clear() {
            size = 0;
            for (int kind = 0; kind < FORMULAS; kind++) {
                from[kind] = NONE;
                to[kind] = NONE;
            }
        }

        boolean isTold(int kind) {
            return from[kind] != NONE;
        }

        /** What is added until finish is the formula of that kind. */
        void begin(int kind) {
            from[kind] = size;
        }

        void finish(int kind) {
            to[kind] = size;
        }

        void add(int order) {
            if (size < MOST_ORDERS) {
                code[size] = order;
                size++;
            }
        }

        void addNumber(int number) {
            add(number << 8 | NUMBER);
        }

        int value(int kind, int[] seen) {
            int top = 0;
            for (int k = Math.max(0, from[kind]); k < to[kind] && k < MOST_ORDERS; k++) {
                int order = code[k] & 255;
                if (order < seen.length && top < PILE) {
                    pile[top] = seen[order];
                    top++;
                } else if (order == NUMBER && top < PILE) {
                    pile[top] = code[k] >> 8;
                    top++;
                } else if (order >= NOT && order <= READY && top >= 1) {
                    pile[top - 1] = ofOne(order, pile[top - 1], seen);
                } else if (order > READY && top >= 2) {
                    top--;
                    pile[top - 1] = ofTwo(order, pile[top - 1], pile[top]);
                }
            }
            return top > 0 ? pile[0] : 0;
        }

        private static int ofOne(int order, int a, int[] seen) {
            if (order == NOT) {
                return a == 0 ? 1 : 0;
            }
            if (a < 0 || a >= MOST_IDEAS || seen.length < SIGHTS) {
                return 0;
            }
            return order == KNOWS ? seen[SEE_STRONG + a] : seen[SEE_READY] >> a & 1;
        }

        private static int ofTwo(int order, int a, int b) {
            long got;
            switch (order) {
                case PLUS: got = a + b; break;
                case MINUS: got = a - b; break;
                case TIMES: got = (long) a * b; break;
                case OVER:
                    if (b == 0) {
                        return 0;
                    }
                    got = a / b;
                    if (a % b != 0 && a < 0 != b < 0) {
                        got--;
                    }
                    break;
                case LESS: return a < b ? 1 : 0;
                case MORE: return a > b ? 1 : 0;
                case SAME: return a == b ? 1 : 0;
                case AND: return a & b;
                case OR: return a | b;
                case MIN: return a < b ? a : b;
                case MAX: return a > b ? a : b;
                default: return 0;
            }
            if (got > HELD) {
                return HELD;
            }
            return got < -HELD ? -HELD : (int) got;
        }
    }

    /** What the text of a BEACH tells. A name is held as a number, five bits a letter. */
    private static final class Beach {
        private final int[] ideaName = new int[MOST_IDEAS];
        private final int[] depth = new int[MOST_IDEAS];
        private final int[] needs = new int[MOST_IDEAS];
        private final int[] roots = new int[MOST_IDEAS];
        private final int[] batherName = new int[MOST_BATHERS];
        private final int[] lung = new int[MOST_BATHERS];
        private final int[] wits = new int[MOST_BATHERS];
        private final int[] planBather = new int[MOST_ROWS];
        private final int[] planIdea = new int[MOST_ROWS];
        private final Orders orders = new Orders();
        private int ideas;
        private int needsTold;
        private int bathers;
        private int rows;
        private int squall;

        Beach() {
            clear();
            finish();
        }

        void clear() {
            ideas = 0;
            needsTold = 0;
            bathers = 0;
            rows = 0;
            squall = 0;
            orders.clear();
        }

        int ideaNamed(int name) {
            for (int i = 0; i < ideas; i++) {
                if (ideaName[i] == name) {
                    return i;
                }
            }
            return NONE;
        }

        int batherNamed(int name) {
            for (int b = 0; b < bathers; b++) {
                if (batherName[b] == name) {
                    return b;
                }
            }
            return NONE;
        }

        boolean isNamed(int name) {
            return ideaNamed(name) != NONE || batherNamed(name) != NONE;
        }

        void addIdea(int name, int deep) {
            if (ideas < MOST_IDEAS) {
                ideaName[ideas] = name;
                depth[ideas] = deep;
                needs[ideas] = 0;
                ideas++;
            }
        }

        void addBather(int name, int breath, int quick) {
            if (bathers < MOST_BATHERS) {
                batherName[bathers] = name;
                lung[bathers] = breath;
                wits[bathers] = quick;
                bathers++;
            }
        }

        void addRow(int bather, int idea) {
            if (rows < MOST_ROWS) {
                planBather[rows] = bather;
                planIdea[rows] = idea;
                rows++;
            }
        }

        /** The ROOTS, and the formulas that the text has not told. */
        void finish() {
            for (int i = 0; i < ideas; i++) {
                roots[i] = needs[i];
                for (int j = 0; j < i; j++) {
                    if ((needs[i] >> j & 1) != 0) {
                        roots[i] |= roots[j];
                    }
                }
            }
            for (int kind = 0; kind < QUESTION; kind++) {
                if (!orders.isTold(kind)) {
                    orders.begin(kind);
                    addUntold(kind);
                    orders.finish(kind);
                }
            }
        }

        private void addUntold(int kind) {
            switch (kind) {
                case TIDE:
                    orders.addNumber(MOST_TIDE);
                    break;
                case KEEPS:
                    orders.addNumber(20);
                    orders.add(SEE_WITS);
                    orders.addNumber(5);
                    orders.add(TIMES);
                    orders.add(PLUS);
                    orders.add(SEE_DEPTH);
                    orders.add(MINUS);
                    break;
                case FADES:
                    orders.add(SEE_STRENGTH);
                    orders.addNumber(1);
                    orders.add(MINUS);
                    break;
                default:
                    orders.addNumber(1);
                    break;
            }
        }
    }

    /** All that acts change: the HOUR, who knows what, the PLAN, what is KEPT. */
    private static final class Moment {
        private int hour;
        private final int[][] strong = new int[MOST_BATHERS][MOST_IDEAS];
        private int rows;
        private final int[] planBather = new int[MOST_ROWS];
        private final int[] planIdea = new int[MOST_ROWS];
        private final int[] kept = new int[ROW_BYTES * MOST_KEPT];
        private int keptRows;

        void begin(Beach beach) {
            hour = 0;
            keptRows = 0;
            rows = beach.rows;
            copyRow(beach.planBather, planBather);
            copyRow(beach.planIdea, planIdea);
            for (int b = 0; b < MOST_BATHERS; b++) {
                for (int i = 0; i < MOST_IDEAS; i++) {
                    strong[b][i] = 0;
                }
            }
        }

        void copy(Moment other) {
            hour = other.hour;
            keptRows = other.keptRows;
            copyRow(other.kept, kept);
            copyPlan(other);
            for (int b = 0; b < MOST_BATHERS; b++) {
                copyRow(other.strong[b], strong[b]);
            }
        }

        void copyPlan(Moment other) {
            rows = other.rows;
            copyRow(other.planBather, planBather);
            copyRow(other.planIdea, planIdea);
        }

        void swapRows(int j, int k) {
            int bather = planBather[j];
            int idea = planIdea[j];
            planBather[j] = planBather[k];
            planIdea[j] = planIdea[k];
            planBather[k] = bather;
            planIdea[k] = idea;
        }

        /** The IDEA that the PLAN has for a BATHER in an HOUR. */
        int plannedFor(int bather, int when) {
            if (rows <= 0 || when < 0) {
                return NONE;
            }
            int row = when % rows;
            return planBather[row] == bather ? planIdea[row] : NONE;
        }

        void keep(int bather, int idea, int strength) {
            if (keptRows == MOST_KEPT) {
                System.arraycopy(kept, ROW_BYTES, kept, 0, ROW_BYTES * (MOST_KEPT - 1));
                keptRows--;
            }
            int at = ROW_BYTES * keptRows;
            kept[at] = hour;
            kept[at + 1] = bather;
            kept[at + 2] = idea;
            kept[at + 3] = strength;
            keptRows++;
        }
    }

    /** How it was ahead of each of the last ACTS, in a ring. */
    private static final class Past {
        private final Moment[] moments = new Moment[MOST_ACTS];
        private int oldest;
        private int count;

        Past() {
            for (int k = 0; k < MOST_ACTS; k++) {
                moments[k] = new Moment();
            }
        }

        void clear() {
            oldest = 0;
            count = 0;
        }

        void push(Moment now) {
            moments[(oldest + count) % MOST_ACTS].copy(now);
            if (count < MOST_ACTS) {
                count++;
            } else {
                oldest = (oldest + 1) % MOST_ACTS;
            }
        }

        void pop(Moment now) {
            if (count > 0) {
                count--;
                now.copy(moments[(oldest + count) % MOST_ACTS]);
            }
        }
    }

    /** What an HOUR does. BATHERS never touch one another, so that each can be followed alone. */
    private static final class Life {
        private final int[] seen = new int[SIGHTS];
        private Beach beach;
        private int known;

        Life(Beach beach) {
            this.beach = beach;
        }

        void standAt(Beach other) {
            beach = other;
        }

        int tideAt(int hour) {
            seen[SEE_HOUR] = hour;
            return between(beach.orders.value(TIDE, seen), 0, MOST_TIDE);
        }

        /** Sets out one BATHER for what is asked of him next. */
        void settle(int[] strong, int bather, int wits, int hour, int tide) {
            seen[SEE_HOUR] = hour;
            seen[SEE_TIDE] = tide;
            seen[SEE_WITS] = wits;
            seen[SEE_LUNG] = beach.lung[bather];
            count(strong);
        }

        private void count(int[] strong) {
            known = bitsKnown(strong);
            seen[SEE_KNOWN] = Integer.bitCount(known);
        }

        boolean isReady(int idea) {
            if (beach.depth[idea] > seen[SEE_TIDE] || (beach.needs[idea] & ~known) != 0) {
                return false;
            }
            seen[SEE_DEPTH] = beach.depth[idea];
            return beach.orders.value(BEARS, seen) != 0;
        }

        int readyBits() {
            int bits = 0;
            for (int i = 0; i < beach.ideas; i++) {
                if (isReady(i)) {
                    bits |= 1 << i;
                }
            }
            return bits;
        }

        int strengthBy(int idea) {
            seen[SEE_DEPTH] = beach.depth[idea];
            return between(beach.orders.value(KEEPS, seen), 1, MOST_STRENGTH);
        }

        /**
         * An HOUR of one BATHER: by which strength he was DUCKED in what is planned, 0 if not. Without a TIDE (NONE)
         * it is the one that is told; nothing but a DUCKING asks for it.
         */
        int pass(int[] strong, int bather, int wits, int hour, int planned, int tide) {
            settle(strong, bather, wits, hour, planned != NONE && tide == NONE ? tideAt(hour) : tide);
            int ducked = 0;
            if (planned != NONE && isReady(planned)) {
                ducked = strengthBy(planned);
                strong[planned] = ducked;
                count(strong);
            }
            for (int i = 0; i < beach.ideas; i++) {
                if (strong[i] > 0 && (i != planned || ducked == 0)) {
                    strong[i] = fadedTo(i, strong[i]);
                }
            }
            return ducked;
        }

        private int fadedTo(int idea, int strength) {
            seen[SEE_DEPTH] = beach.depth[idea];
            seen[SEE_STRENGTH] = strength;
            seen[SEE_ROOTED] = (beach.needs[idea] & ~known) == 0 ? 1 : 0;
            return between(beach.orders.value(FADES, seen), 0, MOST_STRENGTH);
        }

        /** An HOUR of all: how many were DUCKED. */
        int passAll(Moment now, int tide) {
            int count = 0;
            for (int b = 0; b < beach.bathers; b++) {
                int planned = now.plannedFor(b, now.hour);
                int ducked = pass(now.strong[b], b, beach.wits[b], now.hour, planned, tide);
                if (ducked > 0) {
                    now.keep(b, planned, ducked);
                    count++;
                }
            }
            now.hour++;
            return count;
        }

        /** A QUESTION of the BATHER who is settled. */
        int valueOf(Orders question, int bather, int[] strong) {
            seen[SEE_READY] = readyBits();
            seen[SEE_NUMBER] = bather;
            for (int i = 0; i < MOST_IDEAS; i++) {
                seen[SEE_STRONG + i] = i < beach.ideas ? strong[i] : 0;
            }
            return question.value(QUESTION, seen);
        }
    }

    /** What is to come, found by trying it on rows of its own. */
    private static final class Foresight {
        private static final int SETS = 1 << MOST_IDEAS;

        private final Life life;
        private final Moment now;
        private final Moment trial = new Moment();
        private final int[] row = new int[MOST_IDEAS];
        private final int[][] stages = new int[MOST_COURSE + 1][MOST_IDEAS];
        private final int[] path = new int[MOST_COURSE];
        private final int[] sums = new int[MOST_BATHERS];
        private final int[][] gains = new int[MOST_BATHERS][MOST_IDEAS];
        private final int[][] bests = new int[MOST_BATHERS + 1][SETS];
        private final int[] picks = new int[MOST_BATHERS];
        private final int[][] guesses = new int[WITS][MOST_IDEAS];
        private final int[] found = new int[ROW_BYTES * MOST_FOUND];
        private int foundRows;
        private int lessRow;
        private int otherRow;
        private int changeSum;
        private int tellingHours;
        private int tellingIdea;
        private int tellingLeft;

        Foresight(Life life, Moment now) {
            this.life = life;
            this.now = now;
        }

        private int hoursToCome(int most) {
            return Math.min(most, LAST_HOUR - now.hour);
        }

        /** Leaves in row how a BATHER of such wits stands behind n HOURS AHEAD: all his strengths together. */
        private int runRow(Moment plan, int bather, int wits, int n) {
            copyRow(now.strong[bather], row);
            for (int k = 0; k < n; k++) {
                int hour = now.hour + k;
                life.pass(row, bather, wits, hour, plan.plannedFor(bather, hour), NONE);
            }
            return sumOf(row);
        }

        int strengthBehind(int bather, int idea, int n) {
            runRow(now, bather, life.beach.wits[bather], n);
            return row[idea];
        }

        int firstKnown(int bather, int idea) {
            copyRow(now.strong[bather], row);
            int most = hoursToCome(MOST_AHEAD);
            for (int k = 0; k <= most; k++) {
                if (row[idea] > 0) {
                    return k;
                }
                int hour = now.hour + k;
                life.pass(row, bather, life.beach.wits[bather], hour, now.plannedFor(bather, hour), NONE);
            }
            return NONE;
        }

        int lastKnown(int bather, int idea) {
            copyRow(now.strong[bather], row);
            int most = hoursToCome(MOST_AHEAD);
            for (int k = 0; k < most; k++) {
                life.pass(row, bather, life.beach.wits[bather], now.hour + k, NONE, NONE);
                if (row[idea] == 0) {
                    return k;
                }
            }
            return most;
        }

        /** How many HOURS the COURSE has, NONE without one; path has its IDEAS. */
        int findCourse(int bather, int idea) {
            copyRow(now.strong[bather], stages[0]);
            int most = hoursToCome(MOST_COURSE);
            for (int hours = 0; hours <= most; hours++) {
                if (isReached(this, bather, idea, 0, hours)) {
                    return hours;
                }
            }
            return NONE;
        }

        /** Whether behind the HOURS from stage on, hours in all, he can know the IDEA. */
        private static boolean isReached(Foresight f, int bather, int idea, int stage, int hours) {
            if (stage >= hours || stage >= MOST_COURSE) {
                return f.stages[stage][idea] > 0;
            }
            Life life = f.life;
            int hour = f.now.hour + stage;
            int wits = life.beach.wits[bather];
            int tide = life.tideAt(hour);
            life.settle(f.stages[stage], bather, wits, hour, tide);
            if (stage == hours - 1) {
                // No fewer HOURS were enough, so that only a DUCKING in the last one can be.
                f.path[stage] = idea;
                return life.isReady(idea);
            }
            int ready = life.readyBits();
            for (int choice = NONE; choice < life.beach.ideas; choice++) {
                if (choice != NONE && (ready >> choice & 1) == 0) {
                    continue;
                }
                f.path[stage] = choice;
                copyRow(f.stages[stage], f.stages[stage + 1]);
                life.pass(f.stages[stage + 1], bather, wits, hour, choice, tide);
                if (isReached(f, bather, idea, stage + 1, hours)) {
                    return true;
                }
            }
            return false;
        }

        void findChange(int n) {
            trial.copyPlan(now);
            lessRow = NONE;
            otherRow = NONE;
            changeSum = 0;
            for (int b = 0; b < life.beach.bathers; b++) {
                sums[b] = runRow(trial, b, life.beach.wits[b], n);
                changeSum += sums[b];
            }
            int unchanged = changeSum;
            for (int j = 0; j < now.rows; j++) {
                for (int k = j + 1; k < now.rows; k++) {
                    if (isSomething(j, k, n)) {
                        tryChange(j, k, n, unchanged);
                    }
                }
            }
        }

        /** Whether rows taken for one another make any difference in n HOURS. */
        private boolean isSomething(int j, int k, int n) {
            boolean alike = now.planBather[j] == now.planBather[k] && now.planIdea[j] == now.planIdea[k];
            return !alike && (isDue(j, n) || isDue(k, n));
        }

        private boolean isDue(int k, int n) {
            return now.rows > 0 && Math.floorMod(k - now.hour, now.rows) < n;
        }

        private void tryChange(int j, int k, int n, int unchanged) {
            trial.swapRows(j, k);
            int one = now.planBather[j];
            int other = now.planBather[k];
            int sum = unchanged - sums[one] + runRow(trial, one, life.beach.wits[one], n);
            if (other != one) {
                sum += runRow(trial, other, life.beach.wits[other], n) - sums[other];
            }
            trial.swapRows(j, k);
            if (sum > changeSum) {
                lessRow = j;
                otherRow = k;
                changeSum = sum;
            }
        }

        /** The sum of the MATCH; picks has its IDEAS. */
        int findMatch() {
            int bathers = life.beach.bathers;
            int tide = life.tideAt(now.hour);
            for (int b = 0; b < bathers; b++) {
                life.settle(now.strong[b], b, life.beach.wits[b], now.hour, tide);
                for (int i = 0; i < life.beach.ideas; i++) {
                    gains[b][i] = life.isReady(i) ? life.strengthBy(i) : 0;
                }
            }
            for (int taken = 0; taken < SETS; taken++) {
                bests[bathers][taken] = 0;
            }
            for (int b = bathers - 1; b >= 0; b--) {
                for (int taken = 0; taken < SETS; taken++) {
                    bests[b][taken] = bestFrom(b, taken);
                }
            }
            pickAlong(bathers);
            return bests[0][0];
        }

        /** The most from BATHER b on, when some IDEAS are taken. */
        private int bestFrom(int b, int taken) {
            int best = bests[b + 1][taken];
            for (int i = 0; i < life.beach.ideas; i++) {
                best = Math.max(best, bestWith(b, i, taken));
            }
            return best;
        }

        private int bestWith(int b, int i, int taken) {
            if (gains[b][i] == 0 || (taken >> i & 1) != 0) {
                return NONE;
            }
            return gains[b][i] + bests[b + 1][taken | 1 << i];
        }

        private void pickAlong(int bathers) {
            int taken = 0;
            for (int b = 0; b < bathers; b++) {
                picks[b] = NONE;
                int best = bests[b][taken];
                if (bests[b + 1][taken] < best) {
                    for (int i = 0; i < life.beach.ideas && picks[b] == NONE; i++) {
                        if (bestWith(b, i, taken) == best) {
                            picks[b] = i;
                        }
                    }
                    taken |= picks[b] == NONE ? 0 : 1 << picks[b];
                }
            }
        }

        int countOdds(int bather, int idea) {
            int squall = life.beach.squall;
            int count = 0;
            for (int tide = 0; tide <= MOST_TIDE; tide++) {
                count += squall * knownBy(bather, idea, tide);
            }
            return count + 10 * (100 - squall) * knownBy(bather, idea, life.tideAt(now.hour));
        }

        /** 1 if he knows it behind the next HOUR when the TIDE is such, else 0. */
        private int knownBy(int bather, int idea, int tide) {
            copyRow(now.strong[bather], row);
            int planned = now.plannedFor(bather, now.hour);
            life.pass(row, bather, life.beach.wits[bather], now.hour, planned, tide);
            return row[idea] > 0 ? 1 : 0;
        }

        int witsLeft(int bather) {
            int bits = 0;
            for (int wits = 0; wits < WITS; wits++) {
                boolean so = true;
                for (int k = 0; k < foundRows && so; k++) {
                    so = isSo(ROW_BYTES * k, bather, wits);
                }
                if (so) {
                    bits |= 1 << wits;
                }
            }
            return bits;
        }

        /** Whether a row FOUND is so, if that BATHER has such wits. */
        private boolean isSo(int at, int bather, int wits) {
            int hours = found[at];
            int who = found[at + 1];
            if (hours > hoursToCome(MOST_FAR)) {
                return false;
            }
            runRow(now, who, who == bather ? wits : life.beach.wits[who], hours);
            return row[found[at + 2]] == found[at + 3];
        }

        /** Follows him by all the WITS that are left at once, HOUR by HOUR. */
        void findTelling(int bather, int left) {
            tellingLeft = WITS + 1;
            for (int wits = 0; wits < WITS; wits++) {
                copyRow(now.strong[bather], guesses[wits]);
            }
            int most = hoursToCome(MOST_FAR);
            for (int k = 1; k <= most; k++) {
                int hour = now.hour + k - 1;
                int planned = now.plannedFor(bather, hour);
                for (int wits = 0; wits < WITS; wits++) {
                    life.pass(guesses[wits], bather, wits, hour, planned, NONE);
                }
                for (int i = 0; i < life.beach.ideas; i++) {
                    int alike = mostAlike(i, left);
                    if (alike < tellingLeft) {
                        tellingLeft = alike;
                        tellingHours = k;
                        tellingIdea = i;
                    }
                }
            }
        }

        /** How many of the WITS left tell the same strength of an IDEA, at the most. */
        private int mostAlike(int idea, int left) {
            int most = 0;
            for (int one = 0; one < WITS; one++) {
                int alike = 0;
                for (int other = 0; other < WITS; other++) {
                    if ((left >> other & 1) != 0 && guesses[other][idea] == guesses[one][idea]) {
                        alike++;
                    }
                }
                most = (left >> one & 1) != 0 ? Math.max(most, alike) : most;
            }
            return most;
        }
    }

    /**
     * A text word by word, number by number, sign by sign, with its first FAULT. What stands here is not blamed
     * until it is asked for, so that a FAULT further ahead is told first; behind a FAULT the text is at its end.
     */
    private static final class Text {
        /** What can stand here beside signs, each of which is its own byte, and the words of WORDS. */
        private static final int END = -1;
        private static final int SIDE_BY_SIDE = 256;
        private static final int NUMBER = 257;
        private static final int NAME = 258;

        /** The words as they follow one another in WORDS; those from FIRST on can be NAMES too. */
        private static final int IDEA = 259;
        private static final int DEPTH = 260;
        private static final int NEED = 261;
        private static final int FOR = 262;
        private static final int BATHER = 263;
        private static final int LUNG = 264;
        private static final int WITS = 265;
        private static final int PLAN = 266;
        private static final int IN = 267;
        private static final int TIDE = 268;
        private static final int KEEPS = 269;
        private static final int FADES = 270;
        private static final int BEARS = 271;
        private static final int SQUALL = 272;
        private static final int HOUR = 273;
        private static final int KNOWN = 274;
        private static final int STRENGTH = 275;
        private static final int ROOTED = 276;
        private static final int BY_NUMBER = 277;
        private static final int KNOWS = 278;
        private static final int READY = 279;
        private static final int OR = 280;
        private static final int AND = 281;
        private static final int NOT = 282;
        private static final int ALL = 283;
        private static final int MIN = 284;
        private static final int MAX = 285;
        private static final int FIRST = 286;
        private static final int LAST = 287;
        private static final int OFTEN = 288;
        private static final int TOTAL = 289;
        private static final int MOST = 290;
        private static final int LEAST = 291;
        /** Each with a blank behind it. */
        private static final String WORDS = "idea depth need for bather lung wits plan in tide keeps fades bears squall hour known strength rooted number knows ready or and not all min max first last often total most least ";

        private final byte[] bytes;
        private int length;
        private int here;
        private int from;
        private int to;
        private int nameAt;
        private int fault;
        private int place;

        Text(byte[] bytes) {
            this.bytes = bytes;
        }

        void open(int count) {
            length = Math.min(count, bytes.length);
            to = 0;
            fault = 0;
            place = NONE;
            next();
        }

        /** Only the first one counts. */
        void fail(int what, int where) {
            if (fault == 0) {
                fault = what;
                place = where;
                here = END;
            }
        }

        private static boolean isLetter(int c) {
            return c >= 'a' && c <= 'z';
        }

        private static boolean isDigit(int c) {
            return c >= '0' && c <= '9';
        }

        /** Goes on to what comes behind blanks. */
        void next() {
            from = to;
            while (from < length && (bytes[from] == 10 || bytes[from] == 32)) {
                from++;
            }
            if (fault != 0 || from >= length) {
                here = END;
                return;
            }
            boolean touches = from == to && from > 0;
            int before = touches ? bytes[from - 1] : 0;
            int c = bytes[from];
            to = from + 1;
            if (isLetter(c)) {
                while (to < length && isLetter(bytes[to])) {
                    to++;
                }
                here = isDigit(before) ? SIDE_BY_SIDE : wordHere();
            } else if (isDigit(c)) {
                while (to < length && isDigit(bytes[to])) {
                    to++;
                }
                here = isLetter(before) ? SIDE_BY_SIDE : NUMBER;
            } else {
                here = c & 255;
            }
        }

        private int wordHere() {
            int word = IDEA;
            int k = from;
            boolean same = true;
            for (int w = 0; w < WORDS.length(); w++) {
                if (WORDS.charAt(w) != ' ') {
                    same = same && k < to && bytes[k] == WORDS.charAt(w);
                    k++;
                } else if (same && k == to) {
                    return word;
                } else {
                    word++;
                    k = from;
                    same = true;
                }
            }
            return NAME;
        }

        boolean take(int what) {
            if (here != what || here == END) {
                return false;
            }
            next();
            return true;
        }

        void expect(int what) {
            if (!take(what)) {
                fail(1, from);
            }
        }

        int askNumber(int most) {
            if (here != NUMBER) {
                fail(1, from);
                return 0;
            }
            if (to - from > DIGITS) {
                fail(1, from + DIGITS);
                return 0;
            }
            int number = 0;
            for (int k = from; k < to; k++) {
                number = 10 * number + bytes[k] - '0';
            }
            if (number > most) {
                fail(2, from);
                return 0;
            }
            next();
            return number;
        }

        /** A name as a number, five bits a letter; nameAt is where it stands. */
        int askName() {
            if (here != NAME && here < FIRST) {
                fail(1, from);
                return 0;
            }
            if (to - from > NAME_LETTERS) {
                fail(1, from + NAME_LETTERS);
                return 0;
            }
            int name = 0;
            for (int k = from; k < to; k++) {
                name |= bytes[k] - 'a' + 1 << 5 * (k - from);
            }
            nameAt = from;
            next();
            return name;
        }
    }

    /** Reads TEST and SUM into orders. What is open is counted along, and so bounds the depth. */
    private static final class Formulas {
        private final Text text;
        private Orders orders;
        private int kind;

        Formulas(Text text, Orders orders) {
            this.text = text;
            this.orders = orders;
        }

        void begin(Orders into, int ofKind) {
            orders = into;
            kind = ofKind;
            orders.begin(kind);
        }

        void test(int open) {
            both(open);
            for (int k = 0; k < MOST_BYTES && text.take(Text.OR); k++) {
                both(open);
                orders.add(OR);
            }
        }

        private void both(int open) {
            fact(open);
            for (int k = 0; k < MOST_BYTES && text.take(Text.AND); k++) {
                fact(open);
                orders.add(AND);
            }
        }

        private void fact(int open) {
            if (text.here == Text.NOT) {
                if (opens(open)) {
                    fact(open + 1);
                    orders.add(NOT);
                }
            } else if (text.here == '[') {
                if (opens(open)) {
                    test(open + 1);
                    text.expect(']');
                }
            } else if (text.take(Text.ALL)) {
                orders.addNumber(1);
            } else {
                sum(open);
                int order = text.here == '<' ? LESS : text.here == '>' ? MORE : SAME;
                text.expect(order == LESS ? '<' : order == MORE ? '>' : '=');
                sum(open);
                orders.add(order);
            }
        }

        /** Whether what stands here may be open beside those that are; then it is taken. */
        private boolean opens(int open) {
            if (open >= MOST_OPEN) {
                text.fail(4, text.from);
                return false;
            }
            text.next();
            return true;
        }

        void sum(int open) {
            product(open);
            for (int k = 0; k < MOST_BYTES && (text.here == '+' || text.here == '-'); k++) {
                int order = text.here == '+' ? PLUS : MINUS;
                text.next();
                product(open);
                orders.add(order);
            }
        }

        private void product(int open) {
            part(open);
            for (int k = 0; k < MOST_BYTES && (text.here == '*' || text.here == '/'); k++) {
                int order = text.here == '*' ? TIMES : OVER;
                text.next();
                part(open);
                orders.add(order);
            }
        }

        private void part(int open) {
            switch (text.here) {
                case Text.NUMBER:
                    orders.addNumber(text.askNumber(9999));
                    break;
                case '(':
                    if (opens(open)) {
                        sum(open + 1);
                        text.expect(')');
                    }
                    break;
                case Text.MIN:
                    text.next();
                    pair(open, MIN);
                    break;
                case Text.MAX:
                    text.next();
                    pair(open, MAX);
                    break;
                case Text.KNOWS:
                    ofIdea(open, KNOWS);
                    break;
                case Text.READY:
                    ofIdea(open, READY);
                    break;
                default:
                    sight();
                    break;
            }
        }

        private void pair(int open, int order) {
            if (text.here != '(') {
                text.fail(1, text.from);
            } else if (opens(open)) {
                sum(open + 1);
                text.expect(',');
                sum(open + 1);
                text.expect(')');
                orders.add(order);
            }
        }

        private void ofIdea(int open, int order) {
            if (kind != QUESTION) {
                text.fail(1, text.from);
            } else if (opens(open)) {
                part(open + 1);
                orders.add(order);
            }
        }

        private void sight() {
            int sight = sightHere();
            if (sight == NONE) {
                text.fail(1, text.from);
            } else {
                orders.add(sight);
                text.next();
            }
        }

        /** What the word here stands for in this kind of formula. */
        private int sightHere() {
            boolean ofBather = kind != TIDE;
            boolean ofIdea = ofBather && kind != QUESTION;
            boolean ofBody = ofBather && kind != FADES;
            switch (text.here) {
                case Text.HOUR: return SEE_HOUR;
                case Text.WITS: return ofBather ? SEE_WITS : NONE;
                case Text.KNOWN: return ofBather ? SEE_KNOWN : NONE;
                case Text.DEPTH: return ofIdea ? SEE_DEPTH : NONE;
                case Text.LUNG: return ofBody ? SEE_LUNG : NONE;
                case Text.TIDE: return ofBody ? SEE_TIDE : NONE;
                case Text.STRENGTH: return kind == FADES ? SEE_STRENGTH : NONE;
                case Text.ROOTED: return kind == FADES ? SEE_ROOTED : NONE;
                case Text.BY_NUMBER: return kind == QUESTION ? SEE_NUMBER : NONE;
                default: return NONE;
            }
        }
    }

    /** Reads the text of a BEACH and of a QUESTION. */
    private static final class Reader {
        private final Text text;
        private final Formulas formulas;
        private Beach beach;

        Reader(Text text, Beach beach) {
            this.text = text;
            this.beach = beach;
            this.formulas = new Formulas(text, beach.orders);
        }

        /** How many STATEMENTS there are; with a FAULT the beach is not to be used. */
        int readBeach(Beach into) {
            beach = into;
            beach.clear();
            int told = 0;
            while (told < MOST_STATEMENTS && text.here != Text.END) {
                readStatement();
                text.expect(';');
                told++;
            }
            if (text.here != Text.END) {
                text.fail(5, text.from);
            }
            beach.finish();
            return told;
        }

        private void readStatement() {
            int from = text.from;
            int word = text.here;
            if (word < Text.IDEA) {
                text.fail(1, from);
                return;
            }
            text.next();
            switch (word) {
                case Text.IDEA: readIdea(from); break;
                case Text.NEED: readNeed(from); break;
                case Text.BATHER: readBather(from); break;
                case Text.PLAN: readRow(from); break;
                case Text.TIDE: readFormula(from, TIDE); break;
                case Text.KEEPS: readFormula(from, KEEPS); break;
                case Text.FADES: readFormula(from, FADES); break;
                case Text.BEARS: readFormula(from, BEARS); break;
                case Text.SQUALL: beach.squall = text.askNumber(100); break;
                default: text.fail(1, from); break;
            }
        }

        /** A FAULT, if there are as many of a kind as there can be. */
        private void askRoom(int there, int most, int from) {
            if (there >= most) {
                text.fail(5, from);
            }
        }

        private int newName() {
            int name = text.askName();
            if (beach.isNamed(name)) {
                text.fail(3, text.nameAt);
            }
            return name;
        }

        private int toldIdea() {
            int idea = beach.ideaNamed(text.askName());
            if (idea == NONE) {
                text.fail(3, text.nameAt);
            }
            return idea;
        }

        private int toldBather() {
            int bather = beach.batherNamed(text.askName());
            if (bather == NONE) {
                text.fail(3, text.nameAt);
            }
            return bather;
        }

        private void readIdea(int from) {
            askRoom(beach.ideas, MOST_IDEAS, from);
            int name = newName();
            text.expect(Text.DEPTH);
            beach.addIdea(name, text.askNumber(9));
        }

        private void readNeed(int from) {
            askRoom(beach.needsTold, MOST_NEEDS, from);
            int needed = toldIdea();
            text.expect(Text.FOR);
            int idea = toldIdea();
            if (text.fault != 0 || needed == NONE || idea == NONE) {
                return;
            }
            if (idea <= needed || (beach.needs[idea] >> needed & 1) != 0) {
                text.fail(3, text.nameAt);
                return;
            }
            beach.needs[idea] |= 1 << needed;
            beach.needsTold++;
        }

        private void readBather(int from) {
            askRoom(beach.bathers, MOST_BATHERS, from);
            int name = newName();
            text.expect(Text.LUNG);
            int lung = text.askNumber(9);
            text.expect(Text.WITS);
            beach.addBather(name, lung, text.askNumber(9));
        }

        private void readRow(int from) {
            askRoom(beach.rows, MOST_ROWS, from);
            int bather = toldBather();
            text.expect(Text.IN);
            beach.addRow(bather, toldIdea());
        }

        private void readFormula(int from, int kind) {
            askRoom(beach.orders.isTold(kind) ? 1 : 0, 1, from);
            formulas.begin(beach.orders, kind);
            if (kind == BEARS) {
                formulas.test(0);
            } else {
                formulas.sum(0);
            }
            beach.orders.finish(kind);
        }

        /** The word that the QUESTION begins with; its TEST or SUM is in the orders. */
        int readQuestion(Orders question) {
            int word = text.here;
            question.clear();
            formulas.begin(question, QUESTION);
            if (word < Text.FIRST) {
                text.fail(1, text.from);
                return NONE;
            }
            text.next();
            if (word == Text.FIRST || word == Text.LAST || word == Text.OFTEN) {
                formulas.test(0);
            } else {
                formulas.sum(0);
            }
            question.finish(QUESTION);
            if (text.here != Text.END) {
                text.fail(1, text.from);
            }
            return word;
        }
    }
}
