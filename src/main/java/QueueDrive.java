import java.util.Arrays;
import java.util.NoSuchElementException;

/**
 * A drive with many queues of commands. ../shared/DOC.md says what each call must do;
 * words in capitals are its terms.
 */
public final class QueueDrive {
    public static final int NONE = -1;

    private static final int MOST_QUEUES = 5;
    private static final int BLOCKS = 10;
    private static final int IDS = 16;
    private static final int NO_SUCH_QUESTION = -100;
    private static final int QUEUES_ARE_FULL = -100;
    private static final int FARTHEST = 99;

    private final Text text;
    private final Row told;
    private final Drive drive;
    private final Drive trial;
    private final Past past;
    private final Rule inForce;
    private final Rule draft;
    private final Hearsay hearsay;

    public QueueDrive() {
        text = new Text();
        told = new Row();
        drive = new Drive();
        trial = new Drive();
        past = new Past();
        inForce = new Rule();
        draft = new Rule();
        hearsay = new Hearsay();
    }

    // ---- queues, the rule

    public int sign(int v) {
        return text.add(v);
    }

    public boolean end(int n) {
        return text.cut(n);
    }

    public int queues() {
        int wrong = wrongQueueSign();
        int answer = -1 - wrong;
        if (wrong == NONE) {
            answer = drive.open(text.digit(0), text.digit(1), rankOf(text.at(2)), text.size > 3);
        }
        text.clear();
        if (answer >= 0) {
            past.forget();
        }
        return answer;
    }

    public int rule() {
        int answer = draft.read(text);
        text.clear();
        if (answer == 0) {
            inForce.copy(draft);
        }
        return answer;
    }

    public int queue(int queue, int what) throws NoSuchElementException {
        Lane lane = drive.lane(queue);
        if (lane == null || what < 0 || what >= Lane.DETAILS) {
            throw new NoSuchElementException("no such queue or number of it");
        }
        return lane.detail(what);
    }

    public int sheet(int kind, int n, int f, int step) {
        return drive.spread(kind, n, f, step);
    }

    // ---- what is done

    public int puts(int queue, int op, int block, int value) {
        past.note(drive);
        return past.seal(drive.write(queue, op, block, value));
    }

    public int ring(int queue) {
        past.note(drive);
        return past.seal(drive.tellBell(queue));
    }

    public int ticks(int n) {
        past.note(drive);
        return past.seal(drive.pass(n, inForce, told));
    }

    public int takes(int queue) {
        past.note(drive);
        return past.seal(drive.take(queue, told));
    }

    public int calls(int queue, int id) {
        past.note(drive);
        return past.seal(drive.callBack(queue, id));
    }

    public int resets() {
        past.note(drive);
        return past.seal(drive.reset(told));
    }

    public int weighs(int kind, int v) {
        past.note(drive);
        return past.seal(drive.weigh(kind, v));
    }

    public int depth(int v) {
        past.note(drive);
        return past.seal(drive.deepen(v));
    }

    public int day() {
        int wrong = wrongDaySign();
        if (wrong >= 0) {
            text.clear();
            return -1 - wrong;
        }
        past.note(drive);
        int done = 0;
        boolean refused = false;
        int p = 0;
        for (int i = 0; i < Text.LONGEST && p < text.size && !refused; i++) {
            refused = act(p) < 0;
            done += refused ? 0 : 1;
            p += lengthOfAct(p);
        }
        past.seal(done > 0 ? done : NONE);
        told.tell(refused ? 1 : 0, drive.tick);
        text.clear();
        return done;
    }

    public int undo() {
        return past.back(drive);
    }

    // ---- what there is

    public int waiting(int queue) {
        Lane lane = drive.lane(queue);
        if (lane == null) {
            return NONE;
        }
        told.clear();
        int many = lane.inRing();
        for (int k = 0; k < many; k++) {
            int command = lane.commandAt(k);
            told.add(10 * Command.id(command) + Command.op(command));
        }
        return many;
    }

    public int running() {
        return drive.listRuns(told);
    }

    public int outbox() {
        return drive.listOutbox(told);
    }

    public int phases(int queue) {
        Lane lane = drive.lane(queue);
        if (lane == null || lane.places < 1) {
            return NONE;
        }
        told.tell(lane.taken % lane.places, lane.phaseOf(lane.taken));
        return lane.phaseBits();
    }

    public int room(int queue) {
        Lane lane = drive.lane(queue);
        if (lane == null) {
            return NONE;
        }
        told.tell(lane.roomBySlots(), lane.roomByIds());
        return Math.min(lane.roomBySlots(), lane.roomByIds());
    }

    public int block(int block) {
        if (block < 0 || block >= BLOCKS) {
            return NONE;
        }
        told.tell(drive.writesInRings(block), drive.writesRunning(block));
        return drive.held(block);
    }

    // ---- what is to come

    public int next() {
        trial.copy(drive);
        int queue = trial.choose();
        Lane lane = trial.lane(queue);
        if (lane == null) {
            return -2;
        }
        told.tell(lane.rank, trial.creditOf(lane.rank));
        return queue;
    }

    public int deals(int n) {
        if (n < 1 || n > 60) {
            return NONE;
        }
        if (!drive.anyWork()) {
            return -2;
        }
        trial.copy(drive);
        return trial.deal(n, told);
    }

    public int when(int queue, int id) {
        Lane lane = drive.lane(queue);
        if (lane == null || id < 0 || id >= IDS) {
            return NONE;
        }
        if (!lane.isUsed(id) || lane.postedAt(id) != NONE) {
            return -3;
        }
        trial.copy(drive);
        return trial.awaitPosted(queue, id, inForce, told);
    }

    public int drains() {
        trial.copy(drive);
        int answer = trial.drain(inForce);
        if (answer >= 0) {
            told.tell(trial.sum(Lane.TAKEN) - drive.sum(Lane.TAKEN), trial.heldInAll());
        }
        return answer;
    }

    public int would(int block) {
        if (block < 0 || block >= BLOCKS) {
            return NONE;
        }
        trial.copy(drive);
        trial.tellAllBells();
        told.tell(trial.drain(inForce) >= 0 ? 1 : 0);
        return trial.held(block);
    }

    public int needs(int queue) {
        trial.copy(drive);
        int answer = trial.tellBell(queue);
        Lane now = drive.lane(queue);
        Lane then = trial.lane(queue);
        if (answer >= 0 && now != null && then != null) {
            told.tell(then.seen - now.seen);
        }
        return answer;
    }

    public int bells() {
        told.tell(drive.bellsSaved);
        return drive.bellsRung;
    }

    public int recall(int queue, int id) {
        int answer = drive.judge(queue, id);
        if (answer >= 0) {
            told.tell(drive.leftOf(queue, id), drive.turnOf(queue, id));
        }
        return answer;
    }

    public int served() {
        int high = drive.fetchedOfRank(1);
        int middle = drive.fetchedOfRank(2);
        int low = drive.fetchedOfRank(3);
        told.tell(high, middle, low);
        told.add(drive.fetchedOfRank(0));
        return high + middle + low;
    }

    // ---- which command it was

    public int heard(int what, int v) {
        return hearsay.hear(what, v);
    }

    public int denies() {
        return hearsay.deny();
    }

    public int fits() {
        return hearsay.listFits(drive, told);
    }

    public int asks() {
        return hearsay.bestQuestion(drive, told);
    }

    // ---- a game, rules, years

    public int laps(int n, int p, int k) {
        if (n < 2 || n > 40 || p < 0 || p > n - 1 || k < 1 || k > 9) {
            return NONE;
        }
        // who leaves a multiple of k + 1 places to go wins, and only by that one number
        return (n - 1 - p) % (k + 1);
    }

    public int law() {
        int answer = draft.read(text);
        text.clear();
        if (answer < 0) {
            return answer - 999;
        }
        int other = drainTime(draft);
        int present = drainTime(inForce);
        told.tell(other, present);
        return other - present;
    }

    public int years(int seed, int n) {
        if (n < 1 || n > 40) {
            return NONE;
        }
        trial.copy(drive);
        Draws draws = new Draws(seed);
        for (int i = 0; i < n; i++) {
            trial.live(draws, inForce, told);
        }
        told.tell(trial.sum(Lane.FETCHED) - drive.sum(Lane.FETCHED), trial.heldInAll(), trial.tick);
        return trial.sum(Lane.TAKEN) - drive.sum(Lane.TAKEN);
    }

    // ---- kept

    public boolean keep(int i) {
        return past.keepAs(i, drive);
    }

    public boolean again(int i) {
        return past.bringBack(i, drive);
    }

    public int count(int what) {
        switch (what) {
            case 0: return drive.many;
            case 1: return drive.inRings();
            case 2: return drive.runs;
            case 3: return drive.boxed;
            case 4: return drive.sum(Lane.POSTED) - drive.sum(Lane.TAKEN);
            case 5: return drive.tick;
            case 6: return drive.atOnce;
            case 7: return drive.heldInAll();
            case 8: return hearsay.size;
            case 9: return past.size;
            case 10: return told.size;
            case 11: return text.size;
            default: return NO_SUCH_QUESTION;
        }
    }

    public long row(int i) throws NoSuchElementException {
        if (i < 0 || i >= told.size) {
            throw new NoSuchElementException("no such number in the row");
        }
        return told.at(i);
    }

    // ---- texts of queues and days

    /** Where THE TEXT fails to tell a QUEUE, or NONE. */
    private int wrongQueueSign() {
        for (int p = 0; p < 2; p++) {
            if (text.at(p) < '2' || text.at(p) > '8') {
                return p;
            }
        }
        if (rankOf(text.at(2)) == NONE) {
            return 2;
        }
        if (text.size > 3 && text.at(3) != 's') {
            return 3;
        }
        return text.size > 4 ? 4 : NONE;
    }

    private static int rankOf(int letter) {
        switch (letter) {
            case 'u': return 0;
            case 'h': return 1;
            case 'm': return 2;
            case 'l': return 3;
            default: return NONE;
        }
    }

    /** Where THE TEXT fails to tell A DAY, or NONE. */
    private int wrongDaySign() {
        int p = 0;
        while (p < text.size) {
            String form = formOf(text.at(p));
            if (form == null) {
                return p;
            }
            p++;
            for (int k = 0; k < form.length(); k++, p++) {
                if (text.at(p) < '0' || text.at(p) > form.charAt(k)) {
                    return p;
                }
            }
        }
        return NONE;
    }

    /** The highest digit at each place behind an act's letter; null: no act has that letter. */
    private static String formOf(int letter) {
        switch (letter) {
            case 'p': return "94999";
            case 'r': return "9";
            case 't': return "9";
            case 'k': return "9";
            case 'c': return "999";
            case 'x': return "";
            default: return null;
        }
    }

    /** How many signs the act at p of THE TEXT has. */
    private int lengthOfAct(int p) {
        String form = formOf(text.at(p));
        return form == null ? 1 : 1 + form.length();
    }

    /** What the act at p of THE TEXT answers, as it is done. */
    private int act(int p) {
        int first = text.digit(p + 1);
        switch (text.at(p)) {
            case 'p': return drive.write(first, text.digit(p + 2), text.digit(p + 3), text.twoDigits(p + 4));
            case 'r': return drive.tellBell(first);
            case 't': return drive.pass(first, inForce, told);
            case 'k': return drive.take(first, told);
            case 'c': return drive.callBack(first, text.twoDigits(p + 2));
            case 'x': return drive.reset(told);
            default: return NONE;
        }
    }

    private int drainTime(Rule rule) {
        trial.copy(drive);
        int time = trial.drain(rule);
        return time < 0 ? FARTHEST + 1 : time;
    }

    /** THE TEXT. */
    private static final class Text {
        private static final int LONGEST = 80;

        private final char[] signs = new char[LONGEST];
        private int size;

        int add(int v) {
            if (size > LONGEST - 4) {
                return NONE;
            }
            for (int shift = 24; shift >= 0; shift -= 8) {
                signs[size] = (char) (v >> shift & 255);
                size++;
            }
            return size;
        }

        boolean cut(int n) {
            if (n < 0 || n > size) {
                return false;
            }
            size = n;
            return true;
        }

        void clear() {
            size = 0;
        }

        /** The sign at p; NONE where there is none. */
        int at(int p) {
            return p >= 0 && p < size ? signs[p] : NONE;
        }

        int digit(int p) {
            return at(p) - '0';
        }

        int twoDigits(int p) {
            return 10 * digit(p) + digit(p + 1);
        }
    }

    /** THE ROW. */
    private static final class Row {
        private static final int LONGEST = 12;

        private final long[] numbers = new long[LONGEST];
        private int size;

        void clear() {
            size = 0;
        }

        void add(long number) {
            if (size < LONGEST) {
                numbers[size] = number;
                size++;
            }
        }

        void tell(long first) {
            clear();
            add(first);
        }

        void tell(long first, long second) {
            tell(first);
            add(second);
        }

        void tell(long first, long second, long third) {
            tell(first, second);
            add(third);
        }

        long at(int i) {
            return i >= 0 && i < size ? numbers[i] : 0;
        }
    }

    /** DRAWS from a seed. */
    private static final class Draws {
        private int r;

        Draws(int seed) {
            r = seed;
        }

        int of(int n) {
            r = r * 1103515245 + 12345;
            return n > 0 ? (r >>> 16) % n : 0;
        }
    }

    /** A COMMAND, held in one number so that rings are copied at once. */
    private static final class Command {
        private static final int READ = 0;
        private static final int WRITE = 1;
        private static final int COMPARE = 2;
        private static final int PAIRED = 3;
        private static final int FLUSH = 4;
        private static final int CALLED = 1 << 18;

        static int of(int id, int op, int block, int value) {
            return id | op << 4 | block << 7 | value << 11;
        }

        static int id(int command) {
            return command & 15;
        }

        static int op(int command) {
            return command >> 4 & 7;
        }

        static int block(int command) {
            return command >> 7 & 15;
        }

        static int value(int command) {
            return command >> 11 & 127;
        }

        static boolean isCalled(int command) {
            return (command & CALLED) != 0;
        }

        static boolean writesTo(int command, int block) {
            return (op(command) == WRITE || op(command) == PAIRED) && block(command) == block;
        }
    }

    /** A completion, held in one number likewise. */
    private static final class Completion {
        private static final int DONE = 0;
        private static final int CALLED_BACK = 1;
        private static final int UNLIKE = 2;
        private static final int NOT_WRITTEN = 3;
        private static final int UNPAIRED = 4;

        static int of(int queue, int id, int status, int result) {
            return queue | id << 3 | status << 7 | result << 10;
        }

        static int queue(int completion) {
            return completion & 7;
        }

        static int id(int completion) {
            return completion >> 3 & 15;
        }

        static int status(int completion) {
            return completion >> 7 & 7;
        }

        static int result(int completion) {
            return completion >> 10 & 127;
        }
    }

    /** A RULE, kept as things and signs in the order in which they are worked out. */
    private static final class Rule {
        private static final int LONGEST = 40;
        private static final int DEEPEST = 4;
        private static final String LETTERS = "obvqcdn";
        // entries of the code: NUMBERS below LETTER, then letters by their place, then signs
        private static final int LETTER = 1000;
        private static final int SIGN = 2000;
        // signs are 0 .. 255: no text can tell this one, a minus ahead of a thing
        private static final int NEGATE = 256;

        private final int[] code = new int[LONGEST];
        private int size;
        private final int[] held = new int[LONGEST];
        private int holding;
        private final boolean[] compared = new boolean[DEEPEST + 1];
        private int brackets;
        private int digits;
        private boolean awaitsThing;
        private final int[] things = new int[7];
        private final int[] stack = new int[LONGEST];

        void copy(Rule from) {
            System.arraycopy(from.code, 0, code, 0, LONGEST);
            size = from.size;
        }

        /** Becomes what the text tells: 0, or -1 - p, if the sign at p can't stand there. */
        int read(Text text) {
            size = 0;
            holding = 0;
            brackets = 0;
            digits = 0;
            compared[0] = false;
            awaitsThing = true;
            int end = Math.min(text.size, LONGEST);
            for (int p = 0; p < end; p++) {
                if (!takesIn(text.at(p))) {
                    return -1 - p;
                }
            }
            if (text.size > LONGEST) {
                return -1 - LONGEST;
            }
            if (end > 0 && (awaitsThing || brackets > 0)) {
                return -1 - end;
            }
            release(1);
            return 0;
        }

        /** Whether the sign can stand next; then it is taken in. */
        private boolean takesIn(int sign) {
            if (sign >= '0' && sign <= '9') {
                return takesDigit(sign - '0');
            }
            return awaitsThing ? takesThing(sign) : takesBehindThing(sign);
        }

        private boolean takesDigit(int digit) {
            if (awaitsThing) {
                emit(digit);
                digits = 1;
                awaitsThing = false;
                return true;
            }
            if (digits < 1 || digits > 2 || size < 1 || size > LONGEST) {
                return false;
            }
            code[size - 1] = 10 * code[size - 1] + digit;
            digits++;
            return true;
        }

        private boolean takesThing(int sign) {
            digits = 0;
            if (sign == '-') {
                hold(NEGATE);
                return true;
            }
            if (sign == '(') {
                return opens();
            }
            int letter = sign < 0 ? NONE : LETTERS.indexOf((char) sign);
            if (letter < 0) {
                return false;
            }
            emit(LETTER + letter);
            awaitsThing = false;
            return true;
        }

        private boolean opens() {
            if (brackets >= DEEPEST) {
                return false;
            }
            brackets++;
            compared[brackets] = false;
            hold('(');
            return true;
        }

        private boolean takesBehindThing(int sign) {
            digits = 0;
            int strength = strengthOf(sign);
            if (sign == ')') {
                return closes();
            }
            if (strength < 1 || brackets < 0 || brackets > DEEPEST) {
                return false;
            }
            if (strength == 1) {
                if (compared[brackets]) {
                    return false;
                }
                compared[brackets] = true;
            }
            release(strength);
            hold(sign);
            awaitsThing = true;
            return true;
        }

        private boolean closes() {
            if (brackets < 1) {
                return false;
            }
            release(1);
            holding--;
            brackets--;
            return true;
        }

        /** How tightly a sign that is held, or comes behind a thing, binds; 0: none that binds. */
        private static int strengthOf(int sign) {
            switch (sign) {
                case '<': return 1;
                case '>': return 1;
                case '=': return 1;
                case '+': return 2;
                case '-': return 2;
                case '*': return 3;
                case '/': return 3;
                case NEGATE: return 4;
                default: return 0;
            }
        }

        private void hold(int sign) {
            if (holding >= 0 && holding < LONGEST) {
                held[holding] = sign;
                holding++;
            }
        }

        /** The held signs that bind as tightly or more are worked out ahead of what comes. */
        private void release(int strength) {
            while (holding > 0 && holding <= LONGEST && strengthOf(held[holding - 1]) >= strength) {
                holding--;
                emit(SIGN + held[holding]);
            }
        }

        private void emit(int entry) {
            if (size >= 0 && size < LONGEST) {
                code[size] = entry;
                size++;
            }
        }

        /** TIME of a COMMAND. */
        int time(int command, int queue, int rank, int running, int tick) {
            if (size == 0) {
                return Command.op(command) > 0 ? 2 : 1;
            }
            things[0] = Command.op(command);
            things[1] = Command.block(command);
            things[2] = Command.value(command);
            things[3] = queue;
            things[4] = rank;
            things[5] = running;
            things[6] = tick % 7;
            return Math.min(9, Math.max(1, worth()));
        }

        private int worth() {
            int top = 0;
            for (int i = 0; i < size && i < LONGEST; i++) {
                int entry = code[i];
                if (entry < SIGN) {
                    if (top < LONGEST) {
                        stack[top] = thing(entry);
                        top++;
                    }
                } else if (entry == SIGN + NEGATE) {
                    if (top > 0) {
                        stack[top - 1] = -stack[top - 1];
                    }
                } else if (top > 1) {
                    stack[top - 2] = joined(entry - SIGN, stack[top - 2], stack[top - 1]);
                    top--;
                }
            }
            return stack[0];
        }

        private int thing(int entry) {
            int letter = entry - LETTER;
            return letter >= 0 && letter < things.length ? things[letter] : entry;
        }

        private static int joined(int sign, int left, int right) {
            switch (sign) {
                case '<': return left < right ? 1 : 0;
                case '>': return left > right ? 1 : 0;
                case '=': return left == right ? 1 : 0;
                case '+': return left + right;
                case '-': return left - right;
                case '*': return left * right;
                default: return right == 0 ? 0 : left / right;
            }
        }
    }

    /** A QUEUE. Its rings have 8 slots and places to fill: a count's lowest three bits are where it stands. */
    private static final class Lane {
        private static final int PLACE = 7;
        // what queue() calls them
        private static final int DETAILS = 13;
        private static final int WRITTEN = 4;
        private static final int FETCHED = 7;
        private static final int POSTED = 9;
        private static final int TAKEN = 10;

        private int slots;
        private int places;
        private int rank;
        private boolean shadowed;
        private int written;
        private int rung;
        private int seen;
        private int fetched;
        private int told;
        private int posted;
        private int taken;
        private int mark;
        private boolean awake;
        private int usedIds;
        private final int[] ring = new int[PLACE + 1];
        private final int[] done = new int[PLACE + 1];
        private final int[] heads = new int[PLACE + 1];

        void copy(Lane from) {
            slots = from.slots;
            places = from.places;
            rank = from.rank;
            shadowed = from.shadowed;
            written = from.written;
            rung = from.rung;
            seen = from.seen;
            fetched = from.fetched;
            told = from.told;
            posted = from.posted;
            taken = from.taken;
            mark = from.mark;
            awake = from.awake;
            usedIds = from.usedIds;
            System.arraycopy(from.ring, 0, ring, 0, PLACE + 1);
            System.arraycopy(from.done, 0, done, 0, PLACE + 1);
            System.arraycopy(from.heads, 0, heads, 0, PLACE + 1);
        }

        void empty() {
            written = 0;
            rung = 0;
            seen = 0;
            fetched = 0;
            told = 0;
            posted = 0;
            taken = 0;
            mark = 0;
            awake = false;
            usedIds = 0;
        }

        int detail(int what) {
            switch (what) {
                case 0: return slots;
                case 1: return places;
                case 2: return rank;
                case 3: return shadowed ? 1 : 0;
                case WRITTEN: return written;
                case 5: return rung;
                case 6: return seen;
                case FETCHED: return fetched;
                case 8: return told;
                case POSTED: return posted;
                case TAKEN: return taken;
                case 11: return mark;
                default: return awake ? 1 : 0;
            }
        }

        int inRing() {
            return written - fetched;
        }

        boolean hasWork() {
            return seen > fetched;
        }

        int roomBySlots() {
            return slots - 1 - (written - told);
        }

        int roomByIds() {
            return IDS - notTaken();
        }

        int notTaken() {
            return Integer.bitCount(usedIds);
        }

        boolean isUsed(int id) {
            return (usedIds >> id & 1) == 1;
        }

        private int leastId() {
            for (int id = 0; id < IDS; id++) {
                if (!isUsed(id)) {
                    return id;
                }
            }
            return NONE;
        }

        int write(int op, int block, int value) {
            if (roomBySlots() <= 0) {
                return -2;
            }
            int id = leastId();
            if (id == NONE) {
                return -3;
            }
            usedIds |= 1 << id;
            ring[written & PLACE] = Command.of(id, op, block, value);
            written++;
            return id;
        }

        /** RUNG becomes WRITTEN: whether a bell was needed (1), none (0), or -2. */
        int tellBell() {
            if (rung == written) {
                return -2;
            }
            int was = rung;
            rung = written;
            if (shadowed && (mark < was || mark >= rung)) {
                return 0;
            }
            seen = rung;
            awake = shadowed;
            return 1;
        }

        /** The drive looks at the shadow; it sleeps when nothing is there. */
        void lookAtShadow() {
            if (!shadowed || !awake) {
                return;
            }
            seen = rung;
            if (seen == fetched) {
                mark = seen;
                awake = false;
            }
        }

        /** The COMMAND that is k behind the first in the ring. */
        int commandAt(int k) {
            return ring[fetched + k & PLACE];
        }

        /** Where in the ring the COMMAND of an ID is, from 0 on, or NONE. */
        int turnOf(int id) {
            for (int k = 0; k < inRing(); k++) {
                if (Command.id(commandAt(k)) == id) {
                    return k;
                }
            }
            return NONE;
        }

        void markCalled(int k) {
            ring[fetched + k & PLACE] |= Command.CALLED;
        }

        int fetchOne() {
            int command = commandAt(0);
            fetched++;
            return command;
        }

        boolean hasPairedNext() {
            int command = commandAt(0);
            return hasWork() && Command.op(command) == Command.PAIRED && !Command.isCalled(command);
        }

        /** Whether the completion found room and was POSTED. */
        boolean post(int completion) {
            if (posted - taken >= places - 1) {
                return false;
            }
            done[posted & PLACE] = completion;
            heads[posted & PLACE] = fetched;
            posted++;
            return true;
        }

        /** Which POSTED completion, not TAKEN, is of an ID, or NONE. */
        int postedAt(int id) {
            for (int i = taken; i < posted; i++) {
                if (Completion.id(done[i & PLACE]) == id) {
                    return i;
                }
            }
            return NONE;
        }

        int completionAt(int i) {
            return done[i & PLACE];
        }

        int headAt(int i) {
            return heads[i & PLACE];
        }

        void take() {
            told = headAt(taken);
            usedIds &= ~(1 << Completion.id(completionAt(taken)));
            taken++;
        }

        void takeAll() {
            int many = posted - taken;
            for (int i = 0; i < many; i++) {
                take();
            }
        }

        /** PHASE of the completion that is POSTED when so many were ahead of it. */
        int phaseOf(int ahead) {
            return places > 0 && ahead / places % 2 == 0 ? 1 : 0;
        }

        int phaseBits() {
            int bits = 0;
            for (int i = Math.max(0, posted - places); i < posted; i++) {
                if (places > 0 && phaseOf(i) == 1) {
                    bits |= 1 << i % places;
                }
            }
            return bits;
        }
    }

    /** All that undo() brings back. */
    private static final class Drive {
        private static final int MOST_RUNNING = 4;
        private static final int RANKS = 4;

        private int many;
        private final Lane[] lanes = new Lane[MOST_QUEUES];
        private final int[] blocks = new int[BLOCKS];
        private final int[] weights = new int[RANKS];
        private final int[] credits = new int[RANKS];
        private final int[] lasts = new int[RANKS];
        private int atOnce;
        private int tick;
        private int bellsRung;
        private int bellsSaved;
        private int runs;
        private final int[] runLeft = new int[MOST_RUNNING];
        private final int[] runQueue = new int[MOST_RUNNING];
        private final int[] runFirst = new int[MOST_RUNNING];
        private final int[] runSecond = new int[MOST_RUNNING];
        private int boxed;
        private final int[] box = new int[MOST_QUEUES * IDS];

        Drive() {
            for (int q = 0; q < MOST_QUEUES; q++) {
                lanes[q] = new Lane();
            }
            atOnce = 2;
            for (int rank = 1; rank < RANKS; rank++) {
                weights[rank] = RANKS - rank;
                credits[rank] = RANKS - rank;
            }
            Arrays.fill(lasts, MOST_QUEUES - 1);
        }

        void copy(Drive from) {
            many = from.many;
            for (int q = 0; q < MOST_QUEUES; q++) {
                lanes[q].copy(from.lanes[q]);
            }
            System.arraycopy(from.blocks, 0, blocks, 0, BLOCKS);
            System.arraycopy(from.weights, 0, weights, 0, RANKS);
            System.arraycopy(from.credits, 0, credits, 0, RANKS);
            System.arraycopy(from.lasts, 0, lasts, 0, RANKS);
            atOnce = from.atOnce;
            tick = from.tick;
            bellsRung = from.bellsRung;
            bellsSaved = from.bellsSaved;
            runs = from.runs;
            System.arraycopy(from.runLeft, 0, runLeft, 0, MOST_RUNNING);
            System.arraycopy(from.runQueue, 0, runQueue, 0, MOST_RUNNING);
            System.arraycopy(from.runFirst, 0, runFirst, 0, MOST_RUNNING);
            System.arraycopy(from.runSecond, 0, runSecond, 0, MOST_RUNNING);
            boxed = from.boxed;
            System.arraycopy(from.box, 0, box, 0, MOST_QUEUES * IDS);
        }

        /** The QUEUE of a number; null, if there is none such. */
        Lane lane(int queue) {
            return queue >= 0 && queue < many && queue < MOST_QUEUES ? lanes[queue] : null;
        }

        int open(int slots, int places, int rank, boolean shadowed) {
            if (many < 0 || many >= MOST_QUEUES) {
                return QUEUES_ARE_FULL;
            }
            Lane lane = lanes[many];
            many++;
            lane.slots = slots;
            lane.places = places;
            lane.rank = rank;
            lane.shadowed = shadowed;
            return many - 1;
        }

        // what BLOCKS hold

        int held(int block) {
            return block >= 0 && block < BLOCKS ? blocks[block] : 0;
        }

        private void hold(int block, int value) {
            if (block >= 0 && block < BLOCKS) {
                blocks[block] = value;
            }
        }

        int heldInAll() {
            int sum = 0;
            for (int block = 0; block < BLOCKS; block++) {
                sum += blocks[block];
            }
            return sum;
        }

        int spread(int kind, int n, int f, int step) {
            if (kind < 0 || kind > 3 || n > BLOCKS) {
                return NONE;
            }
            boolean missing = kind == 3;
            if (!missing && n < 0) {
                return -2;
            }
            for (int block = 0; block < BLOCKS; block++) {
                blocks[block] = missing || block >= n ? 0 : entry(kind, f + block * step);
            }
            return missing ? -3 : heldInAll();
        }

        private static int entry(int kind, int number) {
            int worth = kind == 0 ? (byte) number : kind == 1 ? (short) number : number;
            return Math.min(99, Math.max(0, worth));
        }

        int writesInRings(int block) {
            int writes = 0;
            for (int q = 0; q < many && q < MOST_QUEUES; q++) {
                for (int k = 0; k < lanes[q].inRing(); k++) {
                    int command = lanes[q].commandAt(k);
                    if (Command.writesTo(command, block) && !Command.isCalled(command)) {
                        writes++;
                    }
                }
            }
            return writes;
        }

        int writesRunning(int block) {
            int writes = 0;
            for (int i = 0; i < runs && i < MOST_RUNNING; i++) {
                int command = runSecond[i] == NONE ? runFirst[i] : runSecond[i];
                if (Command.writesTo(command, block)) {
                    writes++;
                }
            }
            return writes;
        }

        // sums over QUEUES

        /** One number of each QUEUE (as queue() tells it), added up. */
        int sum(int what) {
            int sum = 0;
            for (int q = 0; q < many && q < MOST_QUEUES; q++) {
                sum += lanes[q].detail(what);
            }
            return sum;
        }

        int inRings() {
            return sum(Lane.WRITTEN) - sum(Lane.FETCHED);
        }

        int fetchedOfRank(int rank) {
            int sum = 0;
            for (int q = 0; q < many && q < MOST_QUEUES; q++) {
                sum += lanes[q].rank == rank ? lanes[q].fetched : 0;
            }
            return sum;
        }

        private int notTaken() {
            int sum = 0;
            for (int q = 0; q < many && q < MOST_QUEUES; q++) {
                sum += lanes[q].notTaken();
            }
            return sum;
        }

        // what the host does

        int write(int queue, int op, int block, int value) {
            Lane lane = lane(queue);
            if (lane == null || op < Command.READ || op > Command.FLUSH
                    || block < 0 || block >= BLOCKS || value < 0 || value > 99) {
                return NONE;
            }
            return lane.write(op, block, value);
        }

        int tellBell(int queue) {
            Lane lane = lane(queue);
            if (lane == null) {
                return NONE;
            }
            int answer = lane.tellBell();
            if (answer == 1) {
                bellsRung++;
            }
            if (answer == 0) {
                bellsSaved++;
            }
            return answer;
        }

        void tellAllBells() {
            for (int q = 0; q < many; q++) {
                tellBell(q);
            }
        }

        int take(int queue, Row row) {
            Lane lane = lane(queue);
            if (lane == null) {
                return NONE;
            }
            if (lane.taken >= lane.posted) {
                return -2;
            }
            int completion = lane.completionAt(lane.taken);
            row.tell(Completion.result(completion), lane.headAt(lane.taken), lane.phaseOf(lane.taken));
            lane.take();
            return 10 * Completion.id(completion) + Completion.status(completion);
        }

        int reset(Row row) {
            int inRings = inRings();
            int inRuns = runs;
            for (int i = 0; i < runs && i < MOST_RUNNING; i++) {
                inRuns += runSecond[i] == NONE ? 0 : 1;
            }
            int lost = notTaken();
            for (int q = 0; q < MOST_QUEUES; q++) {
                lanes[q].empty();
            }
            runs = 0;
            boxed = 0;
            System.arraycopy(weights, 0, credits, 0, RANKS);
            Arrays.fill(lasts, MOST_QUEUES - 1);
            row.tell(inRings, inRuns, lost - inRings - inRuns);
            return lost;
        }

        int weigh(int kind, int v) {
            if (kind < 1 || kind >= RANKS || v < 1 || v > 9) {
                return NONE;
            }
            int was = weights[kind];
            if (was == v) {
                return -2;
            }
            weights[kind] = v;
            credits[kind] = v;
            return 10 + was;
        }

        int deepen(int v) {
            if (v < 1 || v > MOST_RUNNING) {
                return NONE;
            }
            int was = atOnce;
            if (was == v) {
                return -2;
            }
            atOnce = v;
            return 10 + was;
        }

        // calling back

        /** Which RUNNING one, from 0 on, has the COMMAND, or NONE. */
        private int runOf(int queue, int id) {
            for (int i = 0; i < runs && i < MOST_RUNNING; i++) {
                boolean first = Command.id(runFirst[i]) == id;
                boolean second = runSecond[i] != NONE && Command.id(runSecond[i]) == id;
                if (runQueue[i] == queue && (first || second)) {
                    return i;
                }
            }
            return NONE;
        }

        /** What calling back would answer. */
        int judge(int queue, int id) {
            Lane lane = lane(queue);
            if (lane == null || id < 0 || id >= IDS) {
                return NONE;
            }
            int turn = lane.turnOf(id);
            if (turn != NONE) {
                return Command.isCalled(lane.commandAt(turn)) ? -3 : 0;
            }
            int run = runOf(queue, id);
            if (run < 0 || run >= MOST_RUNNING) {
                return -2;
            }
            return runLeft[run] < 2 ? -4 : 1;
        }

        int callBack(int queue, int id) {
            int answer = judge(queue, id);
            Lane lane = lane(queue);
            if (answer == 0 && lane != null) {
                lane.markCalled(lane.turnOf(id));
            }
            if (answer == 1) {
                breakOff(runOf(queue, id));
            }
            return answer;
        }

        private void breakOff(int run) {
            if (run < 0 || run >= runs || run >= MOST_RUNNING) {
                return;
            }
            deliver(runQueue[run], runFirst[run], Completion.CALLED_BACK, 0);
            if (runSecond[run] != NONE) {
                deliver(runQueue[run], runSecond[run], Completion.CALLED_BACK, 0);
            }
            runs--;
            for (int i = run; i < runs && i < MOST_RUNNING - 1; i++) {
                moveRun(i + 1, i);
            }
        }

        /** LEFT of a COMMAND that is RUNNING; 0 for another. */
        int leftOf(int queue, int id) {
            int run = runOf(queue, id);
            return run >= 0 && run < MOST_RUNNING ? runLeft[run] : 0;
        }

        /** Which one a COMMAND is in its ring, or among those RUNNING. */
        int turnOf(int queue, int id) {
            Lane lane = lane(queue);
            int turn = lane == null ? NONE : lane.turnOf(id);
            return turn != NONE ? turn : runOf(queue, id);
        }

        /** The COMMAND of an ID that is in a ring or RUNNING, or NONE. */
        int commandOf(int queue, int id) {
            Lane lane = lane(queue);
            if (lane == null) {
                return NONE;
            }
            int turn = lane.turnOf(id);
            if (turn != NONE) {
                return lane.commandAt(turn);
            }
            int run = runOf(queue, id);
            if (run < 0 || run >= MOST_RUNNING) {
                return NONE;
            }
            return Command.id(runFirst[run]) == id ? runFirst[run] : runSecond[run];
        }

        boolean isRunning(int queue, int id) {
            return runOf(queue, id) != NONE;
        }

        // whose turn it is

        boolean anyWork() {
            for (int q = 0; q < many && q < MOST_QUEUES; q++) {
                if (lanes[q].hasWork()) {
                    return true;
                }
            }
            return false;
        }

        int creditOf(int rank) {
            return rank > 0 && rank < RANKS ? credits[rank] : 0;
        }

        /** The first QUEUE of a CLASS with WORK behind LAST of it, or NONE. */
        private int firstBehindLast(int rank) {
            int last = rank >= 0 && rank < RANKS ? lasts[rank] : 0;
            for (int step = 1; step <= MOST_QUEUES; step++) {
                int queue = (last + step) % MOST_QUEUES;
                Lane lane = lane(queue);
                if (lane != null && lane.rank == rank && lane.hasWork()) {
                    return queue;
                }
            }
            return NONE;
        }

        /** THE NEXT QUEUE, or NONE; CREDIT and LAST are as behind its choosing. */
        int choose() {
            if (!anyWork()) {
                return NONE;
            }
            int urgent = firstBehindLast(0);
            if (urgent != NONE) {
                lasts[0] = urgent;
                return urgent;
            }
            int queue = chooseByCredit();
            if (queue == NONE) {
                System.arraycopy(weights, 0, credits, 0, RANKS);
                queue = chooseByCredit();
            }
            return queue;
        }

        /** The next QUEUE of the first of CLASSES 1 .. 3 that has WORK and CREDIT, or NONE. */
        private int chooseByCredit() {
            for (int rank = 1; rank < RANKS; rank++) {
                int queue = credits[rank] > 0 ? firstBehindLast(rank) : NONE;
                if (queue != NONE) {
                    credits[rank]--;
                    lasts[rank] = queue;
                    return queue;
                }
            }
            return NONE;
        }

        /** n choosings one behind another; WORK never gets less, as nothing is fetched. */
        int deal(int n, Row row) {
            int[] ofQueue = new int[MOST_QUEUES];
            int[] ofRank = new int[RANKS];
            for (int i = 0; i < n; i++) {
                int queue = choose();
                Lane lane = lane(queue);
                if (lane != null && lane.rank >= 0 && lane.rank < RANKS && queue < MOST_QUEUES) {
                    ofQueue[queue]++;
                    ofRank[lane.rank]++;
                }
            }
            row.tell(ofRank[1], ofRank[2], ofRank[3]);
            for (int q = 0; q < MOST_QUEUES; q++) {
                row.add(ofQueue[q]);
            }
            return ofRank[0];
        }

        // TICKS

        int pass(int n, Rule rule, Row row) {
            if (n < 0 || n > 60) {
                return NONE;
            }
            int fetched = sum(Lane.FETCHED);
            int posted = sum(Lane.POSTED);
            int idle = 0;
            for (int i = 0; i < n; i++) {
                goOn(rule);
                idle += runs == 0 ? 1 : 0;
            }
            row.tell(sum(Lane.FETCHED) - fetched, idle);
            return sum(Lane.POSTED) - posted;
        }

        /** A TICK. */
        void goOn(Rule rule) {
            finish();
            postAll();
            for (int q = 0; q < many && q < MOST_QUEUES; q++) {
                lanes[q].lookAtShadow();
            }
            // each round fetches at least one of at most so many COMMANDS
            for (int i = 0; i < MOST_QUEUES * IDS && runs < atOnce && anyWork(); i++) {
                fetch(choose(), rule);
            }
            tick++;
        }

        private void finish() {
            int stay = 0;
            for (int i = 0; i < runs && i < MOST_RUNNING; i++) {
                runLeft[i]--;
                if (runLeft[i] > 0) {
                    moveRun(i, stay);
                    stay++;
                } else if (runSecond[i] == NONE) {
                    complete(runQueue[i], runFirst[i]);
                } else {
                    completePair(runQueue[i], runFirst[i], runSecond[i]);
                }
            }
            runs = stay;
        }

        private void moveRun(int from, int to) {
            if (from < 0 || from >= MOST_RUNNING || to < 0 || to >= MOST_RUNNING) {
                return;
            }
            runLeft[to] = runLeft[from];
            runQueue[to] = runQueue[from];
            runFirst[to] = runFirst[from];
            runSecond[to] = runSecond[from];
        }

        private void complete(int queue, int command) {
            int block = Command.block(command);
            switch (Command.op(command)) {
                case Command.READ:
                    deliver(queue, command, Completion.DONE, held(block));
                    break;
                case Command.WRITE:
                    hold(block, Command.value(command));
                    deliver(queue, command, Completion.DONE, Command.value(command));
                    break;
                default:
                    deliver(queue, command, Completion.DONE, 0);
                    break;
            }
        }

        private void completePair(int queue, int compare, int write) {
            int found = held(Command.block(compare));
            if (found == Command.value(compare)) {
                hold(Command.block(write), Command.value(write));
                deliver(queue, compare, Completion.DONE, found);
                deliver(queue, write, Completion.DONE, Command.value(write));
            } else {
                deliver(queue, compare, Completion.UNLIKE, found);
                deliver(queue, write, Completion.NOT_WRITTEN, 0);
            }
        }

        /** A completion comes behind THE OUTBOX. */
        private void deliver(int queue, int command, int status, int result) {
            if (boxed >= 0 && boxed < MOST_QUEUES * IDS) {
                box[boxed] = Completion.of(queue, Command.id(command), status, result);
                boxed++;
            }
        }

        private void postAll() {
            int stay = 0;
            for (int i = 0; i < boxed && i < MOST_QUEUES * IDS; i++) {
                Lane lane = lane(Completion.queue(box[i]));
                if (lane == null || !lane.post(box[i])) {
                    box[stay] = box[i];
                    stay++;
                }
            }
            boxed = stay;
        }

        /** TO FETCH of THE NEXT QUEUE; nothing, if there is none. */
        private void fetch(int queue, Rule rule) {
            Lane lane = lane(queue);
            if (lane == null) {
                return;
            }
            int command = lane.fetchOne();
            int op = Command.op(command);
            if (Command.isCalled(command)) {
                deliver(queue, command, Completion.CALLED_BACK, 0);
            } else if (op == Command.PAIRED || op == Command.COMPARE && !lane.hasPairedNext()) {
                deliver(queue, command, Completion.UNPAIRED, 0);
            } else if (runs >= 0 && runs < MOST_RUNNING) {
                runLeft[runs] = rule.time(command, queue, lane.rank, runs, tick);
                runQueue[runs] = queue;
                runFirst[runs] = command;
                runSecond[runs] = op == Command.COMPARE ? lane.fetchOne() : NONE;
                runs++;
            }
        }

        int listRuns(Row row) {
            row.clear();
            for (int i = 0; i < runs && i < MOST_RUNNING; i++) {
                row.add(1000 * runQueue[i] + 10 * Command.id(runFirst[i]) + runLeft[i]);
            }
            return runs;
        }

        int listOutbox(Row row) {
            row.clear();
            for (int i = 0; i < boxed && i < Row.LONGEST; i++) {
                int completion = box[i];
                row.add(1000 * Completion.queue(completion) + 10 * Completion.id(completion)
                        + Completion.status(completion));
            }
            return boxed;
        }

        // what is to come of it

        private boolean isDrained() {
            for (int q = 0; q < many && q < MOST_QUEUES; q++) {
                if (lanes[q].rung > lanes[q].fetched) {
                    return false;
                }
            }
            return runs == 0 && boxed == 0;
        }

        /** Goes on, all completions TAKEN ahead of each TICK, till all is drained: in how many TICKS, or -2. */
        int drain(Rule rule) {
            for (int time = 0; time < FARTHEST; time++) {
                if (isDrained()) {
                    return time;
                }
                for (int q = 0; q < many && q < MOST_QUEUES; q++) {
                    lanes[q].takeAll();
                }
                goOn(rule);
            }
            return isDrained() ? FARTHEST : -2;
        }

        /** Goes on till the completion of a COMMAND is POSTED: in how many TICKS, or -2. */
        int awaitPosted(int queue, int id, Rule rule, Row row) {
            Lane lane = lane(queue);
            if (lane == null) {
                return NONE;
            }
            for (int time = 1; time <= FARTHEST; time++) {
                goOn(rule);
                int at = lane.postedAt(id);
                if (at != NONE) {
                    int completion = lane.completionAt(at);
                    row.tell(Completion.status(completion), Completion.result(completion));
                    return time;
                }
            }
            return -2;
        }

        /** One act, as it is drawn. */
        void live(Draws draws, Rule rule, Row row) {
            int kind = draws.of(6);
            if (many == 0) {
                return;
            }
            int queue = draws.of(many);
            switch (kind) {
                case 2:
                    tellBell(queue);
                    break;
                case 3:
                    goOn(rule);
                    break;
                case 4:
                    take(queue, row);
                    break;
                case 5:
                    callBack(queue, draws.of(IDS));
                    break;
                default:
                    int op = draws.of(5);
                    int block = draws.of(BLOCKS);
                    write(queue, op, block, draws.of(100));
                    break;
            }
        }
    }

    /** What can be undone, and what is kept. */
    private static final class Past {
        private static final int MOST = 8;
        private static final int KEEPS = 2;

        // one more than can be undone: what is ahead of an act that may yet be refused
        private final Drive[] steps = new Drive[MOST + 1];
        private int open;
        private int size;
        private final Drive[] keeps = new Drive[KEEPS];
        private final boolean[] isKept = new boolean[KEEPS];

        Past() {
            for (int i = 0; i <= MOST; i++) {
                steps[i] = new Drive();
            }
            for (int i = 0; i < KEEPS; i++) {
                keeps[i] = new Drive();
            }
        }

        /** An act comes; what is ahead of it is noted. */
        void note(Drive drive) {
            if (open >= 0 && open <= MOST) {
                steps[open].copy(drive);
            }
        }

        /** The act answered so: what was noted can be undone, unless the act was refused. */
        int seal(int answer) {
            if (answer >= 0) {
                open = (open + 1) % (MOST + 1);
                size = Math.min(MOST, size + 1);
            }
            return answer;
        }

        int back(Drive drive) {
            if (size < 1) {
                return NONE;
            }
            open = open > 0 && open <= MOST ? open - 1 : MOST;
            size--;
            drive.copy(steps[open]);
            return size;
        }

        void forget() {
            size = 0;
        }

        boolean keepAs(int i, Drive drive) {
            if (i < 0 || i >= KEEPS) {
                return false;
            }
            keeps[i].copy(drive);
            isKept[i] = true;
            return true;
        }

        boolean bringBack(int i, Drive drive) {
            if (i < 0 || i >= KEEPS || !isKept[i] || keeps[i].many != drive.many) {
                return false;
            }
            drive.copy(keeps[i]);
            forget();
            return true;
        }
    }

    /** What was heard of a COMMAND. */
    private static final class Hearsay {
        private static final int MOST = 12;
        private static final int KINDS = 4;
        private static final int MOST_WORTHS = 10;

        private final int[] kinds = new int[MOST];
        private final int[] worths = new int[MOST];
        private int size;

        int hear(int what, int v) {
            if (v < 0 || v >= worthsOf(what) || size < 0 || size >= MOST) {
                return NONE;
            }
            kinds[size] = what;
            worths[size] = v;
            size++;
            return size;
        }

        int deny() {
            int were = size;
            size = 0;
            return were;
        }

        /** How many worths, from 0 on, may be heard of a kind. */
        private static int worthsOf(int what) {
            switch (what) {
                case 0: return MOST_QUEUES;
                case 1: return 5;
                case 2: return BLOCKS;
                case 3: return 2;
                default: return 0;
            }
        }

        private static int worth(Drive drive, int queue, int id, int what) {
            switch (what) {
                case 0: return queue;
                case 1: return Command.op(drive.commandOf(queue, id));
                case 2: return Command.block(drive.commandOf(queue, id));
                default: return drive.isRunning(queue, id) ? 1 : 0;
            }
        }

        /** Whether there is such a COMMAND and it fits all that was heard. */
        private boolean fitsAll(Drive drive, int queue, int id) {
            if (drive.commandOf(queue, id) == NONE) {
                return false;
            }
            for (int i = 0; i < size && i < MOST; i++) {
                if (worth(drive, queue, id, kinds[i]) != worths[i]) {
                    return false;
                }
            }
            return true;
        }

        int listFits(Drive drive, Row row) {
            int fitting = 0;
            row.clear();
            for (int queue = 0; queue < MOST_QUEUES; queue++) {
                for (int id = 0; id < IDS; id++) {
                    if (fitsAll(drive, queue, id)) {
                        fitting++;
                        if (fitting == 1) {
                            row.tell(queue, id);
                        }
                    }
                }
            }
            return fitting;
        }

        int bestQuestion(Drive drive, Row row) {
            int best = NONE;
            int fewest = MOST_QUEUES * IDS + 1;
            for (int what = 0; what < KINDS; what++) {
                int[] fitting = spreadOver(drive, what);
                int all = 0;
                for (int v = 0; v < MOST_WORTHS; v++) {
                    all += fitting[v];
                }
                if (all == 0) {
                    return -2;
                }
                for (int v = 0; v < worthsOf(what) && v < MOST_WORTHS; v++) {
                    int left = Math.max(fitting[v], all - fitting[v]);
                    if (left < fewest) {
                        fewest = left;
                        best = 10 * what + v;
                    }
                }
            }
            row.tell(fewest);
            return best;
        }

        /** How many fitting COMMANDS there are of each worth of a kind. */
        private int[] spreadOver(Drive drive, int what) {
            int[] fitting = new int[MOST_WORTHS];
            for (int queue = 0; queue < MOST_QUEUES; queue++) {
                for (int id = 0; id < IDS; id++) {
                    if (fitsAll(drive, queue, id)) {
                        int v = worth(drive, queue, id, what);
                        if (v >= 0 && v < MOST_WORTHS) {
                            fitting[v]++;
                        }
                    }
                }
            }
            return fitting;
        }
    }
}
