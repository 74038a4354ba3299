import java.util.ArrayDeque;
import java.util.ArrayList;
import java.util.Arrays;
import java.util.LinkedHashMap;
import java.util.List;
import java.util.Map;
import java.util.NoSuchElementException;

/**
 * The document told a second time, with lists and objects and no thought of room or speed:
 * what QueueDrive answers is held against it. It shares no code with QueueDrive.
 */
final class PlainDrive {
    static final class Cmd {
        int queue, id, op, block, value;
        boolean called;

        Cmd copy() {
            Cmd c = new Cmd();
            c.queue = queue;
            c.id = id;
            c.op = op;
            c.block = block;
            c.value = value;
            c.called = called;
            return c;
        }
    }

    static final class Comp {
        int queue, id, status, result, head, phase;

        Comp(int queue, int id, int status, int result) {
            this.queue = queue;
            this.id = id;
            this.status = status;
            this.result = result;
        }

        Comp copy() {
            Comp c = new Comp(queue, id, status, result);
            c.head = head;
            c.phase = phase;
            return c;
        }
    }

    static final class Job {
        Cmd first, second;
        int left;
    }

    static final class Q {
        int slots, places, rank;
        boolean shadowed, awake;
        int written, rung, seen, fetched, told, posted, taken, mark;
        List<Cmd> ring = new ArrayList<>();
        List<Comp> waiting = new ArrayList<>();      // POSTED, not TAKEN
        Map<Integer, Integer> phaseAt = new LinkedHashMap<>();

        boolean work() {
            return seen > fetched;
        }
    }

    static final class World {
        List<Q> qs = new ArrayList<>();
        int[] blocks = new int[10];
        int[] weights = {0, 3, 2, 1}, credits = {0, 3, 2, 1}, last = {4, 4, 4, 4};
        int depth = 2, tick, bells, saved;
        List<Job> running = new ArrayList<>();
        List<Comp> outbox = new ArrayList<>();

        World copy() {
            World w = new World();
            for (Q q : qs) {
                Q n = new Q();
                n.slots = q.slots; n.places = q.places; n.rank = q.rank; n.shadowed = q.shadowed;
                n.awake = q.awake; n.written = q.written; n.rung = q.rung; n.seen = q.seen;
                n.fetched = q.fetched; n.told = q.told; n.posted = q.posted; n.taken = q.taken; n.mark = q.mark;
                for (Cmd c : q.ring) n.ring.add(c.copy());
                for (Comp c : q.waiting) n.waiting.add(c.copy());
                n.phaseAt.putAll(q.phaseAt);
                w.qs.add(n);
            }
            w.blocks = blocks.clone(); w.weights = weights.clone(); w.credits = credits.clone(); w.last = last.clone();
            w.depth = depth; w.tick = tick; w.bells = bells; w.saved = saved;
            for (Job j : running) {
                Job n = new Job();
                n.first = j.first.copy();
                n.second = j.second == null ? null : j.second.copy();
                n.left = j.left;
                w.running.add(n);
            }
            for (Comp c : outbox) w.outbox.add(c.copy());
            return w;
        }

        boolean has(int q) {
            return q >= 0 && q < qs.size();
        }

        List<Integer> idsInUse(int q) {
            List<Integer> ids = new ArrayList<>();
            for (Cmd c : qs.get(q).ring) ids.add(c.id);
            for (Job j : running) {
                if (j.first.queue == q) {
                    ids.add(j.first.id);
                    if (j.second != null) ids.add(j.second.id);
                }
            }
            for (Comp c : outbox) if (c.queue == q) ids.add(c.id);
            for (Comp c : qs.get(q).waiting) ids.add(c.id);
            return ids;
        }

        int puts(int q, int op, int block, int value) {
            if (!has(q) || op < 0 || op > 4 || block < 0 || block > 9 || value < 0 || value > 99) return -1;
            Q x = qs.get(q);
            if (x.written - x.told == x.slots - 1) return -2;
            List<Integer> used = idsInUse(q);
            for (int id = 0; id < 16; id++) {
                if (!used.contains(id)) {
                    Cmd c = new Cmd();
                    c.queue = q; c.id = id; c.op = op; c.block = block; c.value = value;
                    x.ring.add(c);
                    x.written++;
                    return id;
                }
            }
            return -3;
        }

        int ring(int q) {
            if (!has(q)) return -1;
            Q x = qs.get(q);
            if (x.rung == x.written) return -2;
            int was = x.rung;
            x.rung = x.written;
            if (!x.shadowed) {
                x.seen = x.rung;
                bells++;
                return 1;
            }
            if (was <= x.mark && x.mark < x.rung) {
                x.seen = x.rung;
                x.awake = true;
                bells++;
                return 1;
            }
            saved++;
            return 0;
        }

        int[] takes(int q) {
            if (!has(q)) return new int[] {-1};
            Q x = qs.get(q);
            if (x.waiting.isEmpty()) return new int[] {-2};
            Comp c = x.waiting.remove(0);
            x.taken++;
            x.told = c.head;
            return new int[] {10 * c.id + c.status, c.result, c.head, c.phase};
        }

        /** The answer of recall(): {answer, LEFT, which}. */
        int[] recall(int q, int id) {
            if (!has(q) || id < 0 || id > 15) return new int[] {-1};
            List<Cmd> ring = qs.get(q).ring;
            for (int i = 0; i < ring.size(); i++) {
                if (ring.get(i).id == id) return ring.get(i).called ? new int[] {-3} : new int[] {0, 0, i};
            }
            for (int i = 0; i < running.size(); i++) {
                Job j = running.get(i);
                if (j.first.queue == q && (j.first.id == id || j.second != null && j.second.id == id)) {
                    return j.left == 1 ? new int[] {-4} : new int[] {1, j.left, i};
                }
            }
            return new int[] {-2};
        }

        int calls(int q, int id) {
            int[] r = recall(q, id);
            if (r[0] == 0) qs.get(q).ring.get(r[2]).called = true;
            if (r[0] == 1) {
                Job j = running.remove(r[2]);
                outbox.add(new Comp(q, j.first.id, 1, 0));
                if (j.second != null) outbox.add(new Comp(q, j.second.id, 1, 0));
            }
            return r[0];
        }

        int[] resets() {
            int rings = 0, runs = 0, done = outbox.size();
            for (Q q : qs) {
                rings += q.ring.size();
                done += q.waiting.size();
                q.ring.clear();
                q.waiting.clear();
                q.phaseAt.clear();
                q.written = q.rung = q.seen = q.fetched = q.told = q.posted = q.taken = q.mark = 0;
                q.awake = false;
            }
            for (Job j : running) runs += j.second == null ? 1 : 2;
            running.clear();
            outbox.clear();
            credits = weights.clone();
            last = new int[] {4, 4, 4, 4};
            return new int[] {rings + runs + done, rings, runs, done};
        }

        /** Choosing THE NEXT QUEUE, CREDIT and LAST with it; -1 if none has WORK. */
        int choose() {
            boolean any = false;
            for (Q q : qs) any |= q.work();
            if (!any) return -1;
            int rank = -1;
            if (nextOf(0) >= 0) rank = 0;
            for (int round = 0; round < 2 && rank < 0; round++) {
                for (int r = 3; r >= 1; r--) if (nextOf(r) >= 0 && credits[r] > 0) rank = r;
                if (rank < 0) credits = weights.clone();
            }
            int q = nextOf(rank);
            if (rank > 0) credits[rank]--;
            last[rank] = q;
            return q;
        }

        int nextOf(int rank) {
            for (int q = last[rank] + 1; q < 5; q++) if (has(q) && qs.get(q).rank == rank && qs.get(q).work()) return q;
            for (int q = 0; q <= last[rank]; q++) if (has(q) && qs.get(q).rank == rank && qs.get(q).work()) return q;
            return -1;
        }

        Cmd pull(Q q) {
            q.fetched++;
            return q.ring.remove(0);
        }

        void fetch(String rule) {
            int n = choose();
            Q q = qs.get(n);
            Cmd c = pull(q);
            if (c.called) {
                outbox.add(new Comp(n, c.id, 1, 0));
                return;
            }
            Job j = new Job();
            j.first = c;
            j.left = time(rule, c);
            if (c.op == 2) {
                boolean paired = q.seen > q.fetched && q.ring.get(0).op == 3 && !q.ring.get(0).called;
                if (!paired) {
                    outbox.add(new Comp(n, c.id, 4, 0));
                    return;
                }
                j.second = pull(q);
            }
            if (c.op == 3) {
                outbox.add(new Comp(n, c.id, 4, 0));
                return;
            }
            running.add(j);
        }

        int time(String rule, Cmd c) {
            int[] things = {c.op, c.block, c.value, c.queue, qs.get(c.queue).rank, running.size(), tick % 7};
            int v = new Reader(rule.isEmpty() ? "1+(o>0)" : rule, things).whole();
            return v < 1 ? 1 : v > 9 ? 9 : v;
        }

        void tick(String rule) {
            for (Job j : running) j.left--;
            for (Job j : new ArrayList<>(running)) {
                if (j.left > 0) continue;
                running.remove(j);
                Cmd a = j.first, b = j.second;
                if (b != null) {
                    int holds = blocks[a.block];
                    boolean like = holds == a.value;
                    if (like) blocks[b.block] = b.value;
                    outbox.add(new Comp(a.queue, a.id, like ? 0 : 2, holds));
                    outbox.add(new Comp(b.queue, b.id, like ? 0 : 3, like ? b.value : 0));
                } else {
                    if (a.op == 1) blocks[a.block] = a.value;
                    outbox.add(new Comp(a.queue, a.id, 0, a.op == 4 ? 0 : blocks[a.block]));
                }
            }
            List<Comp> left = new ArrayList<>();
            for (Comp c : outbox) {
                Q q = qs.get(c.queue);
                if (q.posted - q.taken < q.places - 1) {
                    c.head = q.fetched;
                    c.phase = q.posted / q.places % 2 == 0 ? 1 : 0;
                    q.phaseAt.put(q.posted % q.places, c.phase);
                    q.posted++;
                    q.waiting.add(c);
                } else {
                    left.add(c);
                }
            }
            outbox = left;
            for (Q q : qs) {
                if (q.shadowed && q.awake) {
                    q.seen = q.rung;
                    if (q.seen == q.fetched) {
                        q.mark = q.seen;
                        q.awake = false;
                    }
                }
            }
            while (running.size() < depth && qs.stream().anyMatch(Q::work)) fetch(rule);
            tick++;
        }

        int posted() {
            return qs.stream().mapToInt(q -> q.posted).sum();
        }

        int fetched() {
            return qs.stream().mapToInt(q -> q.fetched).sum();
        }

        int taken() {
            return qs.stream().mapToInt(q -> q.taken).sum();
        }

        int blockSum() {
            return Arrays.stream(blocks).sum();
        }

        boolean drained() {
            return running.isEmpty() && outbox.isEmpty() && qs.stream().allMatch(q -> q.rung <= q.fetched);
        }

        /** Goes on as for drains(): how many TICKS, or -2. */
        int drain(String rule) {
            int n = 0;
            while (!drained()) {
                if (n == 99) return -2;
                for (int q = 0; q < qs.size(); q++) while (takes(q)[0] >= 0) { }
                tick(rule);
                n++;
            }
            return n;
        }
    }

    /** Reads a rule by going down into its parts; where it fails is in 'at'. */
    static final class Reader {
        final String s;
        final int[] things;
        int at, open;
        boolean failed;

        Reader(String s, int[] things) {
            this.s = s;
            this.things = things;
        }

        /** What it comes to; failed, if it can't be read to its end. */
        int whole() {
            int v = expression();
            if (!failed && at < s.length()) failed = true;
            return v;
        }

        char peek() {
            return at < s.length() ? s.charAt(at) : (char) 300;
        }

        int expression() {
            int a = sum();
            char c = peek();
            if (failed || c != '<' && c != '>' && c != '=') return a;
            at++;
            int b = sum();
            return (c == '<' ? a < b : c == '>' ? a > b : a == b) ? 1 : 0;
        }

        int sum() {
            int a = product();
            while (!failed && (peek() == '+' || peek() == '-')) {
                char c = s.charAt(at++);
                int b = product();
                a = c == '+' ? a + b : a - b;
            }
            return a;
        }

        int product() {
            int a = thing();
            while (!failed && (peek() == '*' || peek() == '/')) {
                char c = s.charAt(at++);
                int b = thing();
                a = c == '*' ? a * b : b == 0 ? 0 : a / b;
            }
            return a;
        }

        int thing() {
            char c = peek();
            if (c == '-') {
                at++;
                return -thing();
            }
            if (c == '(' && open < 4) {
                at++;
                open++;
                int v = expression();
                if (failed) return 0;
                if (peek() != ')') {
                    failed = true;
                    return 0;
                }
                at++;
                open--;
                return v;
            }
            if (c >= '0' && c <= '9') {
                int from = at;
                while (at < from + 3 && peek() >= '0' && peek() <= '9') at++;
                return Integer.parseInt(s.substring(from, at));
            }
            int k = "obvqcdn".indexOf(c);
            if (k < 0) {
                failed = true;
                return 0;
            }
            at++;
            return things[k];
        }
    }

    static int wrongAt(String s) {
        if (s.isEmpty()) return -1;
        Reader r = new Reader(s.length() > 40 ? s.substring(0, 40) : s, new int[7]);
        r.whole();
        if (r.failed && (s.length() <= 40 || r.at < 40)) return r.at;
        return s.length() > 40 ? 40 : -1;
    }

    World now = new World();
    String text = "", rule = "";
    List<Long> row = new ArrayList<>();
    ArrayDeque<World> past = new ArrayDeque<>();
    World[] kept = new World[2];
    List<int[]> hearsay = new ArrayList<>();

    void tell(long... numbers) {
        row.clear();
        for (long n : numbers) row.add(n);
    }

    private int done(World ahead, int answer) {
        if (answer >= 0) {
            past.addLast(ahead);
            if (past.size() > 8) past.removeFirst();
        }
        return answer;
    }

    int sign(int v) {
        if (text.length() + 4 > 80) return -1;
        for (int i = 3; i >= 0; i--) text += (char) ((v >>> 8 * i) & 0xff);
        return text.length();
    }

    boolean end(int n) {
        if (n < 0 || n > text.length()) return false;
        text = text.substring(0, n);
        return true;
    }

    private String read() {
        String t = text;
        text = "";
        return t;
    }

    int queues() {
        String t = read();
        String[] may = {"2345678", "2345678", "uhml", "s"};
        for (int p = 0; p < 4; p++) {
            if (p == 3 && t.length() == 3) break;
            if (p >= t.length() || may[p].indexOf(t.charAt(p)) < 0) return -1 - p;
        }
        if (t.length() > 4) return -5;
        if (now.qs.size() == 5) return -100;
        Q q = new Q();
        q.slots = t.charAt(0) - '0';
        q.places = t.charAt(1) - '0';
        q.rank = "uhml".indexOf(t.charAt(2));
        q.shadowed = t.length() == 4;
        now.qs.add(q);
        past.clear();
        return now.qs.size() - 1;
    }

    int rule() {
        String t = read();
        int p = wrongAt(t);
        if (p >= 0) return -1 - p;
        rule = t;
        return 0;
    }

    int queue(int q, int what) {
        if (!now.has(q) || what < 0 || what > 12) throw new NoSuchElementException();
        Q x = now.qs.get(q);
        int[] all = {x.slots, x.places, x.rank, x.shadowed ? 1 : 0, x.written, x.rung, x.seen, x.fetched, x.told,
            x.posted, x.taken, x.mark, x.awake ? 1 : 0};
        return all[what];
    }

    int sheet(int kind, int n, int f, int step) {
        if (kind < 0 || kind > 3 || n > 10) return -1;
        if (kind != 3 && n < 0) return -2;
        now.blocks = new int[10];
        if (kind == 3) return -3;
        int e = f;
        for (int i = 0; i < n; i++, e += step) {
            int v = kind == 0 ? (byte) e : kind == 1 ? (short) e : e;
            now.blocks[i] = v < 0 ? 0 : v > 99 ? 99 : v;
        }
        return now.blockSum();
    }

    int puts(int q, int op, int block, int value) {
        return done(now.copy(), now.puts(q, op, block, value));
    }

    int ring(int q) {
        return done(now.copy(), now.ring(q));
    }

    private int go(int n) {
        if (n < 0 || n > 60) return -1;
        int p = now.posted(), f = now.fetched(), idle = 0;
        for (int i = 0; i < n; i++) {
            now.tick(rule);
            if (now.running.isEmpty()) idle++;
        }
        tell(now.fetched() - f, idle);
        return now.posted() - p;
    }

    int ticks(int n) {
        return done(now.copy(), go(n));
    }

    int takes(int q) {
        World ahead = now.copy();
        int[] r = now.takes(q);
        if (r[0] >= 0) tell(r[1], r[2], r[3]);
        return done(ahead, r[0]);
    }

    int calls(int q, int id) {
        return done(now.copy(), now.calls(q, id));
    }

    int resets() {
        World ahead = now.copy();
        int[] r = now.resets();
        tell(r[1], r[2], r[3]);
        return done(ahead, r[0]);
    }

    int weighs(int kind, int v) {
        if (kind < 1 || kind > 3 || v < 1 || v > 9) return -1;
        if (now.weights[kind] == v) return -2;
        World ahead = now.copy();
        int was = now.weights[kind];
        now.weights[kind] = now.credits[kind] = v;
        return done(ahead, 10 + was);
    }

    int depth(int v) {
        if (v < 1 || v > 4) return -1;
        if (now.depth == v) return -2;
        World ahead = now.copy();
        int was = now.depth;
        now.depth = v;
        return done(ahead, 10 + was);
    }

    int day() {
        String t = read();
        List<String> acts = new ArrayList<>();
        String[] forms = {"p94999", "r9", "t9", "k9", "c999", "x"};
        for (int p = 0; p < t.length();) {
            String form = null;
            for (String f : forms) if (f.charAt(0) == t.charAt(p)) form = f;
            if (form == null) return -1 - p;
            for (int k = 1; k < form.length(); k++) {
                if (p + k >= t.length() || "0123456789".substring(0, form.charAt(k) - '0' + 1).indexOf(t.charAt(p + k)) < 0) {
                    return -1 - p - k;
                }
            }
            acts.add(t.substring(p, p + form.length()));
            p += form.length();
        }
        World ahead = now.copy();
        int n = 0;
        boolean refused = false;
        for (String a : acts) {
            int d = a.length() > 1 ? a.charAt(1) - '0' : 0;
            int answer = switch (a.charAt(0)) {
                case 'p' -> now.puts(d, a.charAt(2) - '0', a.charAt(3) - '0', Integer.parseInt(a.substring(4)));
                case 'r' -> now.ring(d);
                case 't' -> go(d);
                case 'k' -> now.takes(d)[0];
                case 'c' -> now.calls(d, Integer.parseInt(a.substring(2)));
                default -> now.resets()[0];
            };
            if (answer < 0) {
                refused = true;
                break;
            }
            n++;
        }
        if (n > 0) done(ahead, 0);
        tell(refused ? 1 : 0, now.tick);
        return n;
    }

    int undo() {
        if (past.isEmpty()) return -1;
        now = past.removeLast();
        return past.size();
    }

    int waiting(int q) {
        if (!now.has(q)) return -1;
        row.clear();
        for (Cmd c : now.qs.get(q).ring) row.add((long) (10 * c.id + c.op));
        return row.size();
    }

    int running() {
        row.clear();
        for (Job j : now.running) row.add(1000L * j.first.queue + 10 * j.first.id + j.left);
        return row.size();
    }

    int outbox() {
        row.clear();
        for (Comp c : now.outbox) if (row.size() < 12) row.add(1000L * c.queue + 10 * c.id + c.status);
        return now.outbox.size();
    }

    int phases(int q) {
        if (!now.has(q)) return -1;
        Q x = now.qs.get(q);
        int bits = 0;
        for (Map.Entry<Integer, Integer> e : x.phaseAt.entrySet()) bits += e.getValue() << e.getKey();
        tell(x.taken % x.places, 1 - x.taken / x.places % 2);
        return bits;
    }

    int room(int q) {
        if (!now.has(q)) return -1;
        Q x = now.qs.get(q);
        int slots = x.slots - 1 - x.written + x.told, ids = 16 - now.idsInUse(q).size();
        tell(slots, ids);
        return slots < ids ? slots : ids;
    }

    int block(int b) {
        if (b < 0 || b > 9) return -1;
        int rings = 0, runs = 0;
        for (Q q : now.qs) for (Cmd c : q.ring) if (!c.called && c.block == b && (c.op == 1 || c.op == 3)) rings++;
        for (Job j : now.running) {
            if (j.second != null ? j.second.block == b : j.first.op == 1 && j.first.block == b) runs++;
        }
        tell(rings, runs);
        return now.blocks[b];
    }

    int next() {
        World w = now.copy();
        int q = w.choose();
        if (q < 0) return -2;
        int rank = w.qs.get(q).rank;
        tell(rank, rank == 0 ? 0 : w.credits[rank]);
        return q;
    }

    int deals(int n) {
        if (n < 1 || n > 60) return -1;
        World w = now.copy();
        long[] count = new long[9];
        for (int i = 0; i < n; i++) {
            int q = w.choose();
            if (q < 0) return -2;
            count[w.qs.get(q).rank]++;
            count[4 + q]++;
        }
        tell(Arrays.copyOfRange(count, 1, 9));
        return (int) count[0];
    }

    int when(int q, int id) {
        if (!now.has(q) || id < 0 || id > 15) return -1;
        if (!now.idsInUse(q).contains(id)) return -3;
        for (Comp c : now.qs.get(q).waiting) if (c.id == id) return -3;
        World w = now.copy();
        for (int n = 1; n <= 99; n++) {
            w.tick(rule);
            for (Comp c : w.qs.get(q).waiting) {
                if (c.id == id) {
                    tell(c.status, c.result);
                    return n;
                }
            }
        }
        return -2;
    }

    int drains() {
        World w = now.copy();
        int n = w.drain(rule);
        if (n >= 0) tell(w.taken() - now.taken(), w.blockSum());
        return n;
    }

    int would(int b) {
        if (b < 0 || b > 9) return -1;
        World w = now.copy();
        for (int q = 0; q < w.qs.size(); q++) w.ring(q);
        tell(w.drain(rule) >= 0 ? 1 : 0);
        return w.blocks[b];
    }

    int needs(int q) {
        if (!now.has(q)) return -1;
        World w = now.copy();
        int a = w.ring(q);
        if (a >= 0) tell(w.qs.get(q).seen - now.qs.get(q).seen);
        return a;
    }

    int bells() {
        tell(now.saved);
        return now.bells;
    }

    int recall(int q, int id) {
        int[] r = now.recall(q, id);
        if (r[0] >= 0) tell(r[1], r[2]);
        return r[0];
    }

    int served() {
        int[] f = new int[4];
        for (Q q : now.qs) f[q.rank] += q.fetched;
        tell(f[1], f[2], f[3], f[0]);
        return f[1] + f[2] + f[3];
    }

    static final int[] WORTHS = {5, 5, 10, 2};

    int heard(int what, int v) {
        if (what < 0 || what > 3 || v < 0 || v >= WORTHS[what] || hearsay.size() == 12) return -1;
        hearsay.add(new int[] {what, v});
        return hearsay.size();
    }

    int denies() {
        int n = hearsay.size();
        hearsay.clear();
        return n;
    }

    /** {QUEUE, ID, OP, BLOCK, RUNNING or not} of those that fit, in order. */
    private List<int[]> fitting() {
        List<int[]> all = new ArrayList<>();
        for (Q q : now.qs) for (Cmd c : q.ring) all.add(new int[] {c.queue, c.id, c.op, c.block, 0});
        for (Job j : now.running) {
            all.add(new int[] {j.first.queue, j.first.id, j.first.op, j.first.block, 1});
            if (j.second != null) all.add(new int[] {j.second.queue, j.second.id, j.second.op, j.second.block, 1});
        }
        for (int[] h : hearsay) all.removeIf(c -> c[h[0] == 0 ? 0 : h[0] + 1] != h[1]);
        all.sort((a, b) -> a[0] != b[0] ? a[0] - b[0] : a[1] - b[1]);
        return all;
    }

    int fits() {
        List<int[]> all = fitting();
        row.clear();
        if (!all.isEmpty()) tell(all.get(0)[0], all.get(0)[1]);
        return all.size();
    }

    int asks() {
        List<int[]> all = fitting();
        if (all.isEmpty()) return -2;
        int best = -1, fewest = 1000;
        for (int what = 0; what < 4; what++) {
            for (int v = 0; v < WORTHS[what]; v++) {
                int yes = 0;
                for (int[] c : all) if (c[what == 0 ? 0 : what + 1] == v) yes++;
                int most = Math.max(yes, all.size() - yes);
                if (most < fewest) {
                    fewest = most;
                    best = 10 * what + v;
                }
            }
        }
        tell(fewest);
        return best;
    }

    int laps(int n, int p, int k) {
        if (n < 2 || n > 40 || p < 0 || p >= n || k < 1 || k > 9) return -1;
        boolean[] wins = new boolean[n];
        for (int at = n - 2; at >= 0; at--) {
            for (int m = 1; m <= k && at + m < n; m++) wins[at] |= !wins[at + m];
        }
        for (int m = 1; m <= k && p + m < n; m++) if (!wins[p + m]) return m;
        return 0;
    }

    int law() {
        String t = read();
        int p = wrongAt(t);
        if (p >= 0) return -1000 - p;
        int a = now.copy().drain(t), b = now.copy().drain(rule);
        a = a < 0 ? 100 : a;
        b = b < 0 ? 100 : b;
        tell(a, b);
        return a - b;
    }

    private int seed;

    private int draw(int n) {
        seed = seed * 1103515245 + 12345;
        return (int) (((seed & 0xffffffffL) / 65536) % n);
    }

    int years(int from, int n) {
        if (n < 1 || n > 40) return -1;
        seed = from;
        World w = now.copy();
        for (int i = 0; i < n; i++) {
            int kind = draw(6);
            if (w.qs.isEmpty()) continue;
            int q = draw(w.qs.size());
            if (kind < 2) {
                int op = draw(5);
                int b = draw(10);
                int v = draw(100);
                w.puts(q, op, b, v);
            } else if (kind == 2) {
                w.ring(q);
            } else if (kind == 3) {
                w.tick(rule);
            } else if (kind == 4) {
                w.takes(q);
            } else {
                w.calls(q, draw(16));
            }
        }
        tell(w.fetched() - now.fetched(), w.blockSum(), w.tick);
        return w.taken() - now.taken();
    }

    boolean keep(int i) {
        if (i < 0 || i > 1) return false;
        kept[i] = now.copy();
        return true;
    }

    boolean again(int i) {
        if (i < 0 || i > 1 || kept[i] == null || kept[i].qs.size() != now.qs.size()) return false;
        now = kept[i].copy();
        past.clear();
        return true;
    }

    int count(int what) {
        switch (what) {
            case 0: return now.qs.size();
            case 1: return now.qs.stream().mapToInt(q -> q.ring.size()).sum();
            case 2: return now.running.size();
            case 3: return now.outbox.size();
            case 4: return now.qs.stream().mapToInt(q -> q.waiting.size()).sum();
            case 5: return now.tick;
            case 6: return now.depth;
            case 7: return now.blockSum();
            case 8: return hearsay.size();
            case 9: return past.size();
            case 10: return row.size();
            case 11: return text.length();
            default: return -100;
        }
    }

    long row(int i) {
        if (i < 0 || i >= row.size()) throw new NoSuchElementException();
        return row.get(i);
    }
}
