import java.util.ArrayList;
import java.util.Arrays;
import java.util.Collections;
import java.util.HashMap;
import java.util.List;
import java.util.Map;
import java.util.Random;
import java.util.TreeSet;

/**
 * Random runs of calls, the same on GroveWorks and on a slow model that is written word by word from
 * the document: behind every call all that can be asked must be answered alike.
 */
public final class ModelRuns {
    private static final int NONE = -1;
    private static int wrong = 0;
    private static int[] seen = new int[40];

    public static void main(String[] args) {
        int runs = args.length > 0 ? Integer.parseInt(args[0]) : 120;
        int first = args.length > 1 ? Integer.parseInt(args[1]) : 1;
        for (int seed = first; seed < first + runs && wrong == 0; seed++) {
            new Run(seed).play();
        }
        if (wrong == 0) {
            for (int i = 0; i < Plain.HAPPENINGS.length; i++) {
                if (args.length > 0) {
                    System.out.println(Plain.HAPPENINGS[i] + ": " + seen[i]);
                }
                // Other runs than those of .ci/run may well miss the rarest ones.
                if (seen[i] == 0 && args.length == 0) {
                    System.out.println("no run has seen this: " + Plain.HAPPENINGS[i]);
                    wrong++;
                }
            }
        }
        System.out.println(wrong == 0 ? "model and class agree" : wrong + " answers differ");
        if (wrong != 0) {
            System.exit(1);
        }
    }

    /** One random run: a net that is made at first, then calls. */
    private static final class Run {
        final int seed;
        final Random random;
        final StringBuilder log = new StringBuilder();
        final int size;
        final int[] wires;
        final int[] hosts;
        final int[] groups;
        final GroveWorks real;
        final Plain plain;

        Run(int seed) {
            this.seed = seed;
            random = new Random(seed);
            size = 1 + random.nextInt(10);
            wires = some(1 + random.nextInt(Math.min(16, size + 2)), 16);
            hosts = some(1 + random.nextInt(6), 16);
            groups = some(1 + random.nextInt(3), 8);
            real = new GroveWorks(size);
            plain = new Plain(size);
        }

        /** So many different numbers below a bound, by chance. */
        int[] some(int n, int bound) {
            List<Integer> all = new ArrayList<>();
            for (int i = 0; i < bound; i++) {
                all.add(i);
            }
            Collections.shuffle(all, random);
            return all.subList(0, n).stream().mapToInt(Integer::intValue).toArray();
        }

        int oneOf(int[] numbers) {
            return numbers[random.nextInt(numbers.length)];
        }

        void play() {
            for (int r = 0; r < size; r++) {
                for (int p : some(1 + random.nextInt(4), 4)) {
                    int wire = oneOf(wires);
                    int cost = random.nextInt(4) == 0 ? random.nextInt(11) : 1 + random.nextInt(2);
                    same("plug " + r + " " + p + " " + wire + " " + cost,
                            real.plug(r, p, wire, cost), plain.plug(r, p, wire, cost));
                }
            }
            for (int h : hosts) {
                int wire = oneOf(wires);
                same("host " + h + " " + wire, real.host(h, wire), plain.host(h, wire));
            }
            for (int g : groups) {
                int r = random.nextInt(size);
                same("meet " + g + " " + r, real.meet(g, r), plain.meet(g, r));
            }
            int calls = 150;
            int cuts = random.nextInt(3);
            for (int i = 0; i < calls && wrong == 0; i++) {
                call(random.nextInt(100), cuts);
                compareAll();
            }
            if (seed % 5 == 0) {
                silence(random.nextInt(size));
            }
            for (int i = 0; i < seen.length; i++) {
                seen[i] += plain.happened[i];
            }
        }

        void call(int dice, int cuts) {
            int h = oneOf(hosts);
            int g = oneOf(groups);
            int wire = oneOf(wires);
            if (dice < 40) {
                int n = 1 + random.nextInt(random.nextInt(8) == 0 ? 25 : 4);
                same("tick " + n, real.tick(n), plain.tick(n));
            } else if (dice < 60) {
                int s = random.nextInt(2) == 0 ? hosts[0] : h;
                int sent = random.nextInt(30) == 0 ? 45 : 1;
                for (int k = 0; k < sent; k++) {
                    same("send " + s + " " + g, real.send(s, g), plain.send(s, g));
                }
            } else if (dice < 80) {
                same("join " + h + " " + g, real.join(h, g), plain.join(h, g));
            } else if (dice < 86) {
                same("leave " + h + " " + g, real.leave(h, g), plain.leave(h, g));
            } else if (dice < 86 + 2 * cuts) {
                same("cut " + wire, real.cut(wire), plain.cut(wire));
            } else if (dice < 86 + 5 * cuts) {
                same("mend " + wire, real.mend(wire), plain.mend(wire));
            } else {
                int i = random.nextInt(5) - 1;
                same("lose " + wire + " " + i, real.lose(wire, i), plain.lose(wire, i));
            }
        }

        /** Loses every hello of one router till it is nobody's neighbour, then lets it speak again. */
        void silence(int mute) {
            for (int i = 0; i < 90 && wrong == 0; i++) {
                for (int at = 0; at < wires.length && i < 75; at++) {
                    int w = wires[at];
                    for (int k = plain.under.get(w).size() - 1; k >= 0; k--) {
                        if (plain.frame(w, k, 0) == 1 && plain.frame(w, k, 1) == mute) {
                            same("lose " + w + " " + k, real.lose(w, k), plain.lose(w, k));
                        }
                    }
                }
                same("tick 1", real.tick(1), plain.tick(1));
                if (random.nextInt(3) == 0) {
                    call(40 + random.nextInt(40), 0);
                }
                compareAll();
            }
        }

        void same(String call, boolean got, boolean want) {
            same(call, got ? 1 : 0, want ? 1 : 0);
        }

        void same(String call, int got, int want) {
            log.append(call).append(" = ").append(want).append('\n');
            check(got, want, call);
        }

        void check(int got, int want, String call, int... args) {
            if (got != want) {
                if (wrong == 0) {
                    System.out.print("seed " + seed + " routers " + size + "\n" + log);
                }
                wrong++;
                System.out.println(call + Arrays.toString(args) + " answered " + got + ", the model " + want);
            }
        }

        void compareAll() {
            for (int what = -1; what < 9; what++) {
                check(real.count(what), plain.count(what), "count", what);
            }
            for (int w = -1; w < 17; w++) {
                for (int i = -1; i < 42; i++) {
                    boolean isThere = plain.frame(w, i, 0) != -2;
                    for (int what = isThere ? -1 : 0; what < (isThere ? 9 : 1); what++) {
                        check(real.frame(w, i, what), plain.frame(w, i, what), "frame", w, i, what);
                    }
                }
            }
            for (int h = -1; h < 17; h++) {
                for (int n = Math.max(-1, plain.given - 60); n < plain.given + 1; n++) {
                    check(real.got(h, n), plain.got(h, n), "got", h, n);
                }
            }
            // Ways come last: what rests on them must not need to be asked for them.
            for (int r = -1; r < size + 1; r++) {
                compareRouter(r);
            }
            for (int r = -1; r < size + 1; r++) {
                compareWays(r);
            }
        }

        void compareWays(int r) {
            for (int what = -1; what < 4; what++) {
                for (int t = -1; t < 17; t++) {
                    check(real.way(r, true, t, what), plain.way(r, true, t, what), "way over", r, t, what);
                    check(real.way(r, false, t, what), plain.way(r, false, t, what), "way", r, t, what);
                }
            }
        }

        /** The numbers that are in use, some that are not, and those at their bounds. */
        int[] alsoOthers(int[] numbers, int bound) {
            int[] more = Arrays.copyOf(numbers, numbers.length + 4);
            more[numbers.length] = -2;
            more[numbers.length + 1] = -1;
            more[numbers.length + 2] = bound;
            more[numbers.length + 3] = random.nextInt(bound);
            return more;
        }

        void compareRouter(int r) {
            int[] someGroups = alsoOthers(groups, 8);
            int[] someSources = alsoOthers(hosts, 16);
            for (int p = -1; p < 5; p++) {
                for (int what = -1; what < 6; what++) {
                    check(real.port(r, p, what), plain.port(r, p, what), "port", r, p, what);
                }
                for (int g : someGroups) {
                    check(real.members(r, p, g), plain.members(r, p, g), "members", r, p, g);
                    for (int s : someSources) {
                        for (int what = -1; what < 5; what++) {
                            check(real.branch(r, p, g, s, what), plain.branch(r, p, g, s, what),
                                    "branch", r, p, g, s, what);
                        }
                    }
                }
            }
            for (int g : someGroups) {
                for (int s : someSources) {
                    for (int what = -1; what < 9; what++) {
                        check(real.tree(r, g, s, what), plain.tree(r, g, s, what), "tree", r, g, s, what);
                    }
                }
            }
        }
    }

    private static final class Letter {
        int kind;
        int from;
        int to = NONE;
        int group = NONE;
        int source = NONE;
        int number = 0;
        int bits = 0;
        int life = 0;

        Letter(int kind, int from) {
            this.kind = kind;
            this.from = from;
        }
    }

    /** The document, word by word; facts stand in a map, each under a name of its own. */
    private static final class Plain {
        static final String[] HAPPENINGS = {
            "a claim is sent for data", "a claim is answered", "a port is lost", "up is a claim's router",
            "a join is heard and counts", "a join of * is heard and answered", "a prune is heard and answered",
            "a prune waits 3 ticks", "a cut off waits 3 ticks", "a source is cut off", "stop is sent",
            "a tunnel goes on", "an empty tunnel", "straight ends", "straight for an empty shared",
            "straight for the same up", "straight for a lost port", "straight by other ports",
            "a frame is lost", "data ends its life", "a leave is asked after", "a join lapses",
            "a neighbour lapses", "members lapse", "to cut off for an empty shared",
            "to cut off for other ups", "bits of a join that are fewer", "a stop goes on", "a prune is sent",
        };
        final int[] happened = new int[40];
        final int size;
        final Map<String, Integer> facts = new HashMap<>();
        final boolean[] cut = new boolean[16];
        final List<List<Letter>> under = new ArrayList<>();
        final int[] sentSince = new int[16];
        int time = 0;
        int given = 0;
        int sent = 0;
        int lostFrames = 0;
        int dataSent = 0;
        int tunnels = 0;
        int claims = 0;

        Plain(int routers) {
            size = Math.min(10, Math.max(1, routers));
            for (int w = 0; w < 16; w++) {
                under.add(new ArrayList<>());
            }
        }

        int fact(String name, int otherwise) {
            Integer value = facts.get(name);
            return value == null ? otherwise : value;
        }

        boolean known(String name) {
            return facts.containsKey(name);
        }

        /** Till a time: while time is less. */
        boolean holds(String name) {
            return time < fact(name, 0);
        }

        int wireOf(int r, int p) {
            return fact("wire." + r + "." + p, NONE);
        }

        int costOf(int r, int p) {
            return fact("cost." + r + "." + p, NONE);
        }

        int portOn(int r, int w) {
            for (int p = 0; p < 4; p++) {
                if (w != NONE && wireOf(r, p) == w) {
                    return p;
                }
            }
            return NONE;
        }

        // ---- ways

        Map<String, Integer> distances = new HashMap<>();

        /** NONE if there is none. */
        int distance(int r, boolean over, int t) {
            String key = r + "." + over + "." + t;
            Integer old = distances.get(key);
            if (old != null) {
                return old;
            }
            int[] far = new int[size];
            Arrays.fill(far, 1000000);
            far[r] = 0;
            for (int round = 0; round < size + 1; round++) {
                for (int a = 0; a < size; a++) {
                    for (int p = 0; p < 4; p++) {
                        int w = wireOf(a, p);
                        if (w == NONE || cut[w]) {
                            continue;
                        }
                        for (int b = 0; b < size; b++) {
                            if (portOn(b, w) != NONE && b != a) {
                                far[b] = Math.min(far[b], far[a] + costOf(a, p));
                            }
                        }
                    }
                }
            }
            int best = 1000000;
            if (over) {
                for (int b = 0; b < size; b++) {
                    if (t != NONE && !cut[t] && portOn(b, t) != NONE) {
                        best = Math.min(best, far[b]);
                    }
                }
            } else {
                best = far[t];
            }
            int answer = best >= 1000000 ? NONE : best;
            distances.put(key, answer);
            return answer;
        }

        /** Port and router of the way; null if there is none. */
        int[] wayOf(int r, boolean over, int t) {
            if (t == NONE || distance(r, over, t) == NONE || (!over && r == t)) {
                return null;
            }
            if (over && portOn(r, t) != NONE) {
                return new int[] {portOn(r, t), NONE};
            }
            int[] best = null;
            int least = 0;
            for (int p = 0; p < 4; p++) {
                int w = wireOf(r, p);
                if (w == NONE || cut[w]) {
                    continue;
                }
                for (int b = 0; b < size; b++) {
                    if (b == r || portOn(b, w) == NONE || distance(b, over, t) == NONE) {
                        continue;
                    }
                    int sum = costOf(r, p) + distance(b, over, t);
                    if (best == null || sum < least) {
                        best = new int[] {p, b};
                        least = sum;
                    }
                }
            }
            return best;
        }

        int meeting(int g) {
            return fact("meet." + g, 0);
        }

        int[] wayToMeeting(int r, int g) {
            return wayOf(r, false, meeting(g));
        }

        int[] wayToSource(int r, int s) {
            return wayOf(r, true, fact("host." + s, NONE));
        }

        boolean direct(int r, int s) {
            int[] way = wayToSource(r, s);
            return way != null && way[1] == NONE;
        }

        // ---- what holds

        TreeSet<Integer> neighbours(int r, int p) {
            TreeSet<Integer> set = new TreeSet<>();
            for (int n = 0; n < size; n++) {
                if (holds(at(r, p) + "neighbour." + n)) {
                    set.add(n);
                }
            }
            return set;
        }

        /** All that a port has heard stands under names that begin so. */
        String at(int r, int p) {
            return "heard." + r + "." + p + ".";
        }

        boolean first(int r, int p) {
            return neighbours(r, p).higher(r) == null;
        }

        boolean asking(int r, int p) {
            return neighbours(r, p).lower(r) == null;
        }

        boolean joined(int r, int p, int g, int x) {
            return holds(at(r, p) + "join." + g + "." + x);
        }

        boolean cutOff(int r, int p, int g, int s) {
            String name = at(r, p) + "off." + g + "." + s;
            return joined(r, p, g, NONE) && known(name) && time >= fact(name, 0);
        }

        boolean own(int r, int p, int g) {
            return holds(at(r, p) + "members." + g) && first(r, p);
        }

        TreeSet<Integer> base(int r, int g) {
            TreeSet<Integer> set = new TreeSet<>();
            for (int p = 0; p < 4; p++) {
                if (joined(r, p, g, NONE) || own(r, p, g)) {
                    set.add(p);
                }
            }
            return set;
        }

        boolean straight(int r, int g, int s) {
            return known("straight." + r + "." + g + "." + s);
        }

        /** First number, distance, router. */
        int[] claimOf(int r, int g, int s) {
            int w = fact("host." + s, NONE);
            boolean isTrue = straight(r, g, s);
            int far = isTrue ? (w == NONE ? NONE : distance(r, true, w)) : distance(r, false, meeting(g));
            return new int[] {isTrue ? 0 : 1, far == NONE ? 9999 : far, r};
        }

        boolean better(int[] a, int[] b) {
            if (a[0] != b[0]) {
                return a[0] < b[0];
            }
            if (a[1] != b[1]) {
                return a[1] < b[1];
            }
            return a[2] > b[2];
        }

        int[] kept(int r, int p, int g, int s) {
            String name = at(r, p) + "claim." + g + "." + s;
            if (!holds(name + ".till") || !neighbours(r, p).contains(fact(name + ".2", NONE))) {
                return null;
            }
            return new int[] {fact(name + ".0", 0), fact(name + ".1", 0), fact(name + ".2", 0)};
        }

        boolean lost(int r, int p, int g, int s) {
            int[] other = kept(r, p, g, s);
            return other != null && better(other, claimOf(r, g, s));
        }

        TreeSet<Integer> shared(int r, int g, int s) {
            TreeSet<Integer> set = new TreeSet<>();
            for (int p = 0; p < 4; p++) {
                boolean in = (joined(r, p, g, NONE) && !cutOff(r, p, g, s)) || own(r, p, g);
                if (in && !lost(r, p, g, s)) {
                    set.add(p);
                }
            }
            return set;
        }

        TreeSet<Integer> all(int r, int g, int s) {
            TreeSet<Integer> set = shared(r, g, s);
            for (int p = 0; p < 4; p++) {
                if (joined(r, p, g, s) && !lost(r, p, g, s)) {
                    set.add(p);
                }
            }
            return set;
        }

        boolean isKept(int r, int g, int s) {
            return holds("kept." + r + "." + g + "." + s);
        }

        boolean wants(int r, int g, int x) {
            if (x == NONE) {
                return !base(r, g).isEmpty() && meeting(g) != r;
            }
            for (int p = 0; p < 4; p++) {
                if (joined(r, p, g, x) && !lost(r, p, g, x)) {
                    return true;
                }
            }
            return isKept(r, g, x) && !all(r, g, x).isEmpty();
        }

        /** As text, port and router; "none". */
        String up(int r, int g, int x) {
            int[] way = x == NONE ? wayToMeeting(r, g) : wayToSource(r, x);
            if (way == null || way[1] == NONE) {
                return "none";
            }
            int router = way[1];
            if (x != NONE && kept(r, way[0], g, x) != null) {
                router = kept(r, way[0], g, x)[2];
                if (router != way[1]) {
                    happened[3]++;
                }
            }
            return neighbours(r, way[0]).contains(router) ? way[0] + "." + router : "none";
        }

        int toCutOff(int r, int g) {
            int bits = 0;
            for (int s = 0; s < 16; s++) {
                String upOfStar = up(r, g, NONE);
                boolean apart = straight(r, g, s) && !upOfStar.equals("none") && !upOfStar.equals(up(r, g, s));
                boolean empty = shared(r, g, s).isEmpty();
                happened[24] += empty ? 1 : 0;
                happened[25] += apart ? 1 : 0;
                if (apart || empty) {
                    bits += 1 << s;
                }
            }
            return bits;
        }

        // ---- sending

        boolean put(int w, Letter letter) {
            if (w == NONE || cut[w]) {
                return false;
            }
            if (sentSince[w] == 40) {
                lostFrames++;
                happened[18]++;
                return false;
            }
            sentSince[w]++;
            under.get(w).add(letter);
            sent++;
            dataSent += letter.kind == 7 && letter.from < 100 ? 1 : 0;
            claims += letter.kind == 8 ? 1 : 0;
            return true;
        }

        void sendJoin(int r, int g, int x, int bits) {
            String name = "up." + r + "." + g + "." + x;
            Letter letter = new Letter(5, r);
            letter.to = fact(name + ".router", NONE);
            letter.group = g;
            letter.source = x;
            letter.bits = bits;
            facts.put(name + ".last", time);
            facts.put(name + ".told", bits);
            put(wireOf(r, fact(name + ".port", NONE)), letter);
        }

        boolean sendData(int r, int p, int g, int s, int number, int life) {
            Letter letter = new Letter(7, r);
            letter.group = g;
            letter.source = s;
            letter.number = number;
            letter.life = life;
            return put(wireOf(r, p), letter);
        }

        void sendClaim(int r, int p, int g, int s) {
            int[] claim = claimOf(r, g, s);
            Letter letter = new Letter(8, r);
            letter.group = g;
            letter.source = s;
            letter.number = 1000000 * claim[0] + 100 * claim[1] + claim[2];
            put(wireOf(r, p), letter);
        }

        boolean sendByWay(int r, int target, Letter letter) {
            int[] way = wayOf(r, false, target);
            if (way == null) {
                return false;
            }
            letter.to = way[1];
            return put(wireOf(r, way[0]), letter);
        }

        void tunnel(int r, int g, int s, int number, int dataLife) {
            Letter letter = new Letter(9, r);
            letter.group = g;
            letter.source = s;
            letter.number = number;
            letter.life = 16;
            letter.bits = r + 16 * dataLife;
            if (sendByWay(r, meeting(g), letter)) {
                tunnels++;
            }
        }

        // ---- hearing

        void routerHears(int r, int p, Letter f) {
            int g = f.group;
            int s = f.source;
            switch (f.kind) {
                case 1: facts.put(at(r, p) + "neighbour." + f.from, time + 65); break;
                case 3: facts.put(at(r, p) + "members." + g, time + 60); break;
                case 4: hearLeave(r, p, g); break;
                case 5:
                    if (f.to == r) {
                        hearJoin(r, p, f);
                    } else {
                        overhear(r, p, f);
                    }
                    break;
                case 6:
                    if (f.to != r) {
                        overhear(r, p, f);
                    } else if (joined(r, p, g, s)) {
                        int till = time + (neighbours(r, p).size() >= 2 ? 3 : 0);
                        happened[7] += till > time ? 1 : 0;
                        String name = at(r, p) + "join." + g + "." + s;
                        facts.put(name, Math.min(fact(name, 0), till));
                    }
                    break;
                case 7: hearData(r, p, f); break;
                case 8: hearClaim(r, p, f); break;
                case 9:
                    if (f.to == r) {
                        hearTunnel(r, f);
                    }
                    break;
                case 10:
                    if (f.to == r) {
                        hearStop(r, f);
                    }
                    break;
                default: break;
            }
        }

        void hearLeave(int r, int p, int g) {
            String name = at(r, p) + "members." + g;
            if (holds(name) && asking(r, p)) {
                facts.put(name, Math.min(fact(name, 0), time + 4));
                Letter query = new Letter(2, r);
                query.group = g;
                put(wireOf(r, p), query);
                happened[20]++;
            }
        }

        void hearJoin(int r, int p, Letter f) {
            boolean was = joined(r, p, f.group, NONE);
            facts.put(at(r, p) + "join." + f.group + "." + f.source, time + 70);
            if (f.source != NONE) {
                return;
            }
            for (int s = 0; s < 16; s++) {
                String name = at(r, p) + "off." + f.group + "." + s;
                boolean told = was && known(name);
                if ((f.bits & 1 << s) == 0) {
                    facts.remove(name);
                } else if (!told) {
                    boolean two = neighbours(r, p).size() >= 2;
                    happened[8] += two ? 1 : 0;
                    happened[9]++;
                    facts.put(name, two ? time + 3 : time);
                }
            }
        }

        void overhear(int r, int p, Letter f) {
            String name = "up." + r + "." + f.group + "." + f.source;
            if (fact(name + ".router", NONE) != f.to || fact(name + ".port", NONE) != p) {
                return;
            }
            int last = fact(name + ".told", 0);
            if (f.kind == 6) {
                happened[6]++;
                sendJoin(r, f.group, f.source, last);
            } else if (f.source != NONE) {
                happened[4]++;
                facts.put(name + ".last", time);
            } else {
                boolean more = false;
                for (int s = 0; s < 16; s++) {
                    more |= (f.bits & 1 << s) != 0 && (last & 1 << s) == 0;
                }
                if (more) {
                    happened[5]++;
                    sendJoin(r, f.group, NONE, last);
                } else if (f.bits == last) {
                    facts.put(name + ".last", time);
                } else {
                    happened[26]++;
                }
            }
        }

        void hearData(int r, int p, Letter f) {
            int g = f.group;
            int s = f.source;
            int w = wayToSource(r, s) == null ? NONE : wayToSource(r, s)[0];
            int m = wayToMeeting(r, g) == null ? NONE : wayToMeeting(r, g)[0];
            String keep = "kept." + r + "." + g + "." + s;
            // (a)
            if (direct(r, s) && p == w) {
                facts.put(keep, time + 70);
            }
            if (p == w && known("up." + r + "." + g + "." + s + ".router") && !all(r, g, s).isEmpty()) {
                facts.put(keep, time + 70);
            }
            // (b)
            if (p == w && wants(r, g, s)) {
                boolean sameUp = !up(r, g, s).equals("none") && up(r, g, s).equals(up(r, g, NONE));
                boolean empty = shared(r, g, s).isEmpty();
                boolean gone = lost(r, p, g, s);
                if (direct(r, s) || w != m || empty || sameUp || gone) {
                    boolean before = direct(r, s) || w != m;
                    happened[17] += before && !direct(r, s) ? 1 : 0;
                    happened[14] += !before && empty && !sameUp && !gone ? 1 : 0;
                    happened[15] += !before && !empty && sameUp && !gone ? 1 : 0;
                    happened[16] += !before && !empty && !sameUp && gone ? 1 : 0;
                    facts.put("straight." + r + "." + g + "." + s, w);
                }
            }
            // (c)
            TreeSet<Integer> out = new TreeSet<>();
            boolean isStraight = straight(r, g, s);
            if (p == w && isStraight) {
                out = all(r, g, s);
            } else if (p == m && !isStraight) {
                out = shared(r, g, s);
                for (int q = 0; q < 4; q++) {
                    if (own(r, q, g)) {
                        facts.put(keep, time + 70);
                    }
                }
            } else if ((isStraight ? all(r, g, s) : shared(r, g, s)).contains(p)) {
                happened[0]++;
                sendClaim(r, p, g, s);
            }
            // (d)
            for (int q : out) {
                if (q != p && !cut[wireOf(r, q)]) {
                    if (f.life == 1) {
                        happened[19]++;
                    } else {
                        sendData(r, q, g, s, f.number, f.life - 1);
                    }
                }
            }
            // (e)
            if (direct(r, s) && p == w && first(r, p) && meeting(g) != r && !holds("stopped." + r + "." + g + "." + s)) {
                tunnel(r, g, s, f.number, f.life);
            }
        }

        void hearClaim(int r, int p, Letter f) {
            int g = f.group;
            int s = f.source;
            int[] came = {f.number / 1000000, f.number % 1000000 / 100, f.number % 100};
            int[] old = kept(r, p, g, s);
            if (old == null || better(came, old) || old[2] == came[2]) {
                String name = at(r, p) + "claim." + g + "." + s;
                facts.put(name + ".till", time + 60);
                facts.put(name + ".0", came[0]);
                facts.put(name + ".1", came[1]);
                facts.put(name + ".2", came[2]);
            }
            happened[2] += lost(r, p, g, s) ? 1 : 0;
            TreeSet<Integer> set = straight(r, g, s) ? all(r, g, s) : shared(r, g, s);
            if (set.contains(p) && better(claimOf(r, g, s), came)) {
                happened[1]++;
                sendClaim(r, p, g, s);
            }
        }

        Letter lessLife(int r, Letter f) {
            Letter next = new Letter(f.kind, r);
            next.group = f.group;
            next.source = f.source;
            next.number = f.number;
            next.bits = f.bits;
            next.life = f.life - 1;
            return next;
        }

        void hearTunnel(int r, Letter f) {
            int g = f.group;
            int s = f.source;
            if (meeting(g) != r) {
                if (f.life != 1) {
                    happened[11]++;
                    sendByWay(r, meeting(g), lessLife(r, f));
                }
                return;
            }
            int first = f.bits % 16;
            int dataLife = f.bits / 16;
            if (straight(r, g, s) || all(r, g, s).isEmpty()) {
                happened[10]++;
                Letter stop = new Letter(10, r);
                stop.group = g;
                stop.source = s;
                stop.life = 16;
                stop.bits = first;
                sendByWay(r, first, stop);
            }
            facts.put("kept." + r + "." + g + "." + s, time + 70);
            if (!straight(r, g, s) && dataLife > 1) {
                for (int p : shared(r, g, s)) {
                    sendData(r, p, g, s, f.number, dataLife - 1);
                }
            }
        }

        void hearStop(int r, Letter f) {
            if (f.bits == r) {
                facts.put("stopped." + r + "." + f.group + "." + f.source, time + 40);
            } else if (f.life != 1) {
                happened[27]++;
                sendByWay(r, f.bits, lessLife(r, f));
            }
        }

        // ---- timers

        void timers(int r) {
            for (int p = 0; p < 4; p++) {
                String name = at(r, p) + "hello";
                if (isUp(r, p) && (!known(name) || time - fact(name, 0) >= 20)) {
                    facts.put(name, time);
                    put(wireOf(r, p), new Letter(1, r));
                }
            }
            for (int p = 0; p < 4; p++) {
                String name = at(r, p) + "query";
                if (isUp(r, p) && asking(r, p) && (!known(name) || time - fact(name, 0) >= 25)) {
                    facts.put(name, time);
                    put(wireOf(r, p), new Letter(2, r));
                }
            }
            for (int g = 0; g < 8; g++) {
                for (int s = 0; s < 16; s++) {
                    String name = "straight." + r + "." + g + "." + s;
                    int[] way = wayToSource(r, s);
                    if (known(name) && (!wants(r, g, s) || way == null || way[0] != fact(name, NONE))) {
                        happened[13]++;
                        facts.remove(name);
                    }
                }
            }
            for (int g = 0; g < 8; g++) {
                for (int x = -1; x < 16; x++) {
                    joinTimer(r, g, x);
                }
            }
            for (int g = 0; g < 8; g++) {
                for (int s = 0; s < 16; s++) {
                    if (fact("stopped." + r + "." + g + "." + s, 0) == time + 5 && isKept(r, g, s)
                            && direct(r, s) && first(r, wayToSource(r, s)[0]) && meeting(g) != r) {
                        happened[12]++;
                        tunnel(r, g, s, 0, 0);
                    }
                }
            }
        }

        boolean isUp(int r, int p) {
            return wireOf(r, p) != NONE && !cut[wireOf(r, p)];
        }

        void joinTimer(int r, int g, int x) {
            String name = "up." + r + "." + g + "." + x;
            String u = wants(r, g, x) ? up(r, g, x) : "none";
            String has = known(name + ".router") ? fact(name + ".port", 0) + "." + fact(name + ".router", 0) : "none";
            if (!has.equals("none") && !has.equals(u)) {
                happened[28]++;
                Letter prune = new Letter(6, r);
                prune.to = fact(name + ".router", NONE);
                prune.group = g;
                prune.source = x;
                put(wireOf(r, fact(name + ".port", NONE)), prune);
                joinNone(name);
                has = "none";
            }
            if (u.equals("none")) {
                return;
            }
            int bits = x == NONE ? toCutOff(r, g) : 0;
            if (has.equals("none") || time - fact(name + ".last", 0) >= 20 || bits != fact(name + ".told", 0)) {
                facts.put(name + ".port", Integer.parseInt(u.substring(0, 1)));
                facts.put(name + ".router", Integer.parseInt(u.substring(2)));
                sendJoin(r, g, x, bits);
            }
        }

        void joinNone(String name) {
            facts.remove(name + ".port");
            facts.remove(name + ".router");
            facts.remove(name + ".last");
            facts.remove(name + ".told");
        }

        // ---- the face

        boolean in(int i, int n) {
            return i >= 0 && i < n;
        }

        boolean plug(int r, int p, int wire, int cost) {
            if (!in(r, size) || !in(p, 4) || !in(wire, 16) || cost < 1 || cost > 9 || time != 0
                    || wireOf(r, p) != NONE || portOn(r, wire) != NONE) {
                return false;
            }
            facts.put("wire." + r + "." + p, wire);
            facts.put("cost." + r + "." + p, cost);
            distances.clear();
            return true;
        }

        boolean host(int h, int wire) {
            if (!in(h, 16) || !in(wire, 16) || time != 0 || known("host." + h)) {
                return false;
            }
            facts.put("host." + h, wire);
            return true;
        }

        boolean meet(int g, int r) {
            if (!in(g, 8) || !in(r, size) || time != 0) {
                return false;
            }
            facts.put("meet." + g, r);
            return true;
        }

        boolean cut(int wire) {
            if (!in(wire, 16) || cut[wire]) {
                return false;
            }
            cut[wire] = true;
            under.get(wire).clear();
            distances.clear();
            for (int r = 0; r < size; r++) {
                int p = portOn(r, wire);
                if (p == NONE) {
                    continue;
                }
                String heard = at(r, p);
                facts.keySet().removeIf(name -> name.startsWith(heard));
                for (int g = 0; g < 8; g++) {
                    for (int x = -1; x < 16; x++) {
                        String name = "up." + r + "." + g + "." + x;
                        if (fact(name + ".port", NONE) == p) {
                            joinNone(name);
                        }
                    }
                }
            }
            return true;
        }

        boolean mend(int wire) {
            if (!in(wire, 16) || !cut[wire]) {
                return false;
            }
            cut[wire] = false;
            distances.clear();
            return true;
        }

        boolean join(int h, int g) {
            if (!in(h, 16) || !in(g, 8) || !known("host." + h) || known("in." + h + "." + g)) {
                return false;
            }
            facts.put("in." + h + "." + g, 1);
            say(h, g, 3);
            return true;
        }

        boolean leave(int h, int g) {
            if (!in(h, 16) || !in(g, 8) || !known("in." + h + "." + g)) {
                return false;
            }
            facts.remove("in." + h + "." + g);
            say(h, g, 4);
            return true;
        }

        void say(int h, int g, int kind) {
            Letter letter = new Letter(kind, 100 + h);
            letter.group = g;
            put(fact("host." + h, NONE), letter);
        }

        int send(int h, int g) {
            if (!in(h, 16) || !in(g, 8) || !known("host." + h) || cut[fact("host." + h, 0)] || given == 400) {
                return NONE;
            }
            Letter letter = new Letter(7, 100 + h);
            letter.group = g;
            letter.source = h;
            letter.number = given;
            letter.life = 16;
            put(fact("host." + h, NONE), letter);
            return given++;
        }

        boolean lose(int wire, int i) {
            if (!in(wire, 16) || !in(i, under.get(wire).size())) {
                return false;
            }
            under.get(wire).remove(i);
            return true;
        }

        int tick(int n) {
            if (n < 1 || n > 50 || time + n > 6000) {
                return NONE;
            }
            for (int i = 0; i < n; i++) {
                oneTick();
            }
            return time;
        }

        void oneTick() {
            time++;
            List<List<Letter>> coming = new ArrayList<>();
            for (int w = 0; w < 16; w++) {
                coming.add(new ArrayList<>(under.get(w)));
                under.get(w).clear();
                sentSince[w] = 0;
            }
            facts.forEach((name, value) -> {
                happened[21] += value == time && name.contains(".join.") ? 1 : 0;
                happened[22] += value == time && name.contains(".neighbour.") ? 1 : 0;
                happened[23] += value == time && name.contains(".members.") ? 1 : 0;
            });
            for (int w = 0; w < 16; w++) {
                for (Letter f : coming.get(w)) {
                    for (int r = 0; r < size; r++) {
                        if (portOn(r, w) != NONE && f.from != r) {
                            routerHears(r, portOn(r, w), f);
                        }
                    }
                    for (int h = 0; h < 16; h++) {
                        if (fact("host." + h, NONE) == w && f.from != 100 + h) {
                            hostHears(h, f);
                        }
                    }
                }
            }
            for (int r = 0; r < size; r++) {
                timers(r);
            }
            for (int h = 0; h < 16; h++) {
                for (int g = 0; g < 8; g++) {
                    boolean asked = known("asked." + h + "." + g) || known("asked." + h + ".-1");
                    if (asked && known("in." + h + "." + g)) {
                        say(h, g, 3);
                    }
                }
            }
            facts.keySet().removeIf(name -> name.startsWith("asked."));
        }

        void hostHears(int h, Letter f) {
            if (f.kind == 2) {
                facts.put("asked." + h + "." + f.group, 1);
            }
            if (f.kind == 7 && known("in." + h + "." + f.group)) {
                facts.merge("got." + h + "." + f.number, 1, Integer::sum);
            }
        }

        int got(int h, int number) {
            return in(h, 16) && in(number, given) ? fact("got." + h + "." + number, 0) : NONE;
        }

        int frame(int wire, int i, int what) {
            if (!in(wire, 16) || !in(i, under.get(wire).size()) || !in(what, 8)) {
                return -2;
            }
            Letter f = under.get(wire).get(i);
            return new int[] {f.kind, f.from, f.to, f.group, f.source, f.number, f.bits, f.life}[what];
        }

        int way(int r, boolean over, int t, int what) {
            if (!in(r, size) || !in(t, over ? 16 : size) || !in(what, 3)) {
                return NONE;
            }
            if (what == 0) {
                return distance(r, over, t);
            }
            int[] way = wayOf(r, over, t);
            return way == null ? NONE : way[what - 1];
        }

        int bits(TreeSet<Integer> set) {
            int bits = 0;
            for (int i : set) {
                bits += 1 << i;
            }
            return bits;
        }

        int port(int r, int p, int what) {
            if (!in(r, size) || !in(p, 4) || wireOf(r, p) == NONE) {
                return NONE;
            }
            switch (what) {
                case 0: return wireOf(r, p);
                case 1: return costOf(r, p);
                case 2: return bits(neighbours(r, p));
                case 3: return first(r, p) ? 1 : 0;
                case 4: return asking(r, p) ? 1 : 0;
                default: return NONE;
            }
        }

        int till(String name) {
            return holds(name) ? fact(name, 0) : 0;
        }

        int members(int r, int p, int g) {
            return in(r, size) && in(p, 4) && in(g, 8) ? till(at(r, p) + "members." + g) : NONE;
        }

        int branch(int r, int p, int g, int s, int what) {
            if (!in(r, size) || !in(p, 4) || !in(g, 8) || !in(s + 1, 17) || (s == NONE && what != 0)) {
                return NONE;
            }
            switch (what) {
                case 0: return till(at(r, p) + "join." + g + "." + s);
                case 1: return cutOff(r, p, g, s) ? 1 : 0;
                case 2: return lost(r, p, g, s) ? 1 : 0;
                case 3: return kept(r, p, g, s) == null ? NONE : kept(r, p, g, s)[2];
                default: return NONE;
            }
        }

        int tree(int r, int g, int s, int what) {
            if (!in(r, size) || !in(g, 8) || !in(s + 1, 17)) {
                return NONE;
            }
            String name = "up." + r + "." + g + "." + s;
            switch (what) {
                case 0: return wants(r, g, s) ? 1 : 0;
                case 1: return fact(name + ".router", NONE);
                case 2: return fact(name + ".port", NONE);
                case 3: return bits(s == NONE ? base(r, g) : all(r, g, s));
                case 4: return s == NONE ? fact(name + ".told", 0) : bits(shared(r, g, s));
                case 5: return s == NONE ? NONE : straight(r, g, s) ? 1 : 0;
                case 6: return s == NONE ? NONE : till("kept." + r + "." + g + "." + s);
                case 7: return s == NONE ? NONE : till("stopped." + r + "." + g + "." + s);
                default: return NONE;
            }
        }

        int count(int what) {
            return in(what, 8)
                    ? new int[] {time, given, sent, lostFrames, dataSent, tunnels, claims, size}[what] : NONE;
        }
    }
}
