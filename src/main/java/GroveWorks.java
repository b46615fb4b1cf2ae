import java.util.Arrays;

/** Routers, shared wires and hosts, and the trees by which what is sent to a group comes to its hosts. */
public final class GroveWorks {
    public static final int NONE = -1;

    private static final int MOST_ROUTERS = 10;
    private static final int PORTS = 4;
    private static final int WIRES = 16;
    private static final int HOSTS = 16;
    private static final int GROUPS = 8;
    private static final int MOST_COST = 9;
    private static final int MOST_FRAMES = 40;
    private static final int MOST_NUMBERS = 400;
    private static final int MOST_TICKS = 50;
    private static final int LAST_TIME = 6000;

    // The shared tree, *, has its place behind those of the sources.
    private static final int STAR = HOSTS;
    private static final int TREES = HOSTS + 1;

    // Ways lead to routers and, behind them, to wires.
    private static final int TARGETS = MOST_ROUTERS + WIRES;
    private static final int FAR = 9999;

    private static final int HELLO = 1;
    private static final int QUERY = 2;
    private static final int REPORT = 3;
    private static final int LEAVE = 4;
    private static final int JOIN = 5;
    private static final int PRUNE = 6;
    private static final int DATA = 7;
    private static final int CLAIM = 8;
    private static final int TUNNEL = 9;
    private static final int STOP = 10;

    private static final int HELLO_EVERY = 20;
    private static final int NEIGHBOUR_FOR = 65;
    private static final int QUERY_EVERY = 25;
    private static final int MEMBERS_FOR = 60;
    private static final int MEMBERS_AFTER_LEAVE = 4;
    private static final int JOINED_FOR = 70;
    private static final int JOIN_EVERY = 20;
    private static final int OBJECTION_FOR = 3;
    private static final int CLAIM_FOR = 60;
    private static final int KEPT_FOR = 70;
    private static final int STOPPED_FOR = 40;
    private static final int PROBE_AHEAD = 5;
    private static final int FIRST_LIFE = 16;

    private static final int HOST_SENDER = 100;
    private static final int ALL_GROUPS = (1 << GROUPS) - 1;
    // A port and a router, or a life and a router, in one number.
    private static final int PAIR = 16;
    // A claim's number is its rank times this, and its router.
    private static final int CLAIM_UNIT = 100;
    private static final int SHARED_RANK = 10000;
    private static final int NO_FRAME = -2;

    private final Net net;
    private final Router[] routers;
    private final Host[] hosts = new Host[HOSTS];
    private int numbers = 0;

    public GroveWorks(int routers) {
        int size = Math.max(1, Math.min(MOST_ROUTERS, routers));
        this.net = new Net(size);
        this.routers = new Router[size];
        for (int r = 0; r < size; r++) {
            this.routers[r] = makeRouter(net, r);
        }
    }

    private static Router makeRouter(Net net, int number) {
        Port[] ports = new Port[PORTS];
        Tree[] trees = new Tree[GROUPS];
        for (int g = 0; g < GROUPS; g++) {
            trees[g] = new Tree(net, number, g, ports);
        }
        return new Router(net, number, ports, trees);
    }

    public boolean plug(int r, int p, int wire, int cost) {
        if (!isPort(r, p) || !isIn(wire, WIRES) || cost < 1 || cost > MOST_COST || net.time != 0) {
            return false;
        }
        Wire there = net.wires[wire];
        if (routers[r].ports[p] != null || there.portOf[r] != NONE) {
            return false;
        }
        there.makeFrames();
        routers[r].ports[p] = new Port(net, r, there, cost);
        there.portOf[r] = p;
        net.ways.put(r, p, wire, cost);
        return true;
    }

    public boolean host(int h, int wire) {
        if (!isIn(h, HOSTS) || !isIn(wire, WIRES) || net.time != 0 || hosts[h] != null) {
            return false;
        }
        net.wires[wire].makeFrames();
        hosts[h] = new Host(h, net.wires[wire]);
        net.wireOfHost[h] = wire;
        return true;
    }

    public boolean meet(int g, int r) {
        if (!isIn(g, GROUPS) || !isIn(r, routers.length) || net.time != 0) {
            return false;
        }
        net.meeting[g] = r;
        return true;
    }

    public boolean cut(int wire) {
        if (!isIn(wire, WIRES) || !net.wires[wire].isUp) {
            return false;
        }
        Wire there = net.wires[wire];
        there.isUp = false;
        there.waitingCount = 0;
        net.ways.isStale = true;
        for (int r = 0; r < routers.length; r++) {
            routers[r].forgetPort(there.portOf[r]);
        }
        return true;
    }

    public boolean mend(int wire) {
        if (!isIn(wire, WIRES) || net.wires[wire].isUp) {
            return false;
        }
        net.wires[wire].isUp = true;
        net.ways.isStale = true;
        return true;
    }

    public boolean join(int h, int g) {
        if (!isIn(h, HOSTS) || !isIn(g, GROUPS) || hosts[h] == null || hosts[h].hasJoined(g)) {
            return false;
        }
        hosts[h].joined |= 1 << g;
        hosts[h].say(REPORT, g);
        return true;
    }

    public boolean leave(int h, int g) {
        if (!isIn(h, HOSTS) || !isIn(g, GROUPS) || hosts[h] == null || !hosts[h].hasJoined(g)) {
            return false;
        }
        hosts[h].joined &= ~(1 << g);
        hosts[h].say(LEAVE, g);
        return true;
    }

    public int send(int h, int g) {
        if (!isIn(h, HOSTS) || !isIn(g, GROUPS) || hosts[h] == null || numbers >= MOST_NUMBERS) {
            return NONE;
        }
        if (!hosts[h].wire.isUp) {
            return NONE;
        }
        hosts[h].sendData(g, numbers);
        numbers++;
        return numbers - 1;
    }

    public boolean lose(int wire, int i) {
        return isIn(wire, WIRES) && net.wires[wire].drop(i);
    }

    public int tick(int n) {
        if (n < 1 || n > MOST_TICKS || net.time + n > LAST_TIME) {
            return NONE;
        }
        net.ways.refresh(net.wires);
        for (int i = 0; i < n; i++) {
            beginTick();
            for (int w = 0; w < WIRES; w++) {
                deliver(net.wires[w]);
            }
            for (int r = 0; r < routers.length; r++) {
                routers[r].doTimers();
            }
            for (int h = 0; h < HOSTS; h++) {
                if (hosts[h] != null) {
                    hosts[h].answerQueries();
                }
            }
        }
        return net.time;
    }

    private void beginTick() {
        net.time++;
        for (int w = 0; w < WIRES; w++) {
            net.wires[w].turnOver();
        }
        for (int r = 0; r < routers.length; r++) {
            routers[r].dropNeighbours();
        }
    }

    private void deliver(Wire wire) {
        for (int i = 0; i < wire.comingCount; i++) {
            Frame frame = wire.coming[i];
            if (frame == null) {
                continue;
            }
            for (int r = 0; r < routers.length; r++) {
                if (wire.portOf[r] != NONE && frame.sender != r) {
                    routers[r].hear(frame, wire.portOf[r]);
                }
            }
            for (int h = 0; h < HOSTS; h++) {
                if (hosts[h] != null && hosts[h].wire.number == wire.number && frame.sender != HOST_SENDER + h) {
                    hosts[h].hear(frame);
                }
            }
        }
    }

    public int got(int h, int number) {
        if (!isIn(h, HOSTS) || !isIn(number, numbers)) {
            return NONE;
        }
        return hosts[h] == null ? 0 : hosts[h].gotten[number];
    }

    public int frame(int wire, int i, int what) {
        if (!isIn(wire, WIRES) || !isIn(i, net.wires[wire].waitingCount)) {
            return NO_FRAME;
        }
        Frame frame = net.wires[wire].waiting[i];
        return frame == null ? NO_FRAME : frame.tell(what);
    }

    public int way(int r, boolean over, int t, int what) {
        if (!isIn(r, routers.length) || !isIn(t, over ? WIRES : routers.length)) {
            return NONE;
        }
        net.ways.refresh(net.wires);
        int target = over ? MOST_ROUTERS + t : t;
        switch (what) {
            case 0: return net.ways.distanceTo(r, target) == FAR ? NONE : net.ways.distanceTo(r, target);
            case 1: return net.ways.portTo(r, target);
            case 2: return net.ways.routerTo(r, target);
            default: return NONE;
        }
    }

    public int port(int r, int p, int what) {
        if (!isPort(r, p) || routers[r].ports[p] == null) {
            return NONE;
        }
        Port port = routers[r].ports[p];
        switch (what) {
            case 0: return port.wire.number;
            case 1: return port.cost;
            case 2: return port.neighbours;
            case 3: return port.isFirst() ? 1 : 0;
            case 4: return port.isAsking() ? 1 : 0;
            default: return NONE;
        }
    }

    public int members(int r, int p, int g) {
        if (!isPort(r, p) || !isIn(g, GROUPS)) {
            return NONE;
        }
        Port port = routers[r].ports[p];
        return port != null && port.hasMembers(g) ? port.membersTill[g] : 0;
    }

    public int branch(int r, int p, int g, int s, int what) {
        if (!isPort(r, p) || !isIn(g, GROUPS) || !isSource(s)) {
            return NONE;
        }
        Port port = routers[r].ports[p];
        if (what == 0) {
            return port == null ? 0 : port.whenJoinEnds(g, s == NONE ? STAR : s);
        }
        if (s == NONE) {
            return NONE;
        }
        net.ways.refresh(net.wires);
        switch (what) {
            case 1: return port != null && port.isCutOff(g, s) ? 1 : 0;
            case 2: return routers[r].trees[g].isLost(s, p) ? 1 : 0;
            case 3: return port == null ? NONE : port.claimant(g, s);
            default: return NONE;
        }
    }

    public int tree(int r, int g, int s, int what) {
        if (!isIn(r, routers.length) || !isIn(g, GROUPS) || !isSource(s)) {
            return NONE;
        }
        net.ways.refresh(net.wires);
        Tree tree = routers[r].trees[g];
        return s == NONE ? tree.tellStar(what) : tree.tellSource(s, what);
    }

    public int count(int what) {
        switch (what) {
            case 0: return net.time;
            case 1: return numbers;
            case 5: return net.tunnelsSent;
            case 7: return routers.length;
            default: return countOnWires(what);
        }
    }

    private int countOnWires(int what) {
        int sum = 0;
        for (int w = 0; w < WIRES; w++) {
            Wire wire = net.wires[w];
            switch (what) {
                case 2: sum += wire.sent; break;
                case 3: sum += wire.lost; break;
                case 4: sum += wire.dataSent; break;
                case 6: sum += wire.claimsSent; break;
                default: return NONE;
            }
        }
        return sum;
    }

    private static boolean isIn(int i, int size) {
        return i >= 0 && i < size;
    }

    private static boolean isSource(int s) {
        return s == NONE || isIn(s, HOSTS);
    }

    private boolean isPort(int r, int p) {
        return isIn(r, routers.length) && isIn(p, PORTS);
    }

    private static boolean has(int bits, int i) {
        return ((bits >> i) & 1) != 0;
    }

    /** Of claims of the same rank and distance the one of the greater router is the better one. */
    private static boolean isBetter(int claim, int other) {
        int rank = claim / CLAIM_UNIT;
        int otherRank = other / CLAIM_UNIT;
        return rank != otherRank ? rank < otherRank : claim % CLAIM_UNIT > other % CLAIM_UNIT;
    }

    private static final class Frame {
        int kind;
        int sender;
        int to;
        int group;
        int source;
        int number;
        int bits;
        int life;

        void begin(int newKind, int newSender) {
            kind = newKind;
            sender = newSender;
            to = NONE;
            group = NONE;
            source = NONE;
            number = 0;
            bits = 0;
            life = 0;
        }

        void aim(int newTo, int newGroup, int newSource) {
            to = newTo;
            group = newGroup;
            source = newSource;
        }

        int tell(int what) {
            switch (what) {
                case 0: return kind;
                case 1: return sender;
                case 2: return to;
                case 3: return group;
                case 4: return source;
                case 5: return number;
                case 6: return bits;
                case 7: return life;
                default: return NO_FRAME;
            }
        }
    }

    /** Two rows of frames: those that come in this tick, and those that wait for the next. */
    private static final class Wire {
        final int number;
        final int[] portOf = new int[MOST_ROUTERS];
        boolean isUp = true;
        Frame[] coming = new Frame[MOST_FRAMES];
        Frame[] waiting = new Frame[MOST_FRAMES];
        int comingCount = 0;
        int waitingCount = 0;
        // Apart from waitingCount: frames that are gone take room, too.
        int taken = 0;
        int sent = 0;
        int lost = 0;
        int dataSent = 0;
        int claimsSent = 0;

        Wire(int ownNumber) {
            number = ownNumber;
            Arrays.fill(portOf, NONE);
        }

        /** Frames are made when the first port or host comes, so that no tick makes any. */
        void makeFrames() {
            for (int i = 0; i < MOST_FRAMES && coming[i] == null; i++) {
                coming[i] = new Frame();
                waiting[i] = new Frame();
            }
        }

        void turnOver() {
            Frame[] empty = coming;
            coming = waiting;
            waiting = empty;
            comingCount = waitingCount;
            waitingCount = 0;
            taken = 0;
        }

        /** A frame under way that its sender has yet to fill in; null if the wire is cut or full. */
        Frame open(int kind, int sender) {
            if (!isUp) {
                return null;
            }
            if (taken >= MOST_FRAMES || waitingCount >= MOST_FRAMES) {
                lost++;
                return null;
            }
            Frame frame = waiting[waitingCount];
            if (frame == null) {
                return null;
            }
            frame.begin(kind, sender);
            waitingCount++;
            taken++;
            sent++;
            if (kind == CLAIM) {
                claimsSent++;
            } else if (kind == DATA && sender < HOST_SENDER) {
                dataSent++;
            }
            return frame;
        }

        boolean drop(int i) {
            if (!isIn(i, waitingCount)) {
                return false;
            }
            Frame gone = waiting[i];
            for (int k = i + 1; k < waitingCount; k++) {
                waiting[k - 1] = waiting[k];
            }
            waitingCount--;
            // Kept behind the others, to be used again.
            waiting[waitingCount] = gone;
            return true;
        }
    }

    /** What all routers and hosts share. */
    private static final class Net {
        final Wire[] wires = new Wire[WIRES];
        final Ways ways;
        final int[] meeting = new int[GROUPS];
        final int[] wireOfHost = new int[HOSTS];
        int time = 0;
        int tunnelsSent = 0;

        Net(int routers) {
            ways = new Ways(routers);
            for (int w = 0; w < WIRES; w++) {
                wires[w] = new Wire(w);
            }
            Arrays.fill(wireOfHost, NONE);
        }

        int targetOf(int s) {
            return wireOfHost[s] == NONE ? NONE : MOST_ROUTERS + wireOfHost[s];
        }
    }

    /** Distances and ways by the wires that are up; measured anew only when they are asked for. */
    private static final class Ways {
        final int size;
        final int[] wireAt = new int[MOST_ROUTERS * PORTS];
        final int[] costAt = new int[MOST_ROUTERS * PORTS];
        final int[] distances;
        final int[] ports;
        final int[] nexts;
        boolean isStale = true;

        Ways(int routers) {
            size = routers;
            Arrays.fill(wireAt, NONE);
            distances = new int[routers * TARGETS];
            ports = new int[routers * TARGETS];
            nexts = new int[routers * TARGETS];
        }

        void put(int r, int p, int wire, int cost) {
            wireAt[r * PORTS + p] = wire;
            costAt[r * PORTS + p] = cost;
            isStale = true;
        }

        int distanceTo(int r, int target) {
            return isIn(target, TARGETS) ? distances[r * TARGETS + target] : FAR;
        }

        int portTo(int r, int target) {
            return isIn(target, TARGETS) ? ports[r * TARGETS + target] : NONE;
        }

        int routerTo(int r, int target) {
            return isIn(target, TARGETS) ? nexts[r * TARGETS + target] : NONE;
        }

        boolean isDirect(int r, int target) {
            return isIn(target, TARGETS) && ports[r * TARGETS + target] != NONE && nexts[r * TARGETS + target] == NONE;
        }

        void refresh(Wire[] wires) {
            if (!isStale) {
                return;
            }
            isStale = false;
            Arrays.fill(distances, FAR);
            Arrays.fill(ports, NONE);
            Arrays.fill(nexts, NONE);
            measureSteps(wires);
            measureRouters();
            measureWires(wires);
            for (int r = 0; r < size; r++) {
                for (int p = 0; p < PORTS; p++) {
                    choosePort(wires, r, p);
                }
            }
        }

        private void measureSteps(Wire[] wires) {
            for (int r = 0; r < size; r++) {
                for (int p = 0; p < PORTS; p++) {
                    int wire = wireAt[r * PORTS + p];
                    for (int b = 0; b < size && wire != NONE; b++) {
                        if (wires[wire].isUp && wires[wire].portOf[b] != NONE) {
                            int i = r * TARGETS + b;
                            distances[i] = Math.min(distances[i], costAt[r * PORTS + p]);
                        }
                    }
                }
                distances[r * TARGETS + r] = 0;
            }
        }

        private void measureRouters() {
            for (int by = 0; by < size; by++) {
                for (int r = 0; r < size; r++) {
                    int there = distances[r * TARGETS + by];
                    for (int t = 0; t < size && there < FAR; t++) {
                        int sum = there + distances[by * TARGETS + t];
                        int i = r * TARGETS + t;
                        distances[i] = Math.min(distances[i], sum);
                    }
                }
            }
        }

        private void measureWires(Wire[] wires) {
            for (int w = 0; w < WIRES; w++) {
                for (int b = 0; b < size && wires[w].isUp; b++) {
                    if (wires[w].portOf[b] == NONE) {
                        continue;
                    }
                    for (int r = 0; r < size; r++) {
                        int i = r * TARGETS + MOST_ROUTERS + w;
                        distances[i] = Math.min(distances[i], distances[r * TARGETS + b]);
                    }
                }
            }
        }

        /** Ports and routers come by numbers, so the first pair that keeps to a distance is the way. */
        private void choosePort(Wire[] wires, int r, int p) {
            int wire = wireAt[r * PORTS + p];
            if (wire == NONE || !wires[wire].isUp) {
                return;
            }
            ports[r * TARGETS + MOST_ROUTERS + wire] = p;
            for (int b = 0; b < size; b++) {
                if (b == r || wires[wire].portOf[b] == NONE) {
                    continue;
                }
                for (int t = 0; t < TARGETS; t++) {
                    int i = r * TARGETS + t;
                    int sum = costAt[r * PORTS + p] + distances[b * TARGETS + t];
                    if (ports[i] == NONE && sum == distances[i]) {
                        ports[i] = p;
                        nexts[i] = b;
                    }
                }
            }
        }
    }

    private static final class Host {
        final int number;
        final Wire wire;
        final int[] gotten = new int[MOST_NUMBERS];
        int joined = 0;
        int asked = 0;

        Host(int ownNumber, Wire ownWire) {
            number = ownNumber;
            wire = ownWire;
        }

        boolean hasJoined(int g) {
            return has(joined, g);
        }

        void say(int kind, int g) {
            Frame frame = wire.open(kind, HOST_SENDER + number);
            if (frame != null) {
                frame.group = g;
            }
        }

        void sendData(int g, int dataNumber) {
            Frame frame = wire.open(DATA, HOST_SENDER + number);
            if (frame != null) {
                frame.aim(NONE, g, number);
                frame.number = dataNumber;
                frame.life = FIRST_LIFE;
            }
        }

        void hear(Frame frame) {
            if (frame.kind == QUERY) {
                asked |= frame.group == NONE ? ALL_GROUPS : 1 << frame.group;
            } else if (frame.kind == DATA && hasJoined(frame.group) && isIn(frame.number, MOST_NUMBERS)) {
                gotten[frame.number]++;
            }
        }

        void answerQueries() {
            int due = asked & joined;
            asked = 0;
            for (int g = 0; g < GROUPS; g++) {
                if (has(due, g)) {
                    say(REPORT, g);
                }
            }
        }
    }

    /** What a router has heard by one port. A time till which something holds is 0 if it never did. */
    private static final class Port {
        final Net net;
        final int router;
        final Wire wire;
        final int cost;
        int neighbours = 0;
        int helloAt = 0;
        int queryAt = 0;
        final int[] neighbourTill = new int[MOST_ROUTERS];
        final int[] membersTill = new int[GROUPS];
        final int[] joinedTill = new int[GROUPS * TREES];
        final int[] cutFrom = new int[GROUPS * HOSTS];
        final int[] claims = new int[GROUPS * HOSTS];
        final int[] claimTill = new int[GROUPS * HOSTS];

        Port(Net sharedNet, int ownRouter, Wire ownWire, int ownCost) {
            net = sharedNet;
            router = ownRouter;
            wire = ownWire;
            cost = ownCost;
        }

        void forget() {
            neighbours = 0;
            helloAt = 0;
            queryAt = 0;
            Arrays.fill(neighbourTill, 0);
            Arrays.fill(membersTill, 0);
            Arrays.fill(joinedTill, 0);
            Arrays.fill(cutFrom, 0);
            Arrays.fill(claims, 0);
            Arrays.fill(claimTill, 0);
        }

        void dropNeighbours() {
            for (int r = 0; r < MOST_ROUTERS && neighbours != 0; r++) {
                if (neighbourTill[r] <= net.time) {
                    neighbours &= ~(1 << r);
                }
            }
        }

        void takeHello(int r) {
            if (isIn(r, MOST_ROUTERS)) {
                neighbours |= 1 << r;
                neighbourTill[r] = net.time + NEIGHBOUR_FOR;
            }
        }

        boolean isFirst() {
            return (neighbours >> (router + 1)) == 0;
        }

        boolean isAsking() {
            return (neighbours & ((1 << router) - 1)) == 0;
        }

        /** Where several listen, one of them may object to what another gives up. */
        int timeToObject() {
            return Integer.bitCount(neighbours) >= 2 ? OBJECTION_FOR : 0;
        }

        boolean hasMembers(int g) {
            return membersTill[g] > net.time;
        }

        boolean isOwn(int g) {
            return hasMembers(g) && isFirst();
        }

        boolean isJoined(int g, int x) {
            return joinedTill[g * TREES + x] > net.time;
        }

        int whenJoinEnds(int g, int x) {
            return isJoined(g, x) ? joinedTill[g * TREES + x] : 0;
        }

        boolean isCutOff(int g, int s) {
            int from = cutFrom[g * HOSTS + s];
            return from != 0 && from <= net.time && isJoined(g, STAR);
        }

        boolean isShared(int g, int s) {
            return isJoined(g, STAR) && !isCutOff(g, s);
        }

        boolean isLost(int g, int s, int ownClaim) {
            int other = keptClaim(g, s);
            return other != NONE && isBetter(other, ownClaim);
        }

        /** Whether anything is held of a tree that may count now or later. */
        boolean holds(int g, int x) {
            if (isJoined(g, x)) {
                return true;
            }
            if (x == STAR) {
                return hasMembers(g);
            }
            int i = g * HOSTS + x;
            return claimTill[i] > net.time || (cutFrom[i] != 0 && isJoined(g, STAR));
        }

        void takeJoin(int g, int x) {
            if (x == STAR && !isJoined(g, x)) {
                takeCuts(g, 0);
            }
            joinedTill[g * TREES + x] = net.time + JOINED_FOR;
        }

        /** A source that was told ahead, too, stays cut off from the time that was set then. */
        void takeCuts(int g, int bits) {
            int from = net.time + timeToObject();
            for (int s = 0; s < HOSTS; s++) {
                int i = g * HOSTS + s;
                if (!has(bits, s)) {
                    cutFrom[i] = 0;
                } else if (cutFrom[i] == 0) {
                    cutFrom[i] = from;
                }
            }
        }

        void takePrune(int g, int x) {
            int i = g * TREES + x;
            joinedTill[i] = Math.min(joinedTill[i], net.time + timeToObject());
        }

        /** The number of the claim that is kept; none counts whose router is no neighbour now. */
        int keptClaim(int g, int s) {
            int i = g * HOSTS + s;
            if (claimTill[i] <= net.time || !has(neighbours, claims[i] % CLAIM_UNIT)) {
                return NONE;
            }
            return claims[i];
        }

        int claimant(int g, int s) {
            int claim = keptClaim(g, s);
            return claim == NONE ? NONE : claim % CLAIM_UNIT;
        }

        void takeClaim(int g, int s, int number) {
            int old = keptClaim(g, s);
            if (old == NONE || isBetter(number, old) || old % CLAIM_UNIT == number % CLAIM_UNIT) {
                claims[g * HOSTS + s] = number;
                claimTill[g * HOSTS + s] = net.time + CLAIM_FOR;
            }
        }
    }

    private static final class Router {
        final Net net;
        final int number;
        final Port[] ports;
        final Tree[] trees;

        Router(Net sharedNet, int ownNumber, Port[] ownPorts, Tree[] ownTrees) {
            net = sharedNet;
            number = ownNumber;
            ports = ownPorts;
            trees = ownTrees;
        }

        void forgetPort(int p) {
            if (!isIn(p, PORTS) || ports[p] == null) {
                return;
            }
            ports[p].forget();
            for (int g = 0; g < GROUPS; g++) {
                trees[g].forgetPort(p);
            }
        }

        void dropNeighbours() {
            for (int p = 0; p < PORTS; p++) {
                if (ports[p] != null) {
                    ports[p].dropNeighbours();
                }
            }
        }

        void hear(Frame frame, int p) {
            if (!isIn(p, PORTS) || ports[p] == null) {
                return;
            }
            if (frame.kind == HELLO) {
                ports[p].takeHello(frame.sender);
            }
            if (!isIn(frame.group, GROUPS) || !isSource(frame.source) || (frame.kind >= DATA && frame.source == NONE)) {
                return;
            }
            Tree tree = trees[frame.group];
            boolean isForMe = frame.to == number;
            switch (frame.kind) {
                case REPORT:
                    tree.takeReport(ports[p]);
                    break;
                case LEAVE:
                    tree.takeLeave(ports[p]);
                    break;
                case JOIN:
                case PRUNE:
                    if (isForMe) {
                        tree.takeJoinOrPrune(frame, ports[p]);
                    } else {
                        tree.overhear(frame, p);
                    }
                    break;
                case DATA:
                    tree.takeData(frame, p);
                    break;
                case CLAIM:
                    tree.takeClaim(frame, p);
                    break;
                case TUNNEL:
                    if (isForMe) {
                        tree.takeTunnel(frame);
                    }
                    break;
                case STOP:
                    if (isForMe) {
                        tree.takeStop(frame);
                    }
                    break;
                default:
                    break;
            }
        }

        void doTimers() {
            for (int p = 0; p < PORTS; p++) {
                sayHello(ports[p]);
            }
            for (int p = 0; p < PORTS; p++) {
                askAll(ports[p]);
            }
            for (int g = 0; g < GROUPS; g++) {
                trees[g].checkStraight();
            }
            for (int g = 0; g < GROUPS; g++) {
                trees[g].renewJoin(STAR);
                for (int s = 0; s < HOSTS && trees[g].known != 0; s++) {
                    trees[g].renewJoin(s);
                }
                trees[g].dropKnown();
            }
            for (int g = 0; g < GROUPS; g++) {
                trees[g].probe();
            }
        }

        private void sayHello(Port port) {
            if (port == null || !port.wire.isUp) {
                return;
            }
            if (port.helloAt == 0 || net.time - port.helloAt >= HELLO_EVERY) {
                port.helloAt = net.time;
                port.wire.open(HELLO, number);
            }
        }

        private void askAll(Port port) {
            if (port == null || !port.wire.isUp || !port.isAsking()) {
                return;
            }
            if (port.queryAt == 0 || net.time - port.queryAt >= QUERY_EVERY) {
                port.queryAt = net.time;
                port.wire.open(QUERY, number);
            }
        }
    }

    /** One router's share in the trees of one group: * and those of the sources. */
    private static final class Tree {
        final Net net;
        final int router;
        final int group;
        final Port[] ports;
        // Trees of which anything is held: for all others the timers have nothing to do.
        int known = 0;
        // The port and the router by which it has joined, as a pair.
        final int[] joinedBy = new int[TREES];
        final int[] joinAt = new int[TREES];
        int toldCut = 0;
        final int[] keptTill = new int[HOSTS];
        final int[] stoppedTill = new int[HOSTS];
        // The port of the way when data last made it straight; NONE: it is not straight.
        final int[] straightBy = new int[HOSTS];
        // What look() has found.
        int claim = 0;
        int lost = 0;
        int shared = 0;
        int all = 0;
        boolean isWanted = false;

        Tree(Net sharedNet, int ownRouter, int ownGroup, Port[] ownPorts) {
            net = sharedNet;
            router = ownRouter;
            group = ownGroup;
            ports = ownPorts;
            Arrays.fill(joinedBy, NONE);
            Arrays.fill(straightBy, NONE);
        }

        private boolean isMeeting() {
            return net.meeting[group] == router;
        }

        private boolean isStraight(int s) {
            return straightBy[s] != NONE;
        }

        private int portToSource(int s) {
            return net.ways.portTo(router, net.targetOf(s));
        }

        private int portToMeeting() {
            return net.ways.portTo(router, net.meeting[group]);
        }

        private boolean isDirect(int s) {
            return net.ways.isDirect(router, net.targetOf(s));
        }

        private boolean hasOwnPort() {
            for (int p = 0; p < PORTS; p++) {
                if (ports[p] != null && ports[p].isOwn(group)) {
                    return true;
                }
            }
            return false;
        }

        private int base() {
            int bits = 0;
            for (int p = 0; p < PORTS; p++) {
                if (ports[p] != null && (ports[p].isJoined(group, STAR) || ports[p].isOwn(group))) {
                    bits |= 1 << p;
                }
            }
            return bits;
        }

        private int ownClaim(int s) {
            int rank = isStraight(s)
                    ? net.ways.distanceTo(router, net.targetOf(s))
                    : SHARED_RANK + net.ways.distanceTo(router, net.meeting[group]);
            return rank * CLAIM_UNIT + router;
        }

        /** Finds what holds for a source at this moment; what was found before may be stale. */
        private void look(int s) {
            claim = ownClaim(s);
            lost = 0;
            shared = 0;
            int joined = 0;
            for (int p = 0; p < PORTS; p++) {
                Port port = ports[p];
                if (port == null) {
                    continue;
                }
                if (port.isLost(group, s, claim)) {
                    lost |= 1 << p;
                    continue;
                }
                if (port.isJoined(group, s)) {
                    joined |= 1 << p;
                }
                if (port.isOwn(group) || port.isShared(group, s)) {
                    shared |= 1 << p;
                }
            }
            all = shared | joined;
            isWanted = joined != 0 || (keptTill[s] > net.time && all != 0);
        }

        private boolean wants(int x) {
            if (x == STAR) {
                return !isMeeting() && base() != 0;
            }
            look(x);
            return isWanted;
        }

        /** The port and the router that lead up, as a pair. */
        private int up(int x) {
            int target = x == STAR ? net.meeting[group] : net.targetOf(x);
            int p = net.ways.portTo(router, target);
            int next = net.ways.routerTo(router, target);
            if (next == NONE || !isIn(p, PORTS) || ports[p] == null) {
                return NONE;
            }
            int kept = x == STAR ? NONE : ports[p].keptClaim(group, x);
            if (kept != NONE) {
                next = kept % CLAIM_UNIT;
            }
            return has(ports[p].neighbours, next) ? p * PAIR + next : NONE;
        }

        private int toCutOff(int upOfStar) {
            int bits = 0;
            for (int s = 0; s < HOSTS; s++) {
                if (!has(known, s)) {
                    continue;
                }
                look(s);
                if (shared == 0 || (isStraight(s) && up(s) != upOfStar)) {
                    bits |= 1 << s;
                }
            }
            return bits;
        }

        void forgetPort(int p) {
            for (int x = 0; x < TREES; x++) {
                if (joinedBy[x] != NONE && joinedBy[x] / PAIR == p) {
                    joinNone(x);
                }
            }
        }

        private void joinNone(int x) {
            joinedBy[x] = NONE;
            if (x == STAR) {
                toldCut = 0;
            }
        }

        void checkStraight() {
            for (int s = 0; s < HOSTS && known != 0; s++) {
                if (!isStraight(s)) {
                    continue;
                }
                look(s);
                if (!isWanted || portToSource(s) != straightBy[s]) {
                    straightBy[s] = NONE;
                }
            }
        }

        void renewJoin(int x) {
            if (!has(known, x)) {
                return;
            }
            int up = wants(x) ? up(x) : NONE;
            if (joinedBy[x] != NONE && joinedBy[x] != up) {
                openUp(PRUNE, x);
                joinNone(x);
            }
            if (up == NONE) {
                return;
            }
            int cutOff = x == STAR ? toCutOff(up) : 0;
            boolean isDue = joinedBy[x] == NONE || net.time - joinAt[x] >= JOIN_EVERY;
            if (isDue || (x == STAR && cutOff != toldCut)) {
                joinedBy[x] = up;
                sendJoin(x, cutOff);
            }
        }

        void dropKnown() {
            for (int x = 0; x < TREES && known != 0; x++) {
                if (has(known, x) && !holds(x)) {
                    known &= ~(1 << x);
                }
            }
        }

        private boolean holds(int x) {
            if (joinedBy[x] != NONE || (x != STAR && (isStraight(x) || keptTill[x] > net.time))) {
                return true;
            }
            for (int p = 0; p < PORTS; p++) {
                if (ports[p] != null && ports[p].holds(group, x)) {
                    return true;
                }
            }
            return false;
        }

        private void sendJoin(int x, int cutOff) {
            joinAt[x] = net.time;
            if (x == STAR) {
                toldCut = cutOff;
            }
            Frame frame = openUp(JOIN, x);
            if (frame != null) {
                frame.bits = cutOff;
            }
        }

        private Frame openUp(int kind, int x) {
            int p = joinedBy[x] / PAIR;
            if (joinedBy[x] == NONE || !isIn(p, PORTS) || ports[p] == null) {
                return null;
            }
            Frame frame = ports[p].wire.open(kind, router);
            if (frame != null) {
                frame.aim(joinedBy[x] % PAIR, group, x == STAR ? NONE : x);
            }
            return frame;
        }

        /** Shortly ahead of a stop's end the meeting point is asked whether it still wants no tunnels. */
        void probe() {
            for (int s = 0; s < HOSTS && known != 0; s++) {
                boolean isDue = stoppedTill[s] == net.time + PROBE_AHEAD && keptTill[s] > net.time;
                if (isDue && mayTunnel(s)) {
                    startTunnel(s, 0, 0);
                }
            }
        }

        private boolean mayTunnel(int s) {
            int p = portToSource(s);
            return isIn(p, PORTS) && ports[p] != null && ports[p].isFirst() && isDirect(s) && !isMeeting();
        }

        void takeReport(Port port) {
            known |= 1 << STAR;
            port.membersTill[group] = net.time + MEMBERS_FOR;
        }

        void takeLeave(Port port) {
            if (!port.hasMembers(group) || !port.isAsking()) {
                return;
            }
            int soon = net.time + MEMBERS_AFTER_LEAVE;
            port.membersTill[group] = Math.min(port.membersTill[group], soon);
            Frame query = port.wire.open(QUERY, router);
            if (query != null) {
                query.group = group;
            }
        }

        void takeJoinOrPrune(Frame frame, Port port) {
            int x = frame.source == NONE ? STAR : frame.source;
            if (frame.kind == PRUNE) {
                port.takePrune(group, x);
                return;
            }
            known |= (1 << x) | frame.bits;
            port.takeJoin(group, x);
            if (x == STAR) {
                port.takeCuts(group, frame.bits);
            }
        }

        /** What another one tells the router by which this one has joined, too. */
        void overhear(Frame frame, int p) {
            int x = frame.source == NONE ? STAR : frame.source;
            if (joinedBy[x] != p * PAIR + frame.to) {
                return;
            }
            int told = x == STAR ? toldCut : 0;
            if (frame.kind == PRUNE || (frame.bits & ~told) != 0) {
                sendJoin(x, told);
            } else if (frame.bits == told) {
                joinAt[x] = net.time;
            }
        }

        void takeData(Frame frame, int p) {
            int s = frame.source;
            known |= 1 << s;
            boolean isByWay = portToSource(s) == p;
            boolean isFromSource = isByWay && isDirect(s);
            look(s);
            if (isFromSource || (isByWay && joinedBy[s] != NONE && all != 0)) {
                keptTill[s] = net.time + KEPT_FOR;
            }
            look(s);
            if (isByWay && isWanted && goesStraight(s, p)) {
                straightBy[s] = p;
            }
            look(s);
            int out = findOut(s, p, isByWay);
            sendData(out & ~(1 << p), s, frame.number, frame.life - 1);
            if (isFromSource && stoppedTill[s] <= net.time && mayTunnel(s)) {
                startTunnel(s, frame.number, frame.life);
            }
        }

        private boolean goesStraight(int s, int p) {
            if (isDirect(s) || portToMeeting() != p || shared == 0 || has(lost, p)) {
                return true;
            }
            int up = up(s);
            return up != NONE && up == up(STAR);
        }

        private int findOut(int s, int p, boolean isByWay) {
            if (isByWay && isStraight(s)) {
                return all;
            }
            if (!isStraight(s) && portToMeeting() == p) {
                if (hasOwnPort()) {
                    keptTill[s] = net.time + KEPT_FOR;
                }
                return shared;
            }
            if (isBranch(s, p)) {
                sendClaim(s, p);
            }
            return 0;
        }

        private boolean isBranch(int s, int p) {
            return has(isStraight(s) ? all : shared, p);
        }

        private void sendData(int out, int s, int number, int life) {
            for (int p = 0; p < PORTS && life > 0; p++) {
                if (!has(out, p) || ports[p] == null) {
                    continue;
                }
                Frame frame = ports[p].wire.open(DATA, router);
                if (frame != null) {
                    frame.aim(NONE, group, s);
                    frame.number = number;
                    frame.life = life;
                }
            }
        }

        void takeClaim(Frame frame, int p) {
            int s = frame.source;
            known |= 1 << s;
            ports[p].takeClaim(group, s, frame.number);
            look(s);
            if (isBranch(s, p) && isBetter(claim, frame.number)) {
                sendClaim(s, p);
            }
        }

        private void sendClaim(int s, int p) {
            Frame frame = ports[p].wire.open(CLAIM, router);
            if (frame != null) {
                frame.aim(NONE, group, s);
                frame.number = claim;
            }
        }

        private void startTunnel(int s, int number, int dataLife) {
            Frame frame = openTo(net.meeting[group], TUNNEL, s);
            if (frame != null) {
                frame.number = number;
                frame.bits = router + PAIR * dataLife;
                frame.life = FIRST_LIFE;
                net.tunnelsSent++;
            }
        }

        void takeTunnel(Frame frame) {
            if (!isMeeting()) {
                passOn(frame, net.meeting[group]);
                return;
            }
            int s = frame.source;
            known |= 1 << s;
            look(s);
            if (isStraight(s) || all == 0) {
                sendStop(s, frame.bits % PAIR);
            }
            keptTill[s] = net.time + KEPT_FOR;
            if (!isStraight(s)) {
                sendData(shared, s, frame.number, frame.bits / PAIR - 1);
            }
        }

        private void sendStop(int s, int target) {
            Frame frame = openTo(target, STOP, s);
            if (frame != null) {
                frame.bits = target;
                frame.life = FIRST_LIFE;
            }
        }

        void takeStop(Frame frame) {
            if (frame.bits == router) {
                stoppedTill[frame.source] = net.time + STOPPED_FOR;
            } else {
                passOn(frame, frame.bits);
            }
        }

        private void passOn(Frame frame, int target) {
            if (frame.life <= 1) {
                return;
            }
            Frame next = openTo(target, frame.kind, frame.source);
            if (next != null) {
                next.number = frame.number;
                next.bits = frame.bits;
                next.life = frame.life - 1;
            }
        }

        private Frame openTo(int target, int kind, int s) {
            int p = net.ways.portTo(router, target);
            int next = net.ways.routerTo(router, target);
            if (next == NONE || !isIn(p, PORTS) || ports[p] == null) {
                return null;
            }
            Frame frame = ports[p].wire.open(kind, router);
            if (frame != null) {
                frame.aim(next, group, s);
            }
            return frame;
        }

        boolean isLost(int s, int p) {
            look(s);
            return has(lost, p);
        }

        int tellStar(int what) {
            switch (what) {
                case 0: return wants(STAR) ? 1 : 0;
                case 1: return joinedRouter(STAR);
                case 2: return joinedPort(STAR);
                case 3: return base();
                case 4: return toldCut;
                default: return NONE;
            }
        }

        int tellSource(int s, int what) {
            look(s);
            switch (what) {
                case 0: return isWanted ? 1 : 0;
                case 1: return joinedRouter(s);
                case 2: return joinedPort(s);
                case 3: return all;
                case 4: return shared;
                case 5: return isStraight(s) ? 1 : 0;
                case 6: return keptTill[s] > net.time ? keptTill[s] : 0;
                case 7: return stoppedTill[s] > net.time ? stoppedTill[s] : 0;
                default: return NONE;
            }
        }

        private int joinedRouter(int x) {
            return joinedBy[x] == NONE ? NONE : joinedBy[x] % PAIR;
        }

        private int joinedPort(int x) {
            return joinedBy[x] == NONE ? NONE : joinedBy[x] / PAIR;
        }
    }
}
