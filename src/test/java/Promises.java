/**
 * The promises 1 to 19, one method each or more: ordinary inputs, the edges that the document names,
 * and wrong inputs. All answers were reckoned by hand from the document.
 */
public final class Promises {
    private static final int NONE = GroveWorks.NONE;
    private static int wrong = 0;

    public static void main(String[] args) {
        newObject();
        plug();
        host();
        meet();
        cutAndMend();
        cutForgets();
        joinAndLeave();
        leaveIsAskedAfter();
        send();
        lose();
        fullWire();
        tick();
        got();
        framesOfRoutersAndHosts();
        framesOfTunnels();
        ways();
        waysOverCutWires();
        ports();
        neighboursLapse();
        members();
        queries();
        joinsLapse();
        straightWays();
        straightEnds();
        claims();
        claimsWithoutDistance();
        claimsAndCutOffs();
        claimsAndStraightWays();
        claimsAndMendedWires();
        prunesAndObjections();
        cutOffsWait();
        stops();
        edgesOfStops();
        lifeOfData();
        lifeOfTunnels();
        counts();
        wrongQuestions();
        extremes();
        System.out.println(wrong == 0 ? "all promises hold" : wrong + " answers are not as due");
        if (wrong != 0) {
            System.exit(1);
        }
    }

    private static void due(String call, int got, int want) {
        if (got != want) {
            wrong++;
            System.out.println(call + " answered " + got + ", due is " + want);
        }
    }

    private static void due(String call, boolean got, boolean want) {
        due(call, got ? 1 : 0, want ? 1 : 0);
    }

    /** All eight parts of a frame. */
    private static void dueFrame(String name, GroveWorks x, int wire, int i, int... want) {
        for (int what = 0; what < 8; what++) {
            due(name + ": frame(" + wire + ", " + i + ", " + what + ")", x.frame(wire, i, what), want[what]);
        }
    }

    private static int framesOn(GroveWorks x, int wire) {
        int n = 0;
        while (x.frame(wire, n, 0) != -2) {
            n++;
        }
        return n;
    }

    private static int framesOf(GroveWorks x, int wire, int kind) {
        int n = 0;
        for (int i = 0; x.frame(wire, i, 0) != -2; i++) {
            n += x.frame(wire, i, 0) == kind ? 1 : 0;
        }
        return n;
    }

    /** 0 -w0- 1 -w1- 2, host 0 on w2 of router 0, hosts 1 and 2 on w3 of router 2. */
    private static GroveWorks line(int meeting) {
        GroveWorks x = new GroveWorks(3);
        x.plug(0, 0, 0, 1);
        x.plug(1, 0, 0, 1);
        x.plug(1, 1, 1, 1);
        x.plug(2, 0, 1, 1);
        x.plug(0, 1, 2, 1);
        x.plug(2, 1, 3, 1);
        x.host(0, 2);
        x.host(1, 3);
        x.host(2, 3);
        x.meet(0, meeting);
        return x;
    }

    /** Router 0 is the meeting point, host 0 sends at router 1, host 1 listens at router 2. */
    private static GroveWorks triangle() {
        GroveWorks x = new GroveWorks(3);
        x.plug(0, 0, 0, 1);
        x.plug(0, 1, 2, 1);
        x.plug(1, 0, 1, 1);
        x.plug(1, 1, 2, 1);
        x.plug(1, 2, 3, 1);
        x.plug(2, 0, 0, 1);
        x.plug(2, 1, 1, 1);
        x.plug(2, 2, 4, 1);
        x.host(0, 3);
        x.host(1, 4);
        return x;
    }

    /** Routers 0 and 1 hang on router 2, the meeting point, by wire 0; hosts 0 and 1 behind them. */
    private static GroveWorks fork() {
        GroveWorks x = new GroveWorks(3);
        x.plug(0, 0, 0, 1);
        x.plug(1, 0, 0, 1);
        x.plug(2, 0, 0, 1);
        x.plug(0, 1, 1, 1);
        x.plug(1, 1, 2, 1);
        x.plug(2, 1, 3, 1);
        x.host(0, 1);
        x.host(1, 2);
        x.host(2, 3);
        x.meet(0, 2);
        return x;
    }

    private static void newObject() {
        int[] sizes = {Integer.MIN_VALUE, -1, 0, 1, 2, 9, 10, 11, Integer.MAX_VALUE};
        int[] want = {1, 1, 1, 1, 2, 9, 10, 10, 10};
        for (int i = 0; i < sizes.length; i++) {
            due("routers of " + sizes[i], new GroveWorks(sizes[i]).count(7), want[i]);
        }
        GroveWorks x = new GroveWorks(10);
        for (int what = 0; what < 7; what++) {
            due("count(" + what + ") at first", x.count(what), 0);
        }
        for (int r = 0; r < 10; r++) {
            for (int p = 0; p < 4; p++) {
                due("port at first", x.port(r, p, 0), NONE);
            }
        }
        for (int h = 0; h < 16; h++) {
            due("host at first", x.join(h, 0), false);
            due("host sends at first", x.send(h, 0), NONE);
        }
        due("wires are up at first", x.mend(15), false);
        due("NONE", GroveWorks.NONE, -1);
    }

    private static void plug() {
        GroveWorks x = new GroveWorks(2);
        int[][] refused = {
            {-1, 0, 0, 1}, {2, 0, 0, 1}, {0, -1, 0, 1}, {0, 4, 0, 1}, {0, 0, -1, 1}, {0, 0, 16, 1},
            {0, 0, 0, 0}, {0, 0, 0, 10}, {0, 0, 0, -1}, {Integer.MAX_VALUE, 0, 0, 1},
            {0, Integer.MIN_VALUE, 0, 1}, {0, 0, Integer.MAX_VALUE, 1},
        };
        for (int[] a : refused) {
            due("wrong plug", x.plug(a[0], a[1], a[2], a[3]), false);
        }
        due("nothing was put", x.port(0, 0, 0), NONE);
        due("plug", x.plug(0, 3, 15, 9), true);
        due("its wire", x.port(0, 3, 0), 15);
        due("its cost", x.port(0, 3, 1), 9);
        due("the port is on one", x.plug(0, 3, 14, 1), false);
        due("the router has another one there", x.plug(0, 2, 15, 1), false);
        due("its wire still", x.port(0, 3, 0), 15);
        due("another port still has none", x.port(0, 2, 0), NONE);
        due("another router", x.plug(1, 0, 15, 1), true);
        due("a refused call does not move time", x.tick(0), NONE);
        due("plug at time 0", x.plug(0, 0, 0, 1), true);
        x.tick(1);
        due("plug later", x.plug(0, 1, 1, 1), false);
        due("not put later", x.port(0, 1, 0), NONE);
    }

    private static void host() {
        GroveWorks x = new GroveWorks(1);
        due("host(-1, 0)", x.host(-1, 0), false);
        due("host(16, 0)", x.host(16, 0), false);
        due("host(0, -1)", x.host(0, -1), false);
        due("host(0, 16)", x.host(0, 16), false);
        due("host(0, 0)", x.host(0, 0), true);
        due("it is on one", x.host(0, 1), false);
        due("host(15, 15)", x.host(15, 15), true);
        due("it is there", x.join(15, 7), true);
        due("its report", x.frame(15, 0, 1), 115);
        due("host 0 stays on wire 0", x.join(0, 0), true);
        due("its report there", x.frame(0, 0, 1), 100);
        x.tick(1);
        due("host later", x.host(1, 0), false);
        due("not put later", x.join(1, 0), false);
    }

    private static void meet() {
        GroveWorks x = line(2);
        due("meet(-1, 0)", x.meet(-1, 0), false);
        due("meet(8, 0)", x.meet(8, 0), false);
        due("meet(0, -1)", x.meet(0, -1), false);
        due("meet(0, 3)", x.meet(0, 3), false);
        due("meet(0, 1)", x.meet(0, 1), true);
        due("meet(7, 2)", x.meet(7, 2), true);
        x.tick(2);
        due("meet later", x.meet(0, 2), false);
        x.join(1, 0);
        x.join(1, 1);
        x.join(1, 7);
        x.tick(1);
        due("router 2 joins by router 1", x.tree(2, 0, NONE, 1), 1);
        due("a group's meeting point is router 0 at first", x.tree(2, 1, NONE, 1), 1);
        due("the meeting point wants nothing", x.tree(2, 7, NONE, 0), 0);
        x.tick(1);
        due("router 1 is one, too", x.tree(1, 0, NONE, 0), 0);
        due("and joins for the other group", x.tree(1, 1, NONE, 1), 0);
    }

    private static void cutAndMend() {
        GroveWorks x = line(1);
        due("cut(-1)", x.cut(-1), false);
        due("cut(16)", x.cut(16), false);
        due("mend(-1)", x.mend(-1), false);
        due("mend(16)", x.mend(16), false);
        due("it is up", x.mend(0), false);
        due("cut(0)", x.cut(0), true);
        due("it is cut", x.cut(0), false);
        x.tick(3);
        due("nothing is sent there", framesOn(x, 0), 0);
        due("router 0 has no neighbours", x.port(0, 0, 2), 0);
        due("but is first", x.port(0, 0, 3), 1);
        due("and asking", x.port(0, 0, 4), 1);
        due("nothing is lost", x.count(3), 0);
        due("way over it", x.way(0, false, 1, 0), NONE);
        due("mend(0)", x.mend(0), true);
        due("way again", x.way(0, false, 1, 0), 1);
        x.tick(1);
        due("hellos and queries at once", framesOn(x, 0), 4);
        x.tick(1);
        due("neighbour", x.port(0, 0, 2), 2);
        x.cut(2);
        due("join on a cut wire", x.join(0, 0), true);
        due("its report is not sent", framesOn(x, 2), 0);
        due("leave on a cut wire", x.leave(0, 0), true);
        due("send on a cut wire", x.send(0, 0), NONE);
        due("no number is given", x.count(1), 0);
    }

    private static void cutForgets() {
        GroveWorks x = line(0);
        x.tick(2);
        x.join(1, 0);
        x.tick(3);
        due("members", x.members(2, 1, 0), 63);
        due("router 2 has joined", x.tree(2, 0, NONE, 1), 1);
        due("router 1 port 1", x.branch(1, 1, 0, NONE, 0), 74);
        due("router 1 has joined", x.tree(1, 0, NONE, 2), 0);
        due("router 0 port 0", x.branch(0, 0, 0, NONE, 0), 75);
        x.send(0, 0);
        due("a frame", framesOn(x, 2), 1);
        x.cut(2);
        due("gone", framesOn(x, 2), 0);
        x.mend(2);
        x.cut(1);
        due("joins are forgotten", x.branch(1, 1, 0, NONE, 0), 0);
        due("whom it has joined", x.tree(2, 0, NONE, 1), NONE);
        due("by which port", x.tree(2, 0, NONE, 2), NONE);
        due("members stay", x.members(2, 1, 0), 63);
        due("router 1 still has joined", x.tree(1, 0, NONE, 1), 0);
        due("neighbours are forgotten", x.port(2, 0, 2), 0);
        x.tick(1);
        due("router 1 prunes by wire 0", framesOf(x, 0, 6), 1);
        due("router 2 does not, by wire 1", framesOn(x, 1), 0);
        x.mend(1);
        x.tick(1);
        due("pruned", x.branch(0, 0, 0, NONE, 0), 0);
        due("hello and query again", framesOn(x, 1), 4);
        x.tick(1);
        due("router 2 joins again", x.tree(2, 0, NONE, 1), 1);
        x.cut(3);
        due("members are forgotten", x.members(2, 1, 0), 0);
        x.mend(3);
        x.tick(3);
        due("and told again", x.members(2, 1, 0), 71);
    }

    private static void joinAndLeave() {
        GroveWorks x = line(1);
        due("join(-1, 0)", x.join(-1, 0), false);
        due("join(16, 0)", x.join(16, 0), false);
        due("join(0, -1)", x.join(0, -1), false);
        due("join(0, 8)", x.join(0, 8), false);
        due("on no wire", x.join(3, 0), false);
        due("leave(-1, 0)", x.leave(-1, 0), false);
        due("leave(16, 0)", x.leave(16, 0), false);
        due("leave(0, -1)", x.leave(0, -1), false);
        due("leave(0, 8)", x.leave(0, 8), false);
        due("leave on no wire", x.leave(3, 0), false);
        due("leave ahead", x.leave(0, 0), false);
        due("nothing sent", x.count(2), 0);
        due("join(0, 7)", x.join(0, 7), true);
        due("twice", x.join(0, 7), false);
        due("another group", x.leave(0, 6), false);
        due("another host", x.leave(1, 7), false);
        dueFrame("report", x, 2, 0, 3, 100, NONE, 7, NONE, 0, 0, 0);
        due("leave(0, 7)", x.leave(0, 7), true);
        due("leave twice", x.leave(0, 7), false);
        dueFrame("leave", x, 2, 1, 4, 100, NONE, 7, NONE, 0, 0, 0);
        due("join again", x.join(0, 7), true);
        due("three frames", x.count(2), 3);
    }

    private static void leaveIsAskedAfter() {
        GroveWorks x = line(1);
        x.tick(2);
        x.join(1, 0);
        x.join(2, 0);
        x.tick(1);
        due("members", x.members(2, 1, 0), 63);
        x.leave(1, 0);
        x.tick(1);
        due("for 4 ticks", x.members(2, 1, 0), 8);
        dueFrame("a query with its group", x, 3, 0, 2, 2, NONE, 0, NONE, 0, 0, 0);
        x.tick(1);
        due("the other host answers", framesOf(x, 3, 3), 1);
        due("it is host 2", x.frame(3, 0, 1), 102);
        x.tick(1);
        due("members again", x.members(2, 1, 0), 66);
        x.leave(2, 0);
        x.tick(1);
        due("the last one leaves", x.members(2, 1, 0), 11);
        x.tick(3);
        due("till 11", x.members(2, 1, 0), 11);
        due("wants", x.tree(2, 0, NONE, 0), 1);
        x.tick(1);
        due("none at 11", x.members(2, 1, 0), 0);
        due("prune", framesOf(x, 1, 6), 1);
        x.join(1, 1);
        x.tick(1);
        x.leave(1, 1);
        x.join(1, 1);
        x.tick(1);
        due("a report behind a leave", x.members(2, 1, 1), 73);
    }

    private static void send() {
        GroveWorks x = line(1);
        due("send(-1, 0)", x.send(-1, 0), NONE);
        due("send(16, 0)", x.send(16, 0), NONE);
        due("send(0, -1)", x.send(0, -1), NONE);
        due("send(0, 8)", x.send(0, 8), NONE);
        due("on no wire", x.send(3, 0), NONE);
        due("no number given", x.count(1), 0);
        due("send(0, 0)", x.send(0, 0), 0);
        due("send(1, 7)", x.send(1, 7), 1);
        dueFrame("data", x, 2, 0, 7, 100, NONE, 0, 0, 0, 0, 16);
        dueFrame("data", x, 3, 0, 7, 101, NONE, 7, 1, 1, 0, 16);
        for (int i = 2; i < 400; i++) {
            if (i % 40 == 0) {
                x.tick(1);
            }
            due("send", x.send(0, 0), i);
        }
        x.tick(1);
        due("400 were", x.send(0, 0), NONE);
        due("numbers given", x.count(1), 400);
        due("the last one is known", x.got(1, 399), 0);
        due("not one behind it", x.got(1, 400), NONE);
    }

    private static void lose() {
        GroveWorks x = line(1);
        due("nothing to lose", x.lose(2, 0), false);
        x.join(0, 3);
        x.join(0, 4);
        x.join(0, 5);
        due("lose(-1, 0)", x.lose(-1, 0), false);
        due("lose(16, 0)", x.lose(16, 0), false);
        due("lose(2, -1)", x.lose(2, -1), false);
        due("lose(2, 3)", x.lose(2, 3), false);
        due("three", framesOn(x, 2), 3);
        due("lose(2, 1)", x.lose(2, 1), true);
        due("two", framesOn(x, 2), 2);
        due("the first stays", x.frame(2, 0, 3), 3);
        due("the third moves up", x.frame(2, 1, 3), 5);
        x.join(0, 6);
        due("behind them", x.frame(2, 2, 3), 6);
        due("sent, not lost", x.count(2), 4);
        due("lost", x.count(3), 0);
        x.tick(1);
        due("heard", x.members(0, 1, 3), 61);
        due("gone", x.members(0, 1, 4), 0);
        due("heard, too", x.members(0, 1, 5), 61);
        due("the last", x.members(0, 1, 6), 61);
    }

    private static void fullWire() {
        GroveWorks x = line(1);
        for (int i = 0; i < 40; i++) {
            x.send(0, 0);
        }
        due("40 are sent", x.count(2), 40);
        due("the last one", x.frame(2, 39, 5), 39);
        due("a number for a lost one", x.send(0, 0), 40);
        due("40 still", x.count(2), 40);
        due("one lost", x.count(3), 1);
        due("lose one", x.lose(2, 0), true);
        due("join takes no room", x.join(0, 0), true);
        due("for the gone one counts", x.count(3), 2);
        x.cut(2);
        x.mend(2);
        due("behind a cut", x.send(0, 0), 41);
        due("it counts as well", x.count(3), 3);
        due("another wire", x.send(1, 0), 42);
        due("is not full", x.count(3), 3);
        x.tick(1);
        due("hello and query find room", framesOn(x, 2), 2);
        for (int i = 0; i < 40; i++) {
            x.send(0, 0);
        }
        due("two more are lost", x.count(3), 5);
        due("the last place", x.frame(2, 39, 5), 80);
    }

    private static void tick() {
        GroveWorks x = line(1);
        due("tick(0)", x.tick(0), NONE);
        due("tick(-1)", x.tick(-1), NONE);
        due("tick(51)", x.tick(51), NONE);
        due("tick(max)", x.tick(Integer.MAX_VALUE), NONE);
        due("tick(min)", x.tick(Integer.MIN_VALUE), NONE);
        due("time", x.count(0), 0);
        due("tick(1)", x.tick(1), 1);
        due("tick(49)", x.tick(49), 50);
        for (int i = 2; i < 120; i++) {
            due("tick(50)", x.tick(50), 50 * i);
        }
        due("tick(50) to 6000", x.tick(49), 5999);
        due("above 6000", x.tick(2), NONE);
        due("time stays", x.count(0), 5999);
        due("to 6000", x.tick(1), 6000);
        due("behind 6000", x.tick(1), NONE);
        due("still neighbours", x.port(1, 0, 2), 1);
    }

    private static void got() {
        GroveWorks x = line(1);
        x.join(1, 0);
        due("none given", x.got(1, 0), NONE);
        x.send(2, 0);
        x.send(2, 1);
        due("got(-1, 0)", x.got(-1, 0), NONE);
        due("got(16, 0)", x.got(16, 0), NONE);
        due("got(1, -1)", x.got(1, -1), NONE);
        due("got(1, 2)", x.got(1, 2), NONE);
        due("not yet", x.got(1, 0), 0);
        x.tick(1);
        due("got", x.got(1, 0), 1);
        due("of another group", x.got(1, 1), 0);
        due("its sender", x.got(2, 0), 0);
        due("a host on no wire", x.got(9, 0), 0);
        x.leave(1, 0);
        x.send(2, 0);
        x.tick(1);
        due("behind leave", x.got(1, 2), 0);
    }

    private static void framesOfRoutersAndHosts() {
        GroveWorks x = line(0);
        x.join(1, 0);
        x.tick(1);
        dueFrame("hello", x, 0, 0, 1, 0, NONE, NONE, NONE, 0, 0, 0);
        dueFrame("query", x, 0, 1, 2, 0, NONE, NONE, NONE, 0, 0, 0);
        dueFrame("hello", x, 0, 2, 1, 1, NONE, NONE, NONE, 0, 0, 0);
        dueFrame("query", x, 0, 3, 2, 1, NONE, NONE, NONE, 0, 0, 0);
        due("four", framesOn(x, 0), 4);
        due("frame(-1, 0, 0)", x.frame(-1, 0, 0), -2);
        due("frame(16, 0, 0)", x.frame(16, 0, 0), -2);
        due("frame(0, -1, 0)", x.frame(0, -1, 0), -2);
        due("frame(0, 4, 0)", x.frame(0, 4, 0), -2);
        due("frame(0, 0, -1)", x.frame(0, 0, -1), -2);
        due("frame(0, 0, 8)", x.frame(0, 0, 8), -2);
        x.tick(1);
        dueFrame("join", x, 1, 0, 5, 2, 1, 0, NONE, 0, 0, 0);
        dueFrame("report", x, 3, 0, 3, 101, NONE, 0, NONE, 0, 0, 0);
        x.tick(1);
        dueFrame("join goes on", x, 0, 0, 5, 1, 0, 0, NONE, 0, 0, 0);
        x.tick(1);
        x.send(0, 0);
        x.tick(1);
        dueFrame("data goes on", x, 0, 0, 7, 0, NONE, 0, 0, 0, 0, 15);
        due("no tunnel: router 0 is the meeting point", framesOn(x, 0), 1);
        x.tick(1);
        dueFrame("and on", x, 1, 0, 7, 1, NONE, 0, 0, 0, 0, 14);
        x.tick(1);
        dueFrame("to the last wire", x, 3, 0, 7, 2, NONE, 0, 0, 0, 0, 13);
        dueFrame("join of the source", x, 1, 0, 5, 2, 1, 0, 0, 0, 0, 0);
        x.tick(1);
        due("got", x.got(1, 0), 1);
        x.leave(1, 0);
        x.tick(5);
        dueFrame("prune", x, 1, 0, 6, 2, 1, 0, NONE, 0, 0, 0);
        dueFrame("prune of the source", x, 1, 1, 6, 2, 1, 0, 0, 0, 0, 0);
    }

    private static void framesOfTunnels() {
        GroveWorks x = line(2);
        x.tick(2);
        x.send(1, 0);
        x.tick(1);
        due("the meeting point makes no tunnel", x.count(5), 0);
        x.send(0, 0);
        x.tick(1);
        dueFrame("tunnel", x, 0, 0, 9, 0, 1, 0, 0, 1, 256, 16);
        due("tunnels", x.count(5), 1);
        x.tick(1);
        dueFrame("tunnel goes on", x, 1, 0, 9, 1, 2, 0, 0, 1, 256, 15);
        due("it is none sent first", x.count(5), 1);
        x.tick(1);
        dueFrame("stop", x, 1, 0, 10, 2, 1, 0, 0, 0, 0, 16);
        due("kept", x.tree(2, 0, 0, 6), 76);
        x.tick(1);
        dueFrame("stop goes on", x, 0, 0, 10, 1, 0, 0, 0, 0, 0, 15);
        due("router 1 is not stopped", x.tree(1, 0, 0, 7), 0);
        x.tick(1);
        due("stopped", x.tree(0, 0, 0, 7), 48);
        x.send(0, 0);
        x.tick(1);
        due("no tunnel while stopped", x.count(5), 1);
        due("kept at the source", x.tree(0, 0, 0, 6), 79);
    }

    private static void ways() {
        GroveWorks x = new GroveWorks(4);
        x.plug(0, 2, 0, 3);
        x.plug(1, 0, 0, 1);
        x.plug(2, 0, 0, 1);
        x.plug(1, 1, 1, 2);
        x.plug(2, 1, 1, 2);
        x.plug(3, 0, 1, 9);
        due("to itself", x.way(0, false, 0, 0), 0);
        due("no way to itself", x.way(0, false, 0, 1), NONE);
        due("nor a router", x.way(0, false, 0, 2), NONE);
        due("over two wires", x.way(0, false, 3, 0), 5);
        due("by the port", x.way(0, false, 3, 1), 2);
        due("the lesser router", x.way(0, false, 3, 2), 1);
        due("back by other costs", x.way(3, false, 0, 0), 10);
        due("back by router 1", x.way(3, false, 0, 2), 1);
        due("to a wire", x.way(0, true, 1, 0), 3);
        due("by router 1, too", x.way(0, true, 1, 2), 1);
        due("direct", x.way(0, true, 0, 0), 0);
        due("by its port", x.way(0, true, 0, 1), 2);
        due("without a router", x.way(0, true, 0, 2), NONE);
        due("a wire with nobody", x.way(0, true, 7, 0), NONE);
        due("no port there", x.way(0, true, 7, 1), NONE);
        x.plug(0, 1, 2, 2);
        x.plug(2, 2, 2, 1);
        due("shorter by router 2", x.way(0, false, 3, 0), 4);
        due("its port", x.way(0, false, 3, 1), 1);
        x.plug(0, 0, 3, 2);
        x.plug(2, 3, 3, 9);
        due("the least port of equals", x.way(0, false, 3, 1), 0);
        due("its router", x.way(0, false, 3, 2), 2);
        due("way(-1)", x.way(-1, false, 0, 0), NONE);
        due("way(4)", x.way(4, false, 0, 0), NONE);
        due("to -1", x.way(0, false, -1, 0), NONE);
        due("to router 4", x.way(0, false, 4, 0), NONE);
        due("to wire 16", x.way(0, true, 16, 0), NONE);
        due("to wire -1", x.way(0, true, -1, 0), NONE);
        due("what 3", x.way(0, false, 3, 3), NONE);
        due("what -1", x.way(0, false, 3, -1), NONE);
    }

    private static void waysOverCutWires() {
        due("none without wires", new GroveWorks(2).way(0, false, 1, 0), NONE);
        due("no port without wires", new GroveWorks(2).way(0, false, 1, 1), NONE);
        GroveWorks x = triangle();
        due("two is one away", x.way(0, false, 2, 0), 1);
        due("wire 4 by port 0", x.way(0, true, 4, 1), 0);
        x.cut(0);
        due("now by router 1", x.way(0, false, 2, 0), 2);
        due("by port 1", x.way(0, true, 4, 1), 1);
        due("none to a cut wire", x.way(0, true, 0, 0), NONE);
        due("not even by its port", x.way(0, true, 0, 1), NONE);
        x.cut(2);
        due("apart", x.way(0, false, 2, 0), NONE);
        due("no port", x.way(0, false, 2, 1), NONE);
        due("still to itself", x.way(0, false, 0, 0), 0);
        x.mend(0);
        due("again", x.way(0, false, 1, 0), 2);
        due("by router 2", x.way(0, false, 1, 2), 2);
    }

    private static void ports() {
        GroveWorks x = fork();
        due("none yet", x.port(1, 0, 2), 0);
        due("first", x.port(1, 0, 3), 1);
        due("asking", x.port(1, 0, 4), 1);
        x.tick(1);
        due("none heard yet", x.port(1, 0, 2), 0);
        x.tick(1);
        due("neighbours", x.port(1, 0, 2), 5);
        due("not first", x.port(1, 0, 3), 0);
        due("not asking", x.port(1, 0, 4), 0);
        due("router 0 asks", x.port(0, 0, 4), 1);
        due("router 0 is not first", x.port(0, 0, 3), 0);
        due("router 2 is first", x.port(2, 0, 3), 1);
        due("router 2 does not ask", x.port(2, 0, 4), 0);
        due("alone", x.port(2, 1, 2), 0);
        due("port(-1, 0, 0)", x.port(-1, 0, 0), NONE);
        due("port(3, 0, 0)", x.port(3, 0, 0), NONE);
        due("port(0, -1, 0)", x.port(0, -1, 0), NONE);
        due("port(0, 4, 0)", x.port(0, 4, 0), NONE);
        due("on no wire", x.port(0, 2, 3), NONE);
        due("what 5", x.port(0, 0, 5), NONE);
        due("what -1", x.port(0, 0, -1), NONE);
    }

    private static void neighboursLapse() {
        GroveWorks x = fork();
        x.tick(2);
        for (int t = 3; t <= 66; t++) {
            x.tick(1);
            for (int i = framesOn(x, 0) - 1; i >= 0; i--) {
                if (x.frame(0, i, 0) == 1 && x.frame(0, i, 1) == 2) {
                    x.lose(0, i);
                }
            }
        }
        due("till 67", x.port(0, 0, 2), 6);
        x.tick(1);
        due("lapsed", x.port(0, 0, 2), 2);
        due("router 1 is first now", x.port(1, 0, 3), 1);
        due("others are heard", x.port(2, 0, 2), 3);
        x.tick(15);
        due("heard again at 82", x.port(0, 0, 2), 6);
    }

    private static void members() {
        GroveWorks x = fork();
        x.host(5, 0);
        x.join(5, 2);
        x.tick(1);
        for (int r = 0; r < 3; r++) {
            due("all hear a report", x.members(r, 0, 2), 61);
        }
        due("of another group", x.members(0, 0, 1), 0);
        due("by another port", x.members(0, 1, 2), 0);
        due("a port on no wire", x.members(0, 3, 2), 0);
        x.tick(1);
        due("only the first has its own", x.tree(0, 2, NONE, 3), 0);
        due("router 2", x.tree(2, 2, NONE, 3), 1);
        due("members(-1, 0, 0)", x.members(-1, 0, 0), NONE);
        due("members(3, 0, 0)", x.members(3, 0, 0), NONE);
        due("members(0, -1, 0)", x.members(0, -1, 0), NONE);
        due("members(0, 4, 0)", x.members(0, 4, 0), NONE);
        due("members(0, 0, -1)", x.members(0, 0, -1), NONE);
        due("members(0, 0, 8)", x.members(0, 0, 8), NONE);
        x.tick(1);
        due("reports behind queries", x.members(0, 0, 2), 63);
        for (int t = 4; t <= 62; t++) {
            x.tick(1);
            for (int i = framesOn(x, 0) - 1; i >= 0; i--) {
                if (x.frame(0, i, 0) == 3) {
                    x.lose(0, i);
                }
            }
        }
        due("till 63", x.members(2, 0, 2), 63);
        x.tick(1);
        due("none", x.members(2, 0, 2), 0);
        due("no base", x.tree(2, 2, NONE, 3), 0);
        x.tick(15);
        due("members again, by the query of 76", x.members(2, 0, 2), 138);
        x.leave(5, 2);
        x.tick(1);
        due("one that does not ask keeps them", x.members(2, 0, 2), 138);
        due("the one that asks", x.members(0, 0, 2), 83);
    }

    private static void queries() {
        GroveWorks x = fork();
        x.tick(1);
        due("all ask at first", framesOf(x, 0, 2), 3);
        for (int t = 2; t <= 60; t++) {
            x.tick(1);
            due("hellos at " + t, framesOf(x, 0, 1), t == 21 || t == 41 ? 3 : 0);
            due("one asks at " + t, framesOf(x, 0, 2), t == 26 || t == 51 ? 1 : 0);
            due("alone at " + t, framesOf(x, 1, 2), t == 26 || t == 51 ? 1 : 0);
        }
        GroveWorks y = fork();
        y.join(0, 5);
        y.join(0, 2);
        y.tick(2);
        due("two reports", framesOn(y, 1), 2);
        due("by groups", y.frame(1, 0, 3), 2);
        due("by groups", y.frame(1, 1, 3), 5);
    }

    private static void joinsLapse() {
        GroveWorks x = line(0);
        x.tick(2);
        x.join(1, 0);
        x.tick(2);
        due("joined", x.branch(1, 1, 0, NONE, 0), 74);
        due("base", x.tree(1, 0, NONE, 3), 2);
        due("another port", x.branch(1, 0, 0, NONE, 0), 0);
        due("another group", x.branch(1, 1, 1, NONE, 0), 0);
        due("not for a source", x.branch(1, 1, 0, 0, 0), 0);
        for (int t = 5; t <= 73; t++) {
            x.tick(1);
            due("joins at " + t, framesOf(x, 1, 5), t == 23 || t == 43 || t == 63 ? 1 : 0);
            for (int i = framesOn(x, 1) - 1; i >= 0; i--) {
                if (x.frame(1, i, 0) == 5) {
                    x.lose(1, i);
                }
            }
        }
        due("till 74", x.branch(1, 1, 0, NONE, 0), 74);
        due("wants", x.tree(1, 0, NONE, 0), 1);
        x.tick(1);
        due("lapsed", x.branch(1, 1, 0, NONE, 0), 0);
        due("wants no more", x.tree(1, 0, NONE, 0), 0);
        due("prune", framesOf(x, 0, 6), 1);
        due("has joined none", x.tree(1, 0, NONE, 1), NONE);
    }

    private static void straightWays() {
        GroveWorks x = triangle();
        x.tick(2);
        x.join(1, 0);
        x.tick(2);
        due("joined at the meeting point", x.branch(0, 0, 0, NONE, 0), 74);
        x.send(0, 0);
        x.tick(1);
        due("kept at the source", x.tree(1, 0, 0, 6), 75);
        due("not wanted there", x.tree(1, 0, 0, 0), 0);
        due("a tunnel", framesOf(x, 2, 9), 1);
        x.tick(1);
        dueFrame("out of the tunnel", x, 0, 0, 7, 0, NONE, 0, 0, 0, 0, 15);
        due("the meeting point joins the source", x.tree(0, 0, 0, 1), 1);
        due("by port 1", x.tree(0, 0, 0, 2), 1);
        x.tick(1);
        due("kept where it is got", x.tree(2, 0, 0, 6), 77);
        due("router 2 joins the source", x.tree(2, 0, 0, 1), 1);
        due("joined by router 0", x.branch(1, 1, 0, 0, 0), 77);
        x.tick(1);
        due("joined by router 2", x.branch(1, 0, 0, 0, 0), 78);
        due("got", x.got(1, 0), 1);
        due("all", x.tree(1, 0, 0, 3), 3);
        due("shared", x.tree(1, 0, 0, 4), 0);
        due("wanted", x.tree(1, 0, 0, 0), 1);
        x.send(0, 0);
        x.tick(1);
        due("straight at the source", x.tree(1, 0, 0, 5), 1);
        due("data by wire 1", framesOf(x, 1, 7), 1);
        due("data, then the tunnel", x.frame(2, 0, 0), 7);
        due("the tunnel", x.frame(2, 1, 0), 9);
        x.tick(1);
        due("straight at router 2", x.tree(2, 0, 0, 5), 1);
        due("straight at the meeting point", x.tree(0, 0, 0, 5), 1);
        due("kept on", x.tree(2, 0, 0, 6), 80);
        dueFrame("stop", x, 2, 0, 10, 0, 1, 0, 0, 0, 1, 16);
        dueFrame("data of the meeting point", x, 0, 0, 7, 0, NONE, 0, 0, 1, 0, 14);
        dueFrame("join that cuts off", x, 0, 1, 5, 2, 0, 0, NONE, 0, 1, 0);
        due("what the last join told", x.tree(2, 0, NONE, 4), 1);
        x.tick(1);
        due("cut off", x.branch(0, 0, 0, 0, 1), 1);
        due("another source is not", x.branch(0, 0, 0, 1, 1), 0);
        due("still base", x.tree(0, 0, NONE, 3), 1);
        due("not shared", x.tree(0, 0, 0, 4), 0);
        due("straight ends", x.tree(0, 0, 0, 5), 0);
        due("pruned", framesOf(x, 2, 6), 1);
        due("stopped", x.tree(1, 0, 0, 7), 51);
        due("got once", x.got(1, 1), 1);
        x.tick(1);
        due("no more by wire 2", x.tree(1, 0, 0, 3), 1);
        x.send(0, 0);
        x.tick(1);
        due("no tunnel", framesOn(x, 2), 0);
        x.tick(2);
        due("got by the short way", x.got(1, 2), 1);
        due("tunnels", x.count(5), 2);
    }

    private static void straightEnds() {
        GroveWorks x = triangle();
        x.tick(2);
        x.join(1, 0);
        x.tick(2);
        x.send(0, 0);
        x.tick(4);
        x.send(0, 0);
        x.tick(3);
        due("straight", x.tree(2, 0, 0, 5), 1);
        due("cut off", x.branch(0, 0, 0, 0, 1), 1);
        x.cut(1);
        due("straight and kept stay", x.tree(2, 0, 0, 5), 1);
        due("kept", x.tree(2, 0, 0, 6), 80);
        due("but it has joined none", x.tree(2, 0, 0, 1), NONE);
        due("told is of *", x.tree(2, 0, NONE, 4), 1);
        x.tick(1);
        due("another way: not straight", x.tree(2, 0, 0, 5), 0);
        due("joined by router 0", x.tree(2, 0, 0, 1), 0);
        due("nothing to cut off", x.tree(2, 0, NONE, 4), 0);
        x.tick(1);
        due("cut off no more", x.branch(0, 0, 0, 0, 1), 0);
        due("joined for the source", x.branch(0, 0, 0, 0, 0), 83);
        x.tick(1);
        x.send(0, 0);
        x.tick(3);
        due("straight by the same up", x.tree(2, 0, 0, 5), 1);
        due("not cut off", x.tree(2, 0, NONE, 4), 0);
    }

    /** Routers 1 and 2 both bring data to wire 1, where router 0 hangs; router 3 is the meeting point. */
    private static GroveWorks twoToOne(int costOfOne) {
        GroveWorks x = new GroveWorks(4);
        x.plug(3, 0, 0, 1);
        x.plug(3, 1, 3, 1);
        x.plug(1, 0, 0, costOfOne);
        x.plug(1, 1, 1, 1);
        x.plug(2, 0, 0, 1);
        x.plug(2, 1, 1, 1);
        x.plug(0, 0, 1, 1);
        x.plug(0, 1, 2, 1);
        x.host(0, 3);
        x.host(1, 1);
        x.host(2, 2);
        x.meet(0, 3);
        x.tick(2);
        x.join(1, 0);
        x.join(2, 0);
        x.tick(4);
        return x;
    }

    private static void claims() {
        GroveWorks x = twoToOne(1);
        due("router 0 joins router 1", x.tree(0, 0, NONE, 1), 1);
        due("router 2 has its own", x.tree(2, 0, NONE, 3), 2);
        due("router 1 is joined", x.tree(1, 0, NONE, 3), 2);
        x.send(0, 0);
        x.tick(2);
        due("both bring it", framesOf(x, 1, 7), 2);
        due("no claim yet", x.count(6), 0);
        x.tick(1);
        due("both claim", x.count(6), 2);
        dueFrame("by the shared tree", x, 1, 0, 8, 2, NONE, 0, 0, 1000102, 0, 0);
        dueFrame("by the shared tree", x, 1, 1, 8, 1, NONE, 0, 0, 1000101, 0, 0);
        due("it came twice", x.got(1, 0), 2);
        due("router 0 joins the source by router 1", x.tree(0, 0, 0, 1), 1);
        x.tick(1);
        due("the better one answers", x.count(6), 3);
        due("router 1 keeps the claim of 2", x.branch(1, 1, 0, 0, 3), 2);
        due("router 1 has lost", x.branch(1, 1, 0, 0, 2), 1);
        due("router 2 keeps that of 1", x.branch(2, 1, 0, 0, 3), 1);
        due("router 2 has not lost", x.branch(2, 1, 0, 0, 2), 0);
        due("router 0 keeps the better one", x.branch(0, 0, 0, 0, 3), 2);
        due("of another source", x.branch(0, 0, 0, 1, 3), NONE);
        due("of another group", x.branch(1, 1, 1, 0, 2), 0);
        due("not shared where it is lost", x.tree(1, 0, 0, 4), 0);
        due("still base", x.tree(1, 0, NONE, 3), 2);
        due("router 0 turns to router 2", x.tree(0, 0, 0, 1), 2);
        due("a prune for router 1", framesOf(x, 1, 6), 1);
        due("got twice there, too", x.got(2, 0), 2);
        x.tick(2);
        x.send(0, 0);
        x.tick(5);
        due("once now", x.got(1, 1), 1);
        due("once there, too", x.got(2, 1), 1);
        due("no more claims", x.count(6), 3);

        GroveWorks y = twoToOne(2);
        y.send(0, 0);
        y.tick(1);
        due("nearer: router 2", y.tree(0, 0, NONE, 1), 2);
        y.tick(4);
        due("router 0 has joined router 2 alone", y.count(6), 0);
        due("no claim kept", y.branch(0, 0, 0, 0, 3), NONE);
    }

    /** At time 1 no router knows another: both have their own port on wire 0, and router 2 is nowhere. */
    private static void claimsWithoutDistance() {
        GroveWorks x = new GroveWorks(3);
        x.plug(0, 0, 0, 1);
        x.plug(1, 0, 0, 1);
        x.plug(0, 1, 1, 1);
        x.host(0, 1);
        x.host(1, 0);
        x.meet(0, 2);
        x.join(1, 0);
        x.send(0, 0);
        x.tick(1);
        due("straight", x.tree(0, 0, 0, 5), 1);
        due("no tunnel without a way", x.count(5), 0);
        x.tick(1);
        dueFrame("a claim without a distance", x, 0, 0, 8, 1, NONE, 0, 0, 1999901, 0, 0);
        due("no join without a way", x.tree(1, 0, NONE, 1), NONE);
        due("but it is wanted", x.tree(1, 0, NONE, 0), 1);
        x.tick(1);
        due("router 1 has not lost", x.branch(1, 0, 0, 0, 2), 0);
        due("router 0 is first no more", x.port(0, 0, 3), 0);
        due("so it does not answer", x.count(6), 1);
        due("router 0 keeps it", x.branch(0, 0, 0, 0, 3), 1);
        x.cut(0);
        due("till the wire is cut", x.branch(0, 0, 0, 0, 3), NONE);
    }

    private static void claimsAndCutOffs() {
        GroveWorks x = twoToOne(1);
        x.send(0, 0);
        x.tick(3);
        due("router 0 would join router 1", x.frame(1, 2, 0), 5);
        x.lose(1, 2);
        x.tick(1);
        due("lost", x.branch(1, 1, 0, 0, 2), 1);
        due("not joined for the source", x.branch(1, 1, 0, 0, 0), 0);
        due("nothing is left: to be cut off", x.tree(1, 0, NONE, 4), 1);
        x.tick(50);
        x.tick(7);
        due("the claim came again at 11", x.branch(1, 1, 0, 0, 2), 1);
        due("time", x.count(0), 67);
        x.tick(3);
        due("at 70", x.branch(1, 1, 0, 0, 3), 2);
        x.tick(1);
        due("at 71", x.branch(1, 1, 0, 0, 3), NONE);
        due("router 0 has cut it off, too", x.tree(1, 0, NONE, 4), 1);
        x.tick(1);
        due("at 72 no more", x.tree(1, 0, NONE, 4), 0);
    }

    /** Router 1 has lost wire 1, but as it gets straight it has the better claim at once. */
    private static void claimsAndStraightWays() {
        GroveWorks x = new GroveWorks(4);
        x.plug(3, 0, 0, 1);
        x.plug(3, 1, 3, 1);
        x.plug(1, 0, 0, 1);
        x.plug(1, 1, 1, 1);
        x.plug(1, 2, 4, 1);
        x.plug(2, 0, 0, 1);
        x.plug(2, 1, 1, 1);
        x.plug(0, 0, 1, 1);
        x.plug(0, 1, 2, 1);
        x.host(0, 3);
        x.host(1, 1);
        x.host(2, 2);
        x.host(3, 4);
        x.meet(0, 3);
        x.tick(2);
        x.join(1, 0);
        x.join(2, 0);
        x.join(3, 0);
        x.tick(4);
        x.send(0, 0);
        x.tick(4);
        dueFrame("router 0 got it twice, is straight and cuts it off", x, 1, 1, 5, 0, 1, 0, NONE, 0, 1, 0);
        x.lose(1, 1);
        x.tick(2);
        due("lost", x.branch(1, 1, 0, 0, 2), 1);
        due("not straight", x.tree(1, 0, 0, 5), 0);
        due("joined the source", x.tree(1, 0, 0, 1), 3);
        due("all but the lost one", x.tree(1, 0, 0, 3), 4);
        x.send(0, 0);
        x.tick(2);
        due("straight", x.tree(1, 0, 0, 5), 1);
        due("not lost", x.branch(1, 1, 0, 0, 2), 0);
        due("both bring it", framesOf(x, 1, 7), 2);
        x.tick(1);
        due("claims of straight ones", x.frame(1, 0, 5), 102);
        due("claims of straight ones", x.frame(1, 1, 5), 101);
        x.tick(1);
        due("lost again", x.branch(1, 1, 0, 0, 2), 1);
    }

    /** A claim is measured against the distance at that moment, also where no tick has gone by. */
    private static void claimsAndMendedWires() {
        GroveWorks x = new GroveWorks(4);
        x.plug(3, 0, 0, 1);
        x.plug(3, 1, 3, 1);
        x.plug(3, 2, 5, 1);
        x.plug(1, 0, 0, 1);
        x.plug(1, 1, 1, 1);
        x.plug(2, 0, 0, 2);
        x.plug(2, 1, 1, 1);
        x.plug(2, 2, 5, 1);
        x.plug(0, 0, 1, 1);
        x.plug(0, 1, 2, 1);
        x.host(0, 3);
        x.host(1, 1);
        x.host(2, 2);
        x.meet(0, 3);
        x.cut(5);
        x.tick(2);
        x.join(1, 0);
        x.join(2, 0);
        x.tick(4);
        x.send(0, 0);
        x.tick(4);
        due("the nearer one wins", x.branch(2, 1, 0, 0, 2), 1);
        due("not shared", x.tree(2, 0, 0, 4), 0);
        x.mend(5);
        due("as near, and greater", x.branch(2, 1, 0, 0, 2), 0);
        x.cut(5);
        due("farther again", x.branch(2, 1, 0, 0, 2), 1);
        x.mend(5);
        due("shared", x.tree(2, 0, 0, 4), 2);
        x.cut(5);
        due("not shared again", x.tree(2, 0, 0, 4), 0);
    }

    private static void prunesAndObjections() {
        GroveWorks x = fork();
        x.tick(2);
        x.join(0, 0);
        x.tick(1);
        x.join(1, 0);
        due("router 0 joins", framesOf(x, 0, 5), 1);
        x.tick(1);
        due("router 1 joins", framesOf(x, 0, 5), 1);
        due("joined", x.branch(2, 0, 0, NONE, 0), 74);
        for (int t = 5; t <= 50; t++) {
            x.tick(1);
            due("joins at " + t, framesOf(x, 0, 5), t == 24 || t == 44 ? 1 : 0);
        }
        due("joined on", x.branch(2, 0, 0, NONE, 0), 115);
        x.leave(0, 0);
        x.tick(5);
        dueFrame("prune", x, 0, 0, 6, 0, 2, 0, NONE, 0, 0, 0);
        x.tick(1);
        due("for 3 ticks", x.branch(2, 0, 0, NONE, 0), 59);
        dueFrame("router 1 objects", x, 0, 0, 5, 1, 2, 0, NONE, 0, 0, 0);
        x.tick(1);
        due("joined again", x.branch(2, 0, 0, NONE, 0), 127);
        for (int t = 58; t <= 80; t++) {
            x.tick(1);
            due("joins at " + t, framesOf(x, 0, 5), t == 76 ? 1 : 0);
        }
        x.leave(1, 0);
        x.tick(6);
        due("none objects", framesOf(x, 0, 5), 0);
        due("joined for 3 ticks more", x.branch(2, 0, 0, NONE, 0), 89);
        x.tick(2);
        due("still", x.branch(2, 0, 0, NONE, 0), 89);
        x.tick(1);
        due("no more", x.branch(2, 0, 0, NONE, 0), 0);
    }

    /** As the triangle, but wire 0 has a third router, 3, with a host that listens. */
    private static void cutOffsWait() {
        GroveWorks x = new GroveWorks(4);
        x.plug(0, 0, 0, 1);
        x.plug(0, 1, 2, 1);
        x.plug(1, 0, 1, 1);
        x.plug(1, 1, 2, 1);
        x.plug(1, 2, 3, 1);
        x.plug(2, 0, 0, 1);
        x.plug(2, 1, 1, 1);
        x.plug(2, 2, 4, 1);
        x.plug(3, 0, 0, 1);
        x.plug(3, 1, 5, 1);
        x.host(0, 3);
        x.host(1, 4);
        x.host(2, 5);
        x.tick(2);
        x.join(1, 0);
        x.tick(2);
        x.send(0, 0);
        x.tick(4);
        x.send(0, 0);
        x.tick(2);
        due("time", x.count(0), 10);
        due("join with bits", x.frame(0, 1, 6), 1);
        x.tick(1);
        due("not cut off at 11", x.branch(0, 0, 0, 0, 1), 0);
        due("shared", x.tree(0, 0, 0, 4), 1);
        x.tick(2);
        due("not cut off at 13", x.branch(0, 0, 0, 0, 1), 0);
        x.tick(1);
        due("cut off at 14", x.branch(0, 0, 0, 0, 1), 1);
        due("not shared", x.tree(0, 0, 0, 4), 0);
        x.join(2, 0);
        x.tick(2);
        due("router 3 joins without bits", x.tree(3, 0, NONE, 4), 0);
        due("cut off no more", x.branch(0, 0, 0, 0, 1), 0);
        due("fewer bits are not answered", framesOf(x, 0, 5), 0);
        x.tick(20);
        due("its join is due at 30", x.tree(2, 0, NONE, 4), 1);
        due("told again: the other objects, each time", x.branch(0, 0, 0, 0, 1), 0);
    }

    private static void stops() {
        GroveWorks x = line(1);
        x.tick(2);
        x.send(0, 0);
        x.tick(3);
        due("stopped", x.tree(0, 0, 0, 7), 45);
        x.tick(34);
        due("no probe at 39", framesOf(x, 0, 9), 0);
        x.tick(1);
        dueFrame("an empty tunnel at 40", x, 0, 0, 9, 0, 1, 0, 0, 0, 0, 16);
        due("it counts", x.count(5), 2);
        x.tick(2);
        due("stopped again", x.tree(0, 0, 0, 7), 82);
        due("kept by it", x.tree(1, 0, 0, 6), 111);
        x.tick(31);
        due("kept no more at the source", x.tree(0, 0, 0, 6), 0);
        x.tick(5);
        due("no probe without it", x.count(5), 2);
        x.tick(4);
        due("stopped no more", x.tree(0, 0, 0, 7), 0);
        x.send(0, 0);
        x.tick(1);
        due("a tunnel again", x.count(5), 3);
    }

    private static void edgesOfStops() {
        for (int late = 0; late < 2; late++) {
            GroveWorks x = line(1);
            x.tick(2);
            x.send(0, 0);
            x.tick(4 + late);
            x.send(0, 0);
            x.tick(1);
            due("kept", x.tree(0, 0, 0, 6), 77 + late);
            x.tick(50);
            x.tick(20 - late);
            due("at 77", x.count(0), 77);
            due("a second probe only while it is kept", x.count(5), 2 + late);
        }
        for (int late = 0; late < 2; late++) {
            GroveWorks x = line(1);
            x.tick(2);
            x.send(0, 0);
            x.tick(38);
            due("the probe", x.frame(0, 0, 0), 9);
            x.lose(0, 0);
            x.tick(3 + late);
            due("still stopped", x.tree(0, 0, 0, 7), 45);
            x.send(0, 0);
            x.tick(1);
            due("time", x.count(0), 44 + late);
            due("a tunnel at 45, not at 44", x.count(5), 2 + late);
        }
    }

    /** The way to router 2 turns round at every tick, so that a tunnel goes to and fro on wire 0. */
    private static void lifeOfTunnels() {
        GroveWorks x = new GroveWorks(3);
        x.plug(0, 0, 0, 1);
        x.plug(1, 0, 0, 1);
        x.plug(0, 1, 1, 1);
        x.plug(2, 0, 1, 1);
        x.plug(1, 1, 2, 1);
        x.plug(2, 1, 2, 1);
        x.plug(0, 2, 3, 1);
        x.host(0, 3);
        x.meet(0, 2);
        x.tick(2);
        x.cut(1);
        x.send(0, 0);
        x.tick(1);
        for (int life = 16; life > 0; life--) {
            int by = life % 2;
            dueFrame("to and fro", x, 0, 0, 9, by, 1 - by, 0, 0, 0, 256, life);
            x.mend(1 + by);
            x.cut(2 - by);
            x.tick(1);
        }
        due("its life is over", framesOf(x, 0, 9), 0);
        due("one tunnel", x.count(5), 1);
    }

    private static void lifeOfData() {
        GroveWorks x = new GroveWorks(10);
        for (int r = 0; r < 9; r++) {
            x.plug(r, 0, r, 1);
            x.plug(r + 1, 1, r, 1);
        }
        x.plug(0, 1, 15, 1);
        x.plug(9, 0, 14, 1);
        x.host(0, 15);
        x.host(1, 14);
        x.meet(0, 5);
        x.tick(2);
        x.join(1, 0);
        x.tick(8);
        due("joined at the meeting point", x.tree(5, 0, NONE, 3), 1);
        x.send(0, 0);
        x.tick(6);
        due("four routers sent it on, and the first one", x.tree(5, 0, 0, 6), 86);
        dueFrame("its life is that at the tunnel's mouth", x, 5, 0, 7, 5, NONE, 0, 0, 0, 0, 15);
        x.tick(4);
        dueFrame("each takes one", x, 14, 0, 7, 9, NONE, 0, 0, 0, 0, 11);
        x.tick(1);
        due("got", x.got(1, 0), 1);
    }

    private static void counts() {
        GroveWorks x = line(1);
        due("count(-1)", x.count(-1), NONE);
        due("count(8)", x.count(8), NONE);
        x.tick(1);
        due("time", x.count(0), 1);
        due("hellos and queries of six ports", x.count(2), 12);
        x.tick(1);
        x.join(1, 0);
        due("a report", x.count(2), 13);
        x.tick(1);
        due("a join", x.count(2), 14);
        x.send(0, 0);
        due("a number", x.count(1), 1);
        due("data", x.count(2), 15);
        due("not by a router", x.count(4), 0);
        x.tick(1);
        due("a tunnel", x.count(5), 1);
        due("a frame, too", x.count(2), 16);
        x.tick(1);
        due("data of the meeting point", x.count(4), 1);
        x.tick(1);
        due("data of the last router", x.count(4), 2);
        due("none lost", x.count(3), 0);
        due("no claims", x.count(6), 0);
        due("routers", x.count(7), 3);
    }

    private static void wrongQuestions() {
        GroveWorks x = line(1);
        int[][] branches = {
            {-1, 0, 0, 0, 0}, {3, 0, 0, 0, 0}, {0, -1, 0, 0, 0}, {0, 4, 0, 0, 0}, {0, 0, -1, 0, 0},
            {0, 0, 8, 0, 0}, {0, 0, 0, -2, 0}, {0, 0, 0, 16, 0}, {0, 0, 0, 0, -1}, {0, 0, 0, 0, 4},
            {0, 0, 0, -1, 1}, {0, 0, 0, -1, 2}, {0, 0, 0, -1, 3}, {0, 0, 0, -1, 4}, {0, 0, 0, -1, -1},
        };
        for (int[] a : branches) {
            due("wrong branch", x.branch(a[0], a[1], a[2], a[3], a[4]), NONE);
        }
        int[][] trees = {
            {-1, 0, 0, 0}, {3, 0, 0, 0}, {0, -1, 0, 0}, {0, 8, 0, 0}, {0, 0, -2, 0}, {0, 0, 16, 0},
            {0, 0, 0, -1}, {0, 0, 0, 8}, {0, 0, -1, 5}, {0, 0, -1, 6}, {0, 0, -1, 7}, {0, 0, -1, -1},
        };
        for (int[] a : trees) {
            due("wrong tree", x.tree(a[0], a[1], a[2], a[3]), NONE);
        }
        due("a port on no wire is not joined", x.branch(0, 3, 0, 0, 0), 0);
        due("nor cut off", x.branch(0, 3, 0, 0, 1), 0);
        due("nor lost", x.branch(0, 3, 0, 0, 2), 0);
        due("and keeps nothing", x.branch(0, 3, 0, 0, 3), NONE);
        due("a source on no wire is not wanted", x.tree(0, 0, 15, 0), 0);
        due("nor straight", x.tree(0, 0, 15, 5), 0);
        due("nor joined", x.tree(0, 0, 15, 1), NONE);
        due("no bits of *", x.tree(0, 0, -1, 4), 0);
    }

    /** Whatever is asked, nothing is thrown, and what is refused changes nothing. */
    private static void extremes() {
        GroveWorks x = line(1);
        x.tick(2);
        x.join(1, 0);
        x.send(0, 0);
        x.tick(3);
        int sent = x.count(2);
        int[] odd = {Integer.MIN_VALUE, -17, -2, 16, 17, 31, 32, 64, 400, Integer.MAX_VALUE};
        for (int a : odd) {
            for (int b : odd) {
                due("plug", x.plug(a, b, 0, 1), false);
                due("host", x.host(a, b), false);
                due("meet", x.meet(a, b), false);
                due("cut", x.cut(a), false);
                due("mend", x.mend(a), false);
                due("join", x.join(a, b) || x.join(1, a) || x.join(a, 0), false);
                due("leave", x.leave(a, b) || x.leave(1, a) || x.leave(a, 0), false);
                due("send", Math.max(x.send(a, b), Math.max(x.send(0, a), x.send(a, 0))), NONE);
                due("lose", x.lose(a, b) || x.lose(0, 100 + (a & 7)), false);
                due("got", Math.max(x.got(a, b), Math.max(x.got(1, a), x.got(a, 0))), NONE);
                due("frame", Math.max(x.frame(a, b, 0), Math.max(x.frame(0, a, 0), x.frame(0, 0, a))), -2);
                due("way", Math.max(x.way(a, true, 0, 0), Math.max(x.way(0, true, a, 0), x.way(0, false, a, b))), NONE);
                due("port", Math.max(x.port(a, 0, 0), Math.max(x.port(0, a, 0), x.port(0, 0, a))), NONE);
                due("members", Math.max(x.members(a, 0, 0), Math.max(x.members(0, a, 0), x.members(0, 0, a))), NONE);
                due("branch", Math.max(x.branch(0, 0, 0, a, 0), x.branch(0, 0, b, 0, 0)), NONE);
                due("tree", Math.max(x.tree(0, 0, a, 0), x.tree(0, b, 0, 0)), NONE);
                due("count", x.count(a), NONE);
            }
        }
        due("tick", Math.max(x.tick(Integer.MIN_VALUE), x.tick(Integer.MAX_VALUE)), NONE);
        due("nothing was sent", x.count(2), sent);
        due("no number was given", x.count(1), 1);
        due("time", x.count(0), 5);
    }
}
