/**
 * The promises 1 to 19, one method each or more: ordinary inputs, the edges that the document names,
 * and wrong inputs. All answers were reckoned by hand from the document.
 */
public final class Promises {
    private static final int NONE = GroveWorks.NONE;
    private static final Check check = new Check("Promises");

    public static void main(String[] args) {
        newObject();
        plug();
        host();
        meet();
        cutAndMend();
        cutForgets();
        joinAndLeave();
        leaveIsAskedAfter();
        send();
        lose();
        fullWire();
        tick();
        got();
        framesOfRoutersAndHosts();
        framesOfTunnels();
        ways();
        waysOverCutWires();
        ports();
        neighboursLapse();
        members();
        queries();
        joinsLapse();
        straightWays();
        straightEnds();
        claims();
        claimsWithoutDistance();
        claimsAndCutOffs();
        claimsAndStraightWays();
        claimsAndMendedWires();
        prunesAndObjections();
        cutOffsWait();
        stops();
        lifeOfData();
        counts();
        wrongQuestions();
        check.end();
    }

    private static void newObject() {
        int[] sizes = {Integer.MIN_VALUE, -1, 0, 1, 2, 9, 10, 11, Integer.MAX_VALUE};
        int[] want = {1, 1, 1, 1, 2, 9, 10, 10, 10};
        for (int i = 0; i < sizes.length; i++) {
            check.due("routers of " + sizes[i], new GroveWorks(sizes[i]).count(7), want[i]);
        }
        GroveWorks x = new GroveWorks(10);
        for (int what = 0; what < 7; what++) {
            check.due("count(" + what + ") at first", x.count(what), 0);
        }
        for (int r = 0; r < 10; r++) {
            for (int p = 0; p < 4; p++) {
                check.due("port at first", x.port(r, p, 0), NONE);
            }
        }
        for (int h = 0; h < 16; h++) {
            check.due("host at first", x.join(h, 0), false);
            check.due("host sends at first", x.send(h, 0), NONE);
        }
        check.due("wires are up at first", x.mend(15), false);
        check.due("NONE", GroveWorks.NONE, -1);
    }

    private static void plug() {
        GroveWorks x = new GroveWorks(2);
        int[][] refused = {
            {-1, 0, 0, 1}, {2, 0, 0, 1}, {0, -1, 0, 1}, {0, 4, 0, 1}, {0, 0, -1, 1}, {0, 0, 16, 1},
            {0, 0, 0, 0}, {0, 0, 0, 10}, {0, 0, 0, -1}, {Integer.MAX_VALUE, 0, 0, 1},
            {0, Integer.MIN_VALUE, 0, 1}, {0, 0, Integer.MAX_VALUE, 1},
        };
        for (int[] a : refused) {
            check.due("wrong plug", x.plug(a[0], a[1], a[2], a[3]), false);
        }
        check.due("nothing was put", x.port(0, 0, 0), NONE);
        check.due("plug", x.plug(0, 3, 15, 9), true);
        check.due("its wire", x.port(0, 3, 0), 15);
        check.due("its cost", x.port(0, 3, 1), 9);
        check.due("the port is on one", x.plug(0, 3, 14, 1), false);
        check.due("the router has another one there", x.plug(0, 2, 15, 1), false);
        check.due("its wire still", x.port(0, 3, 0), 15);
        check.due("another port still has none", x.port(0, 2, 0), NONE);
        check.due("another router", x.plug(1, 0, 15, 1), true);
        check.due("a refused call does not move time", x.tick(0), NONE);
        check.due("plug at time 0", x.plug(0, 0, 0, 1), true);
        x.tick(1);
        check.due("plug later", x.plug(0, 1, 1, 1), false);
        check.due("not put later", x.port(0, 1, 0), NONE);
    }

    private static void host() {
        GroveWorks x = new GroveWorks(1);
        check.due("host(-1, 0)", x.host(-1, 0), false);
        check.due("host(16, 0)", x.host(16, 0), false);
        check.due("host(0, -1)", x.host(0, -1), false);
        check.due("host(0, 16)", x.host(0, 16), false);
        check.due("host(0, 0)", x.host(0, 0), true);
        check.due("it is on one", x.host(0, 1), false);
        check.due("host(15, 15)", x.host(15, 15), true);
        check.due("it is there", x.join(15, 7), true);
        check.due("its report", x.frame(15, 0, 1), 115);
        check.due("host 0 stays on wire 0", x.join(0, 0), true);
        check.due("its report there", x.frame(0, 0, 1), 100);
        x.tick(1);
        check.due("host later", x.host(1, 0), false);
        check.due("not put later", x.join(1, 0), false);
    }

    private static void meet() {
        GroveWorks x = Nets.line(2);
        check.due("meet(-1, 0)", x.meet(-1, 0), false);
        check.due("meet(8, 0)", x.meet(8, 0), false);
        check.due("meet(0, -1)", x.meet(0, -1), false);
        check.due("meet(0, 3)", x.meet(0, 3), false);
        check.due("meet(0, 1)", x.meet(0, 1), true);
        check.due("meet(7, 2)", x.meet(7, 2), true);
        x.tick(2);
        check.due("meet later", x.meet(0, 2), false);
        x.join(1, 0);
        x.join(1, 1);
        x.join(1, 7);
        x.tick(1);
        check.due("router 2 joins by router 1", x.tree(2, 0, NONE, 1), 1);
        check.due("a group's meeting point is router 0 at first", x.tree(2, 1, NONE, 1), 1);
        check.due("the meeting point wants nothing", x.tree(2, 7, NONE, 0), 0);
        x.tick(1);
        check.due("router 1 is one, too", x.tree(1, 0, NONE, 0), 0);
        check.due("and joins for the other group", x.tree(1, 1, NONE, 1), 0);
    }

    private static void cutAndMend() {
        GroveWorks x = Nets.line(1);
        check.due("cut(-1)", x.cut(-1), false);
        check.due("cut(16)", x.cut(16), false);
        check.due("mend(-1)", x.mend(-1), false);
        check.due("mend(16)", x.mend(16), false);
        check.due("it is up", x.mend(0), false);
        check.due("cut(0)", x.cut(0), true);
        check.due("it is cut", x.cut(0), false);
        x.tick(3);
        check.due("nothing is sent there", Nets.framesOn(x, 0), 0);
        check.due("router 0 has no neighbours", x.port(0, 0, 2), 0);
        check.due("but is first", x.port(0, 0, 3), 1);
        check.due("and asking", x.port(0, 0, 4), 1);
        check.due("nothing is lost", x.count(3), 0);
        check.due("way over it", x.way(0, false, 1, 0), NONE);
        check.due("mend(0)", x.mend(0), true);
        check.due("way again", x.way(0, false, 1, 0), 1);
        x.tick(1);
        check.due("hellos and queries at once", Nets.framesOn(x, 0), 4);
        x.tick(1);
        check.due("neighbour", x.port(0, 0, 2), 2);
        x.cut(2);
        check.due("join on a cut wire", x.join(0, 0), true);
        check.due("its report is not sent", Nets.framesOn(x, 2), 0);
        check.due("leave on a cut wire", x.leave(0, 0), true);
        check.due("send on a cut wire", x.send(0, 0), NONE);
        check.due("no number is given", x.count(1), 0);
    }

    private static void cutForgets() {
        GroveWorks x = Nets.line(0);
        x.tick(2);
        x.join(1, 0);
        x.tick(3);
        check.due("members", x.members(2, 1, 0), 63);
        check.due("router 2 has joined", x.tree(2, 0, NONE, 1), 1);
        check.due("router 1 port 1", x.branch(1, 1, 0, NONE, 0), 74);
        check.due("router 1 has joined", x.tree(1, 0, NONE, 2), 0);
        check.due("router 0 port 0", x.branch(0, 0, 0, NONE, 0), 75);
        x.send(0, 0);
        check.due("a frame", Nets.framesOn(x, 2), 1);
        x.cut(2);
        check.due("gone", Nets.framesOn(x, 2), 0);
        x.mend(2);
        x.cut(1);
        check.due("joins are forgotten", x.branch(1, 1, 0, NONE, 0), 0);
        check.due("whom it has joined", x.tree(2, 0, NONE, 1), NONE);
        check.due("by which port", x.tree(2, 0, NONE, 2), NONE);
        check.due("members stay", x.members(2, 1, 0), 63);
        check.due("router 1 still has joined", x.tree(1, 0, NONE, 1), 0);
        check.due("neighbours are forgotten", x.port(2, 0, 2), 0);
        x.tick(1);
        check.due("router 1 prunes by wire 0", Nets.framesOf(x, 0, 6), 1);
        check.due("router 2 does not, by wire 1", Nets.framesOn(x, 1), 0);
        x.mend(1);
        x.tick(1);
        check.due("pruned", x.branch(0, 0, 0, NONE, 0), 0);
        check.due("hello and query again", Nets.framesOn(x, 1), 4);
        x.tick(1);
        check.due("router 2 joins again", x.tree(2, 0, NONE, 1), 1);
        x.cut(3);
        check.due("members are forgotten", x.members(2, 1, 0), 0);
        x.mend(3);
        x.tick(3);
        check.due("and told again", x.members(2, 1, 0), 71);
    }

    private static void joinAndLeave() {
        GroveWorks x = Nets.line(1);
        check.due("join(-1, 0)", x.join(-1, 0), false);
        check.due("join(16, 0)", x.join(16, 0), false);
        check.due("join(0, -1)", x.join(0, -1), false);
        check.due("join(0, 8)", x.join(0, 8), false);
        check.due("on no wire", x.join(3, 0), false);
        check.due("leave(-1, 0)", x.leave(-1, 0), false);
        check.due("leave(16, 0)", x.leave(16, 0), false);
        check.due("leave(0, -1)", x.leave(0, -1), false);
        check.due("leave(0, 8)", x.leave(0, 8), false);
        check.due("leave on no wire", x.leave(3, 0), false);
        check.due("leave ahead", x.leave(0, 0), false);
        check.due("nothing sent", x.count(2), 0);
        check.due("join(0, 7)", x.join(0, 7), true);
        check.due("twice", x.join(0, 7), false);
        check.due("another group", x.leave(0, 6), false);
        check.due("another host", x.leave(1, 7), false);
        check.dueFrame("report", x, 2, 0, 3, 100, NONE, 7, NONE, 0, 0, 0);
        check.due("leave(0, 7)", x.leave(0, 7), true);
        check.due("leave twice", x.leave(0, 7), false);
        check.dueFrame("leave", x, 2, 1, 4, 100, NONE, 7, NONE, 0, 0, 0);
        check.due("join again", x.join(0, 7), true);
        check.due("three frames", x.count(2), 3);
    }

    private static void leaveIsAskedAfter() {
        GroveWorks x = Nets.line(1);
        x.tick(2);
        x.join(1, 0);
        x.join(2, 0);
        x.tick(1);
        check.due("members", x.members(2, 1, 0), 63);
        x.leave(1, 0);
        x.tick(1);
        check.due("for 4 ticks", x.members(2, 1, 0), 8);
        check.dueFrame("a query with its group", x, 3, 0, 2, 2, NONE, 0, NONE, 0, 0, 0);
        x.tick(1);
        check.due("the other host answers", Nets.framesOf(x, 3, 3), 1);
        check.due("it is host 2", x.frame(3, 0, 1), 102);
        x.tick(1);
        check.due("members again", x.members(2, 1, 0), 66);
        x.leave(2, 0);
        x.tick(1);
        check.due("the last one leaves", x.members(2, 1, 0), 11);
        x.tick(3);
        check.due("till 11", x.members(2, 1, 0), 11);
        check.due("wants", x.tree(2, 0, NONE, 0), 1);
        x.tick(1);
        check.due("none at 11", x.members(2, 1, 0), 0);
        check.due("prune", Nets.framesOf(x, 1, 6), 1);
        x.join(1, 1);
        x.tick(1);
        x.leave(1, 1);
        x.join(1, 1);
        x.tick(1);
        check.due("a report behind a leave", x.members(2, 1, 1), 73);
    }

    private static void send() {
        GroveWorks x = Nets.line(1);
        check.due("send(-1, 0)", x.send(-1, 0), NONE);
        check.due("send(16, 0)", x.send(16, 0), NONE);
        check.due("send(0, -1)", x.send(0, -1), NONE);
        check.due("send(0, 8)", x.send(0, 8), NONE);
        check.due("on no wire", x.send(3, 0), NONE);
        check.due("no number given", x.count(1), 0);
        check.due("send(0, 0)", x.send(0, 0), 0);
        check.due("send(1, 7)", x.send(1, 7), 1);
        check.dueFrame("data", x, 2, 0, 7, 100, NONE, 0, 0, 0, 0, 16);
        check.dueFrame("data", x, 3, 0, 7, 101, NONE, 7, 1, 1, 0, 16);
        for (int i = 2; i < 400; i++) {
            if (i % 40 == 0) {
                x.tick(1);
            }
            check.due("send", x.send(0, 0), i);
        }
        x.tick(1);
        check.due("400 were", x.send(0, 0), NONE);
        check.due("numbers given", x.count(1), 400);
        check.due("the last one is known", x.got(1, 399), 0);
        check.due("not one behind it", x.got(1, 400), NONE);
    }

    private static void lose() {
        GroveWorks x = Nets.line(1);
        check.due("nothing to lose", x.lose(2, 0), false);
        x.join(0, 3);
        x.join(0, 4);
        x.join(0, 5);
        check.due("lose(-1, 0)", x.lose(-1, 0), false);
        check.due("lose(16, 0)", x.lose(16, 0), false);
        check.due("lose(2, -1)", x.lose(2, -1), false);
        check.due("lose(2, 3)", x.lose(2, 3), false);
        check.due("three", Nets.framesOn(x, 2), 3);
        check.due("lose(2, 1)", x.lose(2, 1), true);
        check.due("two", Nets.framesOn(x, 2), 2);
        check.due("the first stays", x.frame(2, 0, 3), 3);
        check.due("the third moves up", x.frame(2, 1, 3), 5);
        x.join(0, 6);
        check.due("behind them", x.frame(2, 2, 3), 6);
        check.due("sent, not lost", x.count(2), 4);
        check.due("lost", x.count(3), 0);
        x.tick(1);
        check.due("heard", x.members(0, 1, 3), 61);
        check.due("gone", x.members(0, 1, 4), 0);
        check.due("heard, too", x.members(0, 1, 5), 61);
        check.due("the last", x.members(0, 1, 6), 61);
    }

    private static void fullWire() {
        GroveWorks x = Nets.line(1);
        for (int i = 0; i < 40; i++) {
            x.send(0, 0);
        }
        check.due("40 are sent", x.count(2), 40);
        check.due("the last one", x.frame(2, 39, 5), 39);
        check.due("a number for a lost one", x.send(0, 0), 40);
        check.due("40 still", x.count(2), 40);
        check.due("one lost", x.count(3), 1);
        check.due("lose one", x.lose(2, 0), true);
        check.due("join takes no room", x.join(0, 0), true);
        check.due("for the gone one counts", x.count(3), 2);
        x.cut(2);
        x.mend(2);
        check.due("behind a cut", x.send(0, 0), 41);
        check.due("it counts as well", x.count(3), 3);
        check.due("another wire", x.send(1, 0), 42);
        check.due("is not full", x.count(3), 3);
        x.tick(1);
        check.due("hello and query find room", Nets.framesOn(x, 2), 2);
        for (int i = 0; i < 40; i++) {
            x.send(0, 0);
        }
        check.due("two more are lost", x.count(3), 5);
        check.due("the last place", x.frame(2, 39, 5), 80);
    }

    private static void tick() {
        GroveWorks x = Nets.line(1);
        check.due("tick(0)", x.tick(0), NONE);
        check.due("tick(-1)", x.tick(-1), NONE);
        check.due("tick(51)", x.tick(51), NONE);
        check.due("tick(max)", x.tick(Integer.MAX_VALUE), NONE);
        check.due("tick(min)", x.tick(Integer.MIN_VALUE), NONE);
        check.due("time", x.count(0), 0);
        check.due("tick(1)", x.tick(1), 1);
        check.due("tick(49)", x.tick(49), 50);
        for (int i = 2; i < 120; i++) {
            check.due("tick(50)", x.tick(50), 50 * i);
        }
        check.due("tick(50) to 6000", x.tick(49), 5999);
        check.due("above 6000", x.tick(2), NONE);
        check.due("time stays", x.count(0), 5999);
        check.due("to 6000", x.tick(1), 6000);
        check.due("behind 6000", x.tick(1), NONE);
        check.due("still neighbours", x.port(1, 0, 2), 1);
    }

    private static void got() {
        GroveWorks x = Nets.line(1);
        x.join(1, 0);
        check.due("none given", x.got(1, 0), NONE);
        x.send(2, 0);
        x.send(2, 1);
        check.due("got(-1, 0)", x.got(-1, 0), NONE);
        check.due("got(16, 0)", x.got(16, 0), NONE);
        check.due("got(1, -1)", x.got(1, -1), NONE);
        check.due("got(1, 2)", x.got(1, 2), NONE);
        check.due("not yet", x.got(1, 0), 0);
        x.tick(1);
        check.due("got", x.got(1, 0), 1);
        check.due("of another group", x.got(1, 1), 0);
        check.due("its sender", x.got(2, 0), 0);
        check.due("a host on no wire", x.got(9, 0), 0);
        x.leave(1, 0);
        x.send(2, 0);
        x.tick(1);
        check.due("behind leave", x.got(1, 2), 0);
    }

    private static void framesOfRoutersAndHosts() {
        GroveWorks x = Nets.line(0);
        x.join(1, 0);
        x.tick(1);
        check.dueFrame("hello", x, 0, 0, 1, 0, NONE, NONE, NONE, 0, 0, 0);
        check.dueFrame("query", x, 0, 1, 2, 0, NONE, NONE, NONE, 0, 0, 0);
        check.dueFrame("hello", x, 0, 2, 1, 1, NONE, NONE, NONE, 0, 0, 0);
        check.dueFrame("query", x, 0, 3, 2, 1, NONE, NONE, NONE, 0, 0, 0);
        check.due("four", Nets.framesOn(x, 0), 4);
        check.due("frame(-1, 0, 0)", x.frame(-1, 0, 0), -2);
        check.due("frame(16, 0, 0)", x.frame(16, 0, 0), -2);
        check.due("frame(0, -1, 0)", x.frame(0, -1, 0), -2);
        check.due("frame(0, 4, 0)", x.frame(0, 4, 0), -2);
        check.due("frame(0, 0, -1)", x.frame(0, 0, -1), -2);
        check.due("frame(0, 0, 8)", x.frame(0, 0, 8), -2);
        x.tick(1);
        check.dueFrame("join", x, 1, 0, 5, 2, 1, 0, NONE, 0, 0, 0);
        check.dueFrame("report", x, 3, 0, 3, 101, NONE, 0, NONE, 0, 0, 0);
        x.tick(1);
        check.dueFrame("join goes on", x, 0, 0, 5, 1, 0, 0, NONE, 0, 0, 0);
        x.tick(1);
        x.send(0, 0);
        x.tick(1);
        check.dueFrame("data goes on", x, 0, 0, 7, 0, NONE, 0, 0, 0, 0, 15);
        check.due("no tunnel: router 0 is the meeting point", Nets.framesOn(x, 0), 1);
        x.tick(1);
        check.dueFrame("and on", x, 1, 0, 7, 1, NONE, 0, 0, 0, 0, 14);
        x.tick(1);
        check.dueFrame("to the last wire", x, 3, 0, 7, 2, NONE, 0, 0, 0, 0, 13);
        check.dueFrame("join of the source", x, 1, 0, 5, 2, 1, 0, 0, 0, 0, 0);
        x.tick(1);
        check.due("got", x.got(1, 0), 1);
        x.leave(1, 0);
        x.tick(5);
        check.dueFrame("prune", x, 1, 0, 6, 2, 1, 0, NONE, 0, 0, 0);
        check.dueFrame("prune of the source", x, 1, 1, 6, 2, 1, 0, 0, 0, 0, 0);
    }

    private static void framesOfTunnels() {
        GroveWorks x = Nets.line(2);
        x.tick(2);
        x.send(1, 0);
        x.tick(1);
        check.due("the meeting point makes no tunnel", x.count(5), 0);
        x.send(0, 0);
        x.tick(1);
        check.dueFrame("tunnel", x, 0, 0, 9, 0, 1, 0, 0, 1, 256, 16);
        check.due("tunnels", x.count(5), 1);
        x.tick(1);
        check.dueFrame("tunnel goes on", x, 1, 0, 9, 1, 2, 0, 0, 1, 256, 15);
        check.due("it is none sent first", x.count(5), 1);
        x.tick(1);
        check.dueFrame("stop", x, 1, 0, 10, 2, 1, 0, 0, 0, 0, 16);
        check.due("kept", x.tree(2, 0, 0, 6), 76);
        x.tick(1);
        check.dueFrame("stop goes on", x, 0, 0, 10, 1, 0, 0, 0, 0, 0, 15);
        check.due("router 1 is not stopped", x.tree(1, 0, 0, 7), 0);
        x.tick(1);
        check.due("stopped", x.tree(0, 0, 0, 7), 48);
        x.send(0, 0);
        x.tick(1);
        check.due("no tunnel while stopped", x.count(5), 1);
        check.due("kept at the source", x.tree(0, 0, 0, 6), 79);
    }

    private static void ways() {
        GroveWorks x = new GroveWorks(4);
        x.plug(0, 2, 0, 3);
        x.plug(1, 0, 0, 1);
        x.plug(2, 0, 0, 1);
        x.plug(1, 1, 1, 2);
        x.plug(2, 1, 1, 2);
        x.plug(3, 0, 1, 9);
        check.due("to itself", x.way(0, false, 0, 0), 0);
        check.due("no way to itself", x.way(0, false, 0, 1), NONE);
        check.due("nor a router", x.way(0, false, 0, 2), NONE);
        check.due("over two wires", x.way(0, false, 3, 0), 5);
        check.due("by the port", x.way(0, false, 3, 1), 2);
        check.due("the lesser router", x.way(0, false, 3, 2), 1);
        check.due("back by other costs", x.way(3, false, 0, 0), 10);
        check.due("back by router 1", x.way(3, false, 0, 2), 1);
        check.due("to a wire", x.way(0, true, 1, 0), 3);
        check.due("by router 1, too", x.way(0, true, 1, 2), 1);
        check.due("direct", x.way(0, true, 0, 0), 0);
        check.due("by its port", x.way(0, true, 0, 1), 2);
        check.due("without a router", x.way(0, true, 0, 2), NONE);
        check.due("a wire with nobody", x.way(0, true, 7, 0), NONE);
        check.due("no port there", x.way(0, true, 7, 1), NONE);
        x.plug(0, 1, 2, 2);
        x.plug(2, 2, 2, 1);
        check.due("shorter by router 2", x.way(0, false, 3, 0), 4);
        check.due("its port", x.way(0, false, 3, 1), 1);
        x.plug(0, 0, 3, 2);
        x.plug(2, 3, 3, 9);
        check.due("the least port of equals", x.way(0, false, 3, 1), 0);
        check.due("its router", x.way(0, false, 3, 2), 2);
        check.due("way(-1)", x.way(-1, false, 0, 0), NONE);
        check.due("way(4)", x.way(4, false, 0, 0), NONE);
        check.due("to -1", x.way(0, false, -1, 0), NONE);
        check.due("to router 4", x.way(0, false, 4, 0), NONE);
        check.due("to wire 16", x.way(0, true, 16, 0), NONE);
        check.due("to wire -1", x.way(0, true, -1, 0), NONE);
        check.due("what 3", x.way(0, false, 3, 3), NONE);
        check.due("what -1", x.way(0, false, 3, -1), NONE);
    }

    private static void waysOverCutWires() {
        check.due("none without wires", new GroveWorks(2).way(0, false, 1, 0), NONE);
        check.due("no port without wires", new GroveWorks(2).way(0, false, 1, 1), NONE);
        GroveWorks x = Nets.triangle();
        check.due("two is one away", x.way(0, false, 2, 0), 1);
        check.due("wire 4 by port 0", x.way(0, true, 4, 1), 0);
        x.cut(0);
        check.due("now by router 1", x.way(0, false, 2, 0), 2);
        check.due("by port 1", x.way(0, true, 4, 1), 1);
        check.due("none to a cut wire", x.way(0, true, 0, 0), NONE);
        check.due("not even by its port", x.way(0, true, 0, 1), NONE);
        x.cut(2);
        check.due("apart", x.way(0, false, 2, 0), NONE);
        check.due("no port", x.way(0, false, 2, 1), NONE);
        check.due("still to itself", x.way(0, false, 0, 0), 0);
        x.mend(0);
        check.due("again", x.way(0, false, 1, 0), 2);
        check.due("by router 2", x.way(0, false, 1, 2), 2);
    }

    private static void ports() {
        GroveWorks x = Nets.fork();
        check.due("none yet", x.port(1, 0, 2), 0);
        check.due("first", x.port(1, 0, 3), 1);
        check.due("asking", x.port(1, 0, 4), 1);
        x.tick(1);
        check.due("none heard yet", x.port(1, 0, 2), 0);
        x.tick(1);
        check.due("neighbours", x.port(1, 0, 2), 5);
        check.due("not first", x.port(1, 0, 3), 0);
        check.due("not asking", x.port(1, 0, 4), 0);
        check.due("router 0 asks", x.port(0, 0, 4), 1);
        check.due("router 0 is not first", x.port(0, 0, 3), 0);
        check.due("router 2 is first", x.port(2, 0, 3), 1);
        check.due("router 2 does not ask", x.port(2, 0, 4), 0);
        check.due("alone", x.port(2, 1, 2), 0);
        check.due("port(-1, 0, 0)", x.port(-1, 0, 0), NONE);
        check.due("port(3, 0, 0)", x.port(3, 0, 0), NONE);
        check.due("port(0, -1, 0)", x.port(0, -1, 0), NONE);
        check.due("port(0, 4, 0)", x.port(0, 4, 0), NONE);
        check.due("on no wire", x.port(0, 2, 3), NONE);
        check.due("what 5", x.port(0, 0, 5), NONE);
        check.due("what -1", x.port(0, 0, -1), NONE);
    }

    private static void neighboursLapse() {
        GroveWorks x = Nets.fork();
        x.tick(2);
        for (int t = 3; t <= 66; t++) {
            x.tick(1);
            for (int i = Nets.framesOn(x, 0) - 1; i >= 0; i--) {
                if (x.frame(0, i, 0) == 1 && x.frame(0, i, 1) == 2) {
                    x.lose(0, i);
                }
            }
        }
        check.due("till 67", x.port(0, 0, 2), 6);
        x.tick(1);
        check.due("lapsed", x.port(0, 0, 2), 2);
        check.due("router 1 is first now", x.port(1, 0, 3), 1);
        check.due("others are heard", x.port(2, 0, 2), 3);
        x.tick(15);
        check.due("heard again at 82", x.port(0, 0, 2), 6);
    }

    private static void members() {
        GroveWorks x = Nets.fork();
        x.host(5, 0);
        x.join(5, 2);
        x.tick(1);
        for (int r = 0; r < 3; r++) {
            check.due("all hear a report", x.members(r, 0, 2), 61);
        }
        check.due("of another group", x.members(0, 0, 1), 0);
        check.due("by another port", x.members(0, 1, 2), 0);
        check.due("a port on no wire", x.members(0, 3, 2), 0);
        x.tick(1);
        check.due("only the first has its own", x.tree(0, 2, NONE, 3), 0);
        check.due("router 2", x.tree(2, 2, NONE, 3), 1);
        check.due("members(-1, 0, 0)", x.members(-1, 0, 0), NONE);
        check.due("members(3, 0, 0)", x.members(3, 0, 0), NONE);
        check.due("members(0, -1, 0)", x.members(0, -1, 0), NONE);
        check.due("members(0, 4, 0)", x.members(0, 4, 0), NONE);
        check.due("members(0, 0, -1)", x.members(0, 0, -1), NONE);
        check.due("members(0, 0, 8)", x.members(0, 0, 8), NONE);
        x.tick(1);
        check.due("reports behind queries", x.members(0, 0, 2), 63);
        for (int t = 4; t <= 62; t++) {
            x.tick(1);
            for (int i = Nets.framesOn(x, 0) - 1; i >= 0; i--) {
                if (x.frame(0, i, 0) == 3) {
                    x.lose(0, i);
                }
            }
        }
        check.due("till 63", x.members(2, 0, 2), 63);
        x.tick(1);
        check.due("none", x.members(2, 0, 2), 0);
        check.due("no base", x.tree(2, 2, NONE, 3), 0);
        x.tick(15);
        check.due("members again, by the query of 76", x.members(2, 0, 2), 138);
        x.leave(5, 2);
        x.tick(1);
        check.due("one that does not ask keeps them", x.members(2, 0, 2), 138);
        check.due("the one that asks", x.members(0, 0, 2), 83);
    }

    private static void queries() {
        GroveWorks x = Nets.fork();
        x.tick(1);
        check.due("all ask at first", Nets.framesOf(x, 0, 2), 3);
        for (int t = 2; t <= 60; t++) {
            x.tick(1);
            check.due("hellos at " + t, Nets.framesOf(x, 0, 1), t == 21 || t == 41 ? 3 : 0);
            check.due("one asks at " + t, Nets.framesOf(x, 0, 2), t == 26 || t == 51 ? 1 : 0);
            check.due("alone at " + t, Nets.framesOf(x, 1, 2), t == 26 || t == 51 ? 1 : 0);
        }
        GroveWorks y = Nets.fork();
        y.join(0, 5);
        y.join(0, 2);
        y.tick(2);
        check.due("two reports", Nets.framesOn(y, 1), 2);
        check.due("by groups", y.frame(1, 0, 3), 2);
        check.due("by groups", y.frame(1, 1, 3), 5);
    }

    private static void joinsLapse() {
        GroveWorks x = Nets.line(0);
        x.tick(2);
        x.join(1, 0);
        x.tick(2);
        check.due("joined", x.branch(1, 1, 0, NONE, 0), 74);
        check.due("base", x.tree(1, 0, NONE, 3), 2);
        check.due("another port", x.branch(1, 0, 0, NONE, 0), 0);
        check.due("another group", x.branch(1, 1, 1, NONE, 0), 0);
        check.due("not for a source", x.branch(1, 1, 0, 0, 0), 0);
        for (int t = 5; t <= 73; t++) {
            x.tick(1);
            check.due("joins at " + t, Nets.framesOf(x, 1, 5), t == 23 || t == 43 || t == 63 ? 1 : 0);
            for (int i = Nets.framesOn(x, 1) - 1; i >= 0; i--) {
                if (x.frame(1, i, 0) == 5) {
                    x.lose(1, i);
                }
            }
        }
        check.due("till 74", x.branch(1, 1, 0, NONE, 0), 74);
        check.due("wants", x.tree(1, 0, NONE, 0), 1);
        x.tick(1);
        check.due("lapsed", x.branch(1, 1, 0, NONE, 0), 0);
        check.due("wants no more", x.tree(1, 0, NONE, 0), 0);
        check.due("prune", Nets.framesOf(x, 0, 6), 1);
        check.due("has joined none", x.tree(1, 0, NONE, 1), NONE);
    }

    private static void straightWays() {
        GroveWorks x = Nets.triangle();
        x.tick(2);
        x.join(1, 0);
        x.tick(2);
        check.due("joined at the meeting point", x.branch(0, 0, 0, NONE, 0), 74);
        x.send(0, 0);
        x.tick(1);
        check.due("kept at the source", x.tree(1, 0, 0, 6), 75);
        check.due("not wanted there", x.tree(1, 0, 0, 0), 0);
        check.due("a tunnel", Nets.framesOf(x, 2, 9), 1);
        x.tick(1);
        check.dueFrame("out of the tunnel", x, 0, 0, 7, 0, NONE, 0, 0, 0, 0, 15);
        check.due("the meeting point joins the source", x.tree(0, 0, 0, 1), 1);
        check.due("by port 1", x.tree(0, 0, 0, 2), 1);
        x.tick(1);
        check.due("kept where it is got", x.tree(2, 0, 0, 6), 77);
        check.due("router 2 joins the source", x.tree(2, 0, 0, 1), 1);
        check.due("joined by router 0", x.branch(1, 1, 0, 0, 0), 77);
        x.tick(1);
        check.due("joined by router 2", x.branch(1, 0, 0, 0, 0), 78);
        check.due("got", x.got(1, 0), 1);
        check.due("all", x.tree(1, 0, 0, 3), 3);
        check.due("shared", x.tree(1, 0, 0, 4), 0);
        check.due("wanted", x.tree(1, 0, 0, 0), 1);
        x.send(0, 0);
        x.tick(1);
        check.due("straight at the source", x.tree(1, 0, 0, 5), 1);
        check.due("data by wire 1", Nets.framesOf(x, 1, 7), 1);
        check.due("data, then the tunnel", x.frame(2, 0, 0), 7);
        check.due("the tunnel", x.frame(2, 1, 0), 9);
        x.tick(1);
        check.due("straight at router 2", x.tree(2, 0, 0, 5), 1);
        check.due("straight at the meeting point", x.tree(0, 0, 0, 5), 1);
        check.due("kept on", x.tree(2, 0, 0, 6), 80);
        check.dueFrame("stop", x, 2, 0, 10, 0, 1, 0, 0, 0, 1, 16);
        check.dueFrame("data of the meeting point", x, 0, 0, 7, 0, NONE, 0, 0, 1, 0, 14);
        check.dueFrame("join that cuts off", x, 0, 1, 5, 2, 0, 0, NONE, 0, 1, 0);
        check.due("what the last join told", x.tree(2, 0, NONE, 4), 1);
        x.tick(1);
        check.due("cut off", x.branch(0, 0, 0, 0, 1), 1);
        check.due("another source is not", x.branch(0, 0, 0, 1, 1), 0);
        check.due("still base", x.tree(0, 0, NONE, 3), 1);
        check.due("not shared", x.tree(0, 0, 0, 4), 0);
        check.due("straight ends", x.tree(0, 0, 0, 5), 0);
        check.due("pruned", Nets.framesOf(x, 2, 6), 1);
        check.due("stopped", x.tree(1, 0, 0, 7), 51);
        check.due("got once", x.got(1, 1), 1);
        x.tick(1);
        check.due("no more by wire 2", x.tree(1, 0, 0, 3), 1);
        x.send(0, 0);
        x.tick(1);
        check.due("no tunnel", Nets.framesOn(x, 2), 0);
        x.tick(2);
        check.due("got by the short way", x.got(1, 2), 1);
        check.due("tunnels", x.count(5), 2);
    }

    private static void straightEnds() {
        GroveWorks x = Nets.triangle();
        x.tick(2);
        x.join(1, 0);
        x.tick(2);
        x.send(0, 0);
        x.tick(4);
        x.send(0, 0);
        x.tick(3);
        check.due("straight", x.tree(2, 0, 0, 5), 1);
        check.due("cut off", x.branch(0, 0, 0, 0, 1), 1);
        x.cut(1);
        check.due("straight and kept stay", x.tree(2, 0, 0, 5), 1);
        check.due("kept", x.tree(2, 0, 0, 6), 80);
        check.due("but it has joined none", x.tree(2, 0, 0, 1), NONE);
        check.due("told is of *", x.tree(2, 0, NONE, 4), 1);
        x.tick(1);
        check.due("another way: not straight", x.tree(2, 0, 0, 5), 0);
        check.due("joined by router 0", x.tree(2, 0, 0, 1), 0);
        check.due("nothing to cut off", x.tree(2, 0, NONE, 4), 0);
        x.tick(1);
        check.due("cut off no more", x.branch(0, 0, 0, 0, 1), 0);
        check.due("joined for the source", x.branch(0, 0, 0, 0, 0), 83);
        x.tick(1);
        x.send(0, 0);
        x.tick(3);
        check.due("straight by the same up", x.tree(2, 0, 0, 5), 1);
        check.due("not cut off", x.tree(2, 0, NONE, 4), 0);
    }

    private static void claims() {
        GroveWorks x = Nets.twoToOne(1);
        check.due("router 0 joins router 1", x.tree(0, 0, NONE, 1), 1);
        check.due("router 2 has its own", x.tree(2, 0, NONE, 3), 2);
        check.due("router 1 is joined", x.tree(1, 0, NONE, 3), 2);
        x.send(0, 0);
        x.tick(2);
        check.due("both bring it", Nets.framesOf(x, 1, 7), 2);
        check.due("no claim yet", x.count(6), 0);
        x.tick(1);
        check.due("both claim", x.count(6), 2);
        check.dueFrame("by the shared tree", x, 1, 0, 8, 2, NONE, 0, 0, 1000102, 0, 0);
        check.dueFrame("by the shared tree", x, 1, 1, 8, 1, NONE, 0, 0, 1000101, 0, 0);
        check.due("it came twice", x.got(1, 0), 2);
        check.due("router 0 joins the source by router 1", x.tree(0, 0, 0, 1), 1);
        x.tick(1);
        check.due("the better one answers", x.count(6), 3);
        check.due("router 1 keeps the claim of 2", x.branch(1, 1, 0, 0, 3), 2);
        check.due("router 1 has lost", x.branch(1, 1, 0, 0, 2), 1);
        check.due("router 2 keeps that of 1", x.branch(2, 1, 0, 0, 3), 1);
        check.due("router 2 has not lost", x.branch(2, 1, 0, 0, 2), 0);
        check.due("router 0 keeps the better one", x.branch(0, 0, 0, 0, 3), 2);
        check.due("of another source", x.branch(0, 0, 0, 1, 3), NONE);
        check.due("of another group", x.branch(1, 1, 1, 0, 2), 0);
        check.due("not shared where it is lost", x.tree(1, 0, 0, 4), 0);
        check.due("still base", x.tree(1, 0, NONE, 3), 2);
        check.due("router 0 turns to router 2", x.tree(0, 0, 0, 1), 2);
        check.due("a prune for router 1", Nets.framesOf(x, 1, 6), 1);
        check.due("got twice there, too", x.got(2, 0), 2);
        x.tick(2);
        x.send(0, 0);
        x.tick(5);
        check.due("once now", x.got(1, 1), 1);
        check.due("once there, too", x.got(2, 1), 1);
        check.due("no more claims", x.count(6), 3);

        GroveWorks y = Nets.twoToOne(2);
        y.send(0, 0);
        y.tick(1);
        check.due("nearer: router 2", y.tree(0, 0, NONE, 1), 2);
        y.tick(4);
        check.due("router 0 has joined router 2 alone", y.count(6), 0);
        check.due("no claim kept", y.branch(0, 0, 0, 0, 3), NONE);
    }

    /** At time 1 no router knows another: both have their own port on wire 0, and router 2 is nowhere. */
    private static void claimsWithoutDistance() {
        GroveWorks x = new GroveWorks(3);
        x.plug(0, 0, 0, 1);
        x.plug(1, 0, 0, 1);
        x.plug(0, 1, 1, 1);
        x.host(0, 1);
        x.host(1, 0);
        x.meet(0, 2);
        x.join(1, 0);
        x.send(0, 0);
        x.tick(1);
        check.due("straight", x.tree(0, 0, 0, 5), 1);
        check.due("no tunnel without a way", x.count(5), 0);
        x.tick(1);
        check.dueFrame("a claim without a distance", x, 0, 0, 8, 1, NONE, 0, 0, 1999901, 0, 0);
        check.due("no join without a way", x.tree(1, 0, NONE, 1), NONE);
        check.due("but it is wanted", x.tree(1, 0, NONE, 0), 1);
        x.tick(1);
        check.due("router 1 has not lost", x.branch(1, 0, 0, 0, 2), 0);
        check.due("router 0 is first no more", x.port(0, 0, 3), 0);
        check.due("so it does not answer", x.count(6), 1);
        check.due("router 0 keeps it", x.branch(0, 0, 0, 0, 3), 1);
        x.cut(0);
        check.due("till the wire is cut", x.branch(0, 0, 0, 0, 3), NONE);
    }

    private static void claimsAndCutOffs() {
        GroveWorks x = Nets.twoToOne(1);
        x.send(0, 0);
        x.tick(3);
        check.due("router 0 would join router 1", x.frame(1, 2, 0), 5);
        x.lose(1, 2);
        x.tick(1);
        check.due("lost", x.branch(1, 1, 0, 0, 2), 1);
        check.due("not joined for the source", x.branch(1, 1, 0, 0, 0), 0);
        check.due("nothing is left: to be cut off", x.tree(1, 0, NONE, 4), 1);
        x.tick(50);
        x.tick(7);
        check.due("the claim came again at 11", x.branch(1, 1, 0, 0, 2), 1);
        check.due("time", x.count(0), 67);
        x.tick(3);
        check.due("at 70", x.branch(1, 1, 0, 0, 3), 2);
        x.tick(1);
        check.due("at 71", x.branch(1, 1, 0, 0, 3), NONE);
        check.due("router 0 has cut it off, too", x.tree(1, 0, NONE, 4), 1);
        x.tick(1);
        check.due("at 72 no more", x.tree(1, 0, NONE, 4), 0);
    }

    /** Router 1 has lost wire 1, but as it gets straight it has the better claim at once. */
    private static void claimsAndStraightWays() {
        GroveWorks x = new GroveWorks(4);
        x.plug(3, 0, 0, 1);
        x.plug(3, 1, 3, 1);
        x.plug(1, 0, 0, 1);
        x.plug(1, 1, 1, 1);
        x.plug(1, 2, 4, 1);
        x.plug(2, 0, 0, 1);
        x.plug(2, 1, 1, 1);
        x.plug(0, 0, 1, 1);
        x.plug(0, 1, 2, 1);
        x.host(0, 3);
        x.host(1, 1);
        x.host(2, 2);
        x.host(3, 4);
        x.meet(0, 3);
        x.tick(2);
        x.join(1, 0);
        x.join(2, 0);
        x.join(3, 0);
        x.tick(4);
        x.send(0, 0);
        x.tick(4);
        check.dueFrame("router 0 got it twice, is straight and cuts it off", x, 1, 1, 5, 0, 1, 0, NONE, 0, 1, 0);
        x.lose(1, 1);
        x.tick(2);
        check.due("lost", x.branch(1, 1, 0, 0, 2), 1);
        check.due("not straight", x.tree(1, 0, 0, 5), 0);
        check.due("joined the source", x.tree(1, 0, 0, 1), 3);
        check.due("all but the lost one", x.tree(1, 0, 0, 3), 4);
        x.send(0, 0);
        x.tick(2);
        check.due("straight", x.tree(1, 0, 0, 5), 1);
        check.due("not lost", x.branch(1, 1, 0, 0, 2), 0);
        check.due("both bring it", Nets.framesOf(x, 1, 7), 2);
        x.tick(1);
        check.due("claims of straight ones", x.frame(1, 0, 5), 102);
        check.due("claims of straight ones", x.frame(1, 1, 5), 101);
        x.tick(1);
        check.due("lost again", x.branch(1, 1, 0, 0, 2), 1);
    }

    /** A claim is measured against the distance at that moment, also where no tick has gone by. */
    private static void claimsAndMendedWires() {
        GroveWorks x = new GroveWorks(4);
        x.plug(3, 0, 0, 1);
        x.plug(3, 1, 3, 1);
        x.plug(3, 2, 5, 1);
        x.plug(1, 0, 0, 1);
        x.plug(1, 1, 1, 1);
        x.plug(2, 0, 0, 2);
        x.plug(2, 1, 1, 1);
        x.plug(2, 2, 5, 1);
        x.plug(0, 0, 1, 1);
        x.plug(0, 1, 2, 1);
        x.host(0, 3);
        x.host(1, 1);
        x.host(2, 2);
        x.meet(0, 3);
        x.cut(5);
        x.tick(2);
        x.join(1, 0);
        x.join(2, 0);
        x.tick(4);
        x.send(0, 0);
        x.tick(4);
        check.due("the nearer one wins", x.branch(2, 1, 0, 0, 2), 1);
        check.due("not shared", x.tree(2, 0, 0, 4), 0);
        x.mend(5);
        check.due("as near, and greater", x.branch(2, 1, 0, 0, 2), 0);
        x.cut(5);
        check.due("farther again", x.branch(2, 1, 0, 0, 2), 1);
        x.mend(5);
        check.due("shared", x.tree(2, 0, 0, 4), 2);
        x.cut(5);
        check.due("not shared again", x.tree(2, 0, 0, 4), 0);
    }

    private static void prunesAndObjections() {
        GroveWorks x = Nets.fork();
        x.tick(2);
        x.join(0, 0);
        x.tick(1);
        x.join(1, 0);
        check.due("router 0 joins", Nets.framesOf(x, 0, 5), 1);
        x.tick(1);
        check.due("router 1 joins", Nets.framesOf(x, 0, 5), 1);
        check.due("joined", x.branch(2, 0, 0, NONE, 0), 74);
        for (int t = 5; t <= 50; t++) {
            x.tick(1);
            check.due("joins at " + t, Nets.framesOf(x, 0, 5), t == 24 || t == 44 ? 1 : 0);
        }
        check.due("joined on", x.branch(2, 0, 0, NONE, 0), 115);
        x.leave(0, 0);
        x.tick(5);
        check.dueFrame("prune", x, 0, 0, 6, 0, 2, 0, NONE, 0, 0, 0);
        x.tick(1);
        check.due("for 3 ticks", x.branch(2, 0, 0, NONE, 0), 59);
        check.dueFrame("router 1 objects", x, 0, 0, 5, 1, 2, 0, NONE, 0, 0, 0);
        x.tick(1);
        check.due("joined again", x.branch(2, 0, 0, NONE, 0), 127);
        for (int t = 58; t <= 80; t++) {
            x.tick(1);
            check.due("joins at " + t, Nets.framesOf(x, 0, 5), t == 76 ? 1 : 0);
        }
        x.leave(1, 0);
        x.tick(6);
        check.due("none objects", Nets.framesOf(x, 0, 5), 0);
        check.due("joined for 3 ticks more", x.branch(2, 0, 0, NONE, 0), 89);
        x.tick(2);
        check.due("still", x.branch(2, 0, 0, NONE, 0), 89);
        x.tick(1);
        check.due("no more", x.branch(2, 0, 0, NONE, 0), 0);
    }

    private static void cutOffsWait() {
        GroveWorks x = Nets.triangleOfFour();
        x.tick(2);
        x.join(1, 0);
        x.tick(2);
        x.send(0, 0);
        x.tick(4);
        x.send(0, 0);
        x.tick(2);
        check.due("time", x.count(0), 10);
        check.due("join with bits", x.frame(0, 1, 6), 1);
        x.tick(1);
        check.due("not cut off at 11", x.branch(0, 0, 0, 0, 1), 0);
        check.due("shared", x.tree(0, 0, 0, 4), 1);
        x.tick(2);
        check.due("not cut off at 13", x.branch(0, 0, 0, 0, 1), 0);
        x.tick(1);
        check.due("cut off at 14", x.branch(0, 0, 0, 0, 1), 1);
        check.due("not shared", x.tree(0, 0, 0, 4), 0);
        x.join(2, 0);
        x.tick(2);
        check.due("router 3 joins without bits", x.tree(3, 0, NONE, 4), 0);
        check.due("cut off no more", x.branch(0, 0, 0, 0, 1), 0);
        check.due("fewer bits are not answered", Nets.framesOf(x, 0, 5), 0);
        x.tick(20);
        check.due("its join is due at 30", x.tree(2, 0, NONE, 4), 1);
        check.due("told again: the other objects, each time", x.branch(0, 0, 0, 0, 1), 0);
    }

    private static void stops() {
        GroveWorks x = Nets.line(1);
        x.tick(2);
        x.send(0, 0);
        x.tick(3);
        check.due("stopped", x.tree(0, 0, 0, 7), 45);
        x.tick(34);
        check.due("no probe at 39", Nets.framesOf(x, 0, 9), 0);
        x.tick(1);
        check.dueFrame("an empty tunnel at 40", x, 0, 0, 9, 0, 1, 0, 0, 0, 0, 16);
        check.due("it counts", x.count(5), 2);
        x.tick(2);
        check.due("stopped again", x.tree(0, 0, 0, 7), 82);
        check.due("kept by it", x.tree(1, 0, 0, 6), 111);
        x.tick(31);
        check.due("kept no more at the source", x.tree(0, 0, 0, 6), 0);
        x.tick(5);
        check.due("no probe without it", x.count(5), 2);
        x.tick(4);
        check.due("stopped no more", x.tree(0, 0, 0, 7), 0);
        x.send(0, 0);
        x.tick(1);
        check.due("a tunnel again", x.count(5), 3);
    }

    private static void lifeOfData() {
        GroveWorks x = new GroveWorks(10);
        for (int r = 0; r < 9; r++) {
            x.plug(r, 0, r, 1);
            x.plug(r + 1, 1, r, 1);
        }
        x.plug(0, 1, 15, 1);
        x.plug(9, 0, 14, 1);
        x.host(0, 15);
        x.host(1, 14);
        x.meet(0, 5);
        x.tick(2);
        x.join(1, 0);
        x.tick(8);
        check.due("joined at the meeting point", x.tree(5, 0, NONE, 3), 1);
        x.send(0, 0);
        x.tick(6);
        check.due("four routers sent it on, and the first one", x.tree(5, 0, 0, 6), 86);
        check.dueFrame("its life is that at the tunnel's mouth", x, 5, 0, 7, 5, NONE, 0, 0, 0, 0, 15);
        x.tick(4);
        check.dueFrame("each takes one", x, 14, 0, 7, 9, NONE, 0, 0, 0, 0, 11);
        x.tick(1);
        check.due("got", x.got(1, 0), 1);
    }

    private static void counts() {
        GroveWorks x = Nets.line(1);
        check.due("count(-1)", x.count(-1), NONE);
        check.due("count(8)", x.count(8), NONE);
        x.tick(1);
        check.due("time", x.count(0), 1);
        check.due("hellos and queries of six ports", x.count(2), 12);
        x.tick(1);
        x.join(1, 0);
        check.due("a report", x.count(2), 13);
        x.tick(1);
        check.due("a join", x.count(2), 14);
        x.send(0, 0);
        check.due("a number", x.count(1), 1);
        check.due("data", x.count(2), 15);
        check.due("not by a router", x.count(4), 0);
        x.tick(1);
        check.due("a tunnel", x.count(5), 1);
        check.due("a frame, too", x.count(2), 16);
        x.tick(1);
        check.due("data of the meeting point", x.count(4), 1);
        x.tick(1);
        check.due("data of the last router", x.count(4), 2);
        check.due("none lost", x.count(3), 0);
        check.due("no claims", x.count(6), 0);
        check.due("routers", x.count(7), 3);
    }

    private static void wrongQuestions() {
        GroveWorks x = Nets.line(1);
        int[][] branches = {
            {-1, 0, 0, 0, 0}, {3, 0, 0, 0, 0}, {0, -1, 0, 0, 0}, {0, 4, 0, 0, 0}, {0, 0, -1, 0, 0},
            {0, 0, 8, 0, 0}, {0, 0, 0, -2, 0}, {0, 0, 0, 16, 0}, {0, 0, 0, 0, -1}, {0, 0, 0, 0, 4},
            {0, 0, 0, -1, 1}, {0, 0, 0, -1, 2}, {0, 0, 0, -1, 3}, {0, 0, 0, -1, 4}, {0, 0, 0, -1, -1},
        };
        for (int[] a : branches) {
            check.due("wrong branch", x.branch(a[0], a[1], a[2], a[3], a[4]), NONE);
        }
        int[][] trees = {
            {-1, 0, 0, 0}, {3, 0, 0, 0}, {0, -1, 0, 0}, {0, 8, 0, 0}, {0, 0, -2, 0}, {0, 0, 16, 0},
            {0, 0, 0, -1}, {0, 0, 0, 8}, {0, 0, -1, 5}, {0, 0, -1, 6}, {0, 0, -1, 7}, {0, 0, -1, -1},
        };
        for (int[] a : trees) {
            check.due("wrong tree", x.tree(a[0], a[1], a[2], a[3]), NONE);
        }
        check.due("a port on no wire is not joined", x.branch(0, 3, 0, 0, 0), 0);
        check.due("nor cut off", x.branch(0, 3, 0, 0, 1), 0);
        check.due("nor lost", x.branch(0, 3, 0, 0, 2), 0);
        check.due("and keeps nothing", x.branch(0, 3, 0, 0, 3), NONE);
        check.due("a source on no wire is not wanted", x.tree(0, 0, 15, 0), 0);
        check.due("nor straight", x.tree(0, 0, 15, 5), 0);
        check.due("nor joined", x.tree(0, 0, 15, 1), NONE);
        check.due("no bits of *", x.tree(0, 0, -1, 4), 0);
    }
}
