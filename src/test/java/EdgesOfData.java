/** The bounds of data, claims for it, tunnels and stops (promises 12, 18 and 19; Terms V and VI), one method for each. */
public final class EdgesOfData {
    private static final int NONE = GroveWorks.NONE;
    private static final Check check = new Check("EdgesOfData");

    public static void main(String[] args) {
        keeping();
        gettingStraight();
        endingStraight();
        goingOut();
        livesOfData();
        claims();
        startingTunnels();
        endingTunnels();
        stops();
        check.end();
    }

    private static void keeping() {
        keptForSeventy();
        keptByOneThatHasJoined();
        notKeptForNobody();
        keptWhereThereAreMembers();
    }

    /** Router 0 is direct to host 0 on wire 2 and has host 1 on wire 3; router 1, the meeting point, is on wire 0. */
    private static GroveWorks sourceAndMember() {
        GroveWorks x = Nets.hosts(Nets.net(2, new int[][] {{0, 0, 0}, {1, 0, 0}, {0, 1, 2}, {0, 2, 3}}), 2, 3);
        x.meet(0, 1);
        return x;
    }

    private static void keptForSeventy() {
        check.says("If r is DIRECT to s and p is W");
        GroveWorks x = sourceAndMember();
        x.join(1, 0);
        x.tick(2);
        check.due("not kept", x.tree(0, 0, 0, 6), 0);
        check.due("not wanted, though there is an own port", x.tree(0, 0, 0, 0), 0);
        x.send(0, 0);
        x.tick(1);
        check.says("(s, g) is KEPT till TIME and 70");
        check.due("kept at 3", x.tree(0, 0, 0, 6), 73);
        check.due("not in another group", x.tree(0, 1, 0, 6), 0);
        check.due("not another source", x.tree(0, 0, 1, 6), 0);
        x.tick(50);
        x.tick(19);
        check.due("kept at 72", x.tree(0, 0, 0, 6), 73);
        check.due("wanted at 72", x.tree(0, 0, 0, 0), 1);
        check.due("straight at 72", x.tree(0, 0, 0, 5), 1);
        x.tick(1);
        check.due("not kept at 73", x.tree(0, 0, 0, 6), 0);
        check.due("not wanted at 73", x.tree(0, 0, 0, 0), 0);
        check.due("not straight at 73", x.tree(0, 0, 0, 5), 0);
    }

    private static void keptByOneThatHasJoined() {
        check.says("or p is W, r has JOINED for s and ALL is not empty");
        GroveWorks x = playedTriangle();
        check.due("kept at 10 by router 2", x.tree(2, 0, 0, 6), 80);
        x.tick(2);
        x.send(0, 0);
        x.tick(2);
        check.due("kept at 14", x.tree(2, 0, 0, 6), 84);
        check.due("not by the meeting point, which has pruned it", x.tree(0, 0, 0, 6), 80);
    }

    private static GroveWorks playedTriangle() {
        GroveWorks x = Nets.triangle();
        Nets.playTriangle(x);
        return x;
    }

    /** Members lapse at 25; data comes at 24 or at 25, ahead of the timers that prune. */
    private static void notKeptForNobody() {
        check.says("and ALL is not empty");
        for (int late = 0; late < 2; late++) {
            GroveWorks x = playedTriangle();
            x.tick(10);
            x.leave(1, 0);
            x.tick(2 + late);
            x.send(0, 0);
            x.tick(2);
            check.due("time", x.count(0), 24 + late);
            check.due("kept", x.tree(2, 0, 0, 6), late == 0 ? 94 : 80);
        }
    }

    private static void keptWhereThereAreMembers() {
        check.says("if g has an OWN PORT, (s, g) is KEPT till TIME and 70");
        GroveWorks x = Nets.line(0);
        x.join(1, 0);
        x.tick(5);
        x.send(0, 0);
        x.tick(2);
        check.due("it came to router 1, which has no own port", x.tree(1, 0, 0, 6), 0);
        check.due("and goes on", Nets.framesOf(x, 1, Nets.DATA), 1);
        x.tick(1);
        check.due("it came to router 2, which has one", x.tree(2, 0, 0, 6), 78);
        for (int own = 0; own < 4; own++) {
            int up = (own + 1) % 4;
            GroveWorks y = Nets.hosts(Nets.net(2, new int[][] {{0, 3, 0}, {0, 2, 1}, {1, up, 0}, {1, own, 2}}), 1, 2);
            y.join(1, 0);
            y.tick(5);
            y.send(0, 0);
            y.tick(2);
            check.due("kept for an own port " + own, y.tree(1, 0, 0, 6), 77);
            check.due("shared", y.tree(1, 0, 0, 4), 1 << own);
            y.tick(50);
            y.tick(20);
            check.due("not kept at 77", y.tree(1, 0, 0, 6), 0);
            check.due("not joined at 77", y.tree(1, 0, 0, 1), NONE);
        }
    }

    private static void gettingStraight() {
        straightBecauseDirect();
        straightByAnotherPort();
        straightAtTheMeetingPoint();
        straightForAnEmptyShared();
        notStraightForAnotherUp();
        straightForTheSameUp();
        notStraightWithoutUps();
        straightWhereLost();
        notStraightIfNotWanted();
    }

    /** The meeting point, router 1, is on the source's wire: W is M, and up of the source is none. */
    private static void straightBecauseDirect() {
        check.says("and: r is DIRECT");
        GroveWorks x = Nets.hosts(Nets.net(2, new int[][] {{0, 0, 0}, {1, 0, 0}, {0, 1, 1}}), 0, 1);
        x.meet(0, 1);
        x.join(1, 0);
        x.tick(3);
        x.send(0, 0);
        x.tick(1);
        check.due("straight", x.tree(0, 0, 0, 5), 1);
        check.due("it goes on", Nets.framesOf(x, 1, Nets.DATA), 1);
    }

    private static void straightByAnotherPort() {
        check.says("or W is not M");
        GroveWorks x = playedTriangle();
        check.due("W of router 2", x.way(2, true, 3, 1), 1);
        check.due("M of router 2", x.way(2, false, 0, 1), 0);
        check.due("straight", x.tree(2, 0, 0, 5), 1);
    }

    private static void straightAtTheMeetingPoint() {
        check.says("(none if there is none)");
        GroveWorks x = playedTriangle();
        check.due("the meeting point has no M", x.way(0, false, 0, 1), NONE);
        check.due("straight", x.tree(0, 0, 0, 5), 1);
    }

    /**
     * Router 0 has W and M by wire 0, where routers 2, the meeting point, and 3, at the source, are. Router 1 joins
     * the source by router 0, but * by wire 2.
     */
    private static GroveWorks oneWireUp() {
        GroveWorks x = Nets.net(4, new int[][] {
            {0, 0, 0}, {0, 1, 1}, {1, 0, 1}, {1, 1, 2}, {1, 2, 4}, {2, 0, 0}, {2, 1, 2}, {3, 0, 0}, {3, 1, 3}, {0, 2, 5},
        });
        Nets.hosts(x, 3, 4, 5);
        x.meet(0, 2);
        x.tick(2);
        return x;
    }

    private static void straightForAnEmptyShared() {
        check.says("or SHARED is empty");
        GroveWorks x = oneWireUp();
        x.join(1, 0);
        x.tick(3);
        x.send(0, 0);
        x.tick(6);
        check.due("router 1 has joined the source by router 0", x.tree(1, 0, 0, 1), 0);
        check.due("and * by the meeting point", x.tree(1, 0, NONE, 1), 2);
        check.due("router 0 wants the source", x.tree(0, 0, 0, 0), 1);
        check.due("shared of router 0", x.tree(0, 0, 0, 4), 0);
        check.due("it joins it by router 3", x.tree(0, 0, 0, 1), 3);
        check.due("not straight yet", x.tree(0, 0, 0, 5), 0);
        x.send(0, 0);
        x.tick(2);
        check.due("W is M", x.way(0, true, 3, 1), x.way(0, false, 2, 1));
        check.due("straight", x.tree(0, 0, 0, 5), 1);
        check.due("all of router 0", x.tree(0, 0, 0, 3), 2);
    }

    private static void notStraightForAnotherUp() {
        check.says("or UP of s is there and the same as UP of *");
        GroveWorks x = oneWireUp();
        x.join(2, 0);
        x.tick(3);
        x.send(0, 0);
        x.tick(5);
        check.due("router 0 has joined * by router 2", x.tree(0, 0, NONE, 1), 2);
        check.due("and the source by router 3", x.tree(0, 0, 0, 1), 3);
        for (int i = 0; i < 3; i++) {
            x.send(0, 0);
            x.tick(2);
            check.due("wanted", x.tree(0, 0, 0, 0), 1);
            check.due("shared", x.tree(0, 0, 0, 4), 4);
            check.due("not straight", x.tree(0, 0, 0, 5), 0);
        }
    }

    private static void straightForTheSameUp() {
        check.says("UP of s is there and the same as UP of *");
        GroveWorks x = Nets.line(0);
        x.join(1, 0);
        x.tick(5);
        x.send(0, 0);
        x.tick(5);
        check.due("not straight by the first", x.tree(2, 0, 0, 5), 0);
        check.due("joined for it", x.tree(2, 0, 0, 1), 1);
        x.send(0, 0);
        x.tick(3);
        check.due("straight by the second", x.tree(2, 0, 0, 5), 1);
        check.due("nothing to cut off", x.tree(2, 0, NONE, 4), 0);
        check.due("router 1, too", x.tree(1, 0, 0, 5), 1);
    }

    /** Router 1's hellos on wire 1 go, and so do the prunes of router 2, which has no ups from 67 on. */
    private static void notStraightWithoutUps() {
        check.says("UP of s is there");
        GroveWorks x = Nets.line(0);
        x.join(1, 0);
        x.tick(21);
        for (int i = 0; i < 3; i++) {
            check.due("a hello goes", Nets.drop(x, 1, Nets.HELLO, 1), 1);
            x.tick(i < 2 ? 20 : 6);
        }
        check.due("a prune goes at 67", Nets.drop(x, 1, Nets.PRUNE, 2), 1);
        for (int i = 0; i < 3; i++) {
            x.send(0, 0);
            x.tick(3);
        }
        check.due("got", x.got(1, 1), 1);
        check.due("wanted", x.tree(2, 0, 0, 0), 1);
        check.due("no up", x.tree(2, 0, 0, 1), NONE);
        check.due("not straight", x.tree(2, 0, 0, 5), 0);
    }

    /** Router 0 is straight no more as host 2 leaves; as it is back, wire 1 keeps the claim of router 2. */
    private static void straightWhereLost() {
        check.says("or p is LOST: r is STRAIGHT for (s, g)");
        GroveWorks x = Nets.twoToOne(1);
        x.send(0, 0);
        x.tick(5);
        x.leave(2, 0);
        x.tick(5);
        check.due("not straight without members", x.tree(0, 0, 0, 5), 0);
        x.join(2, 0);
        x.tick(3);
        check.due("lost by the claim of router 2", x.branch(0, 0, 0, 0, 2), 1);
        check.due("up of the source", x.tree(0, 0, 0, 1), 2);
        check.due("up of *", x.tree(0, 0, NONE, 1), 1);
        check.due("W is M", x.way(0, true, 3, 1), x.way(0, false, 3, 1));
        check.due("shared is not empty", x.tree(0, 0, 0, 4), 2);
        check.due("not straight yet", x.tree(0, 0, 0, 5), 0);
        x.send(0, 0);
        x.tick(4);
        check.due("straight", x.tree(0, 0, 0, 5), 1);
    }

    private static void notStraightIfNotWanted() {
        check.says("If p is W and r WANTS s");
        GroveWorks x = Nets.line(2);
        x.tick(2);
        x.send(0, 0);
        x.tick(1);
        check.due("direct", x.way(0, true, 2, 0), 0);
        check.due("not wanted", x.tree(0, 0, 0, 0), 0);
        check.due("not straight", x.tree(0, 0, 0, 5), 0);
        GroveWorks y = playedTriangle();
        y.tick(1);
        check.due("by M of router 2, which is not W, it came, too", y.tree(2, 0, 0, 5), 1);
        check.due("but does not go on", y.got(1, 1), 1);
    }

    private static void endingStraight() {
        straightTillNotWanted();
        straightTillNoWay();
        straightTillAnotherWay();
        straightByANewWay();
    }

    private static void straightTillNotWanted() {
        check.says("r doesn't WANT s");
        GroveWorks x = playedTriangle();
        x.leave(1, 0);
        x.tick(4);
        check.due("members till 15: straight at 14", x.tree(2, 0, 0, 5), 1);
        x.tick(1);
        check.due("not at 15", x.tree(2, 0, 0, 5), 0);
        check.due("though it is kept", x.tree(2, 0, 0, 6), 80);
        check.due("and pruned in the same tick", Nets.framesOf(x, 1, Nets.PRUNE), 1);
    }

    private static void straightTillNoWay() {
        check.says("or W is none");
        GroveWorks x = playedTriangle();
        x.cut(3);
        check.due("straight at 10", x.tree(2, 0, 0, 5), 1);
        x.tick(1);
        check.due("wanted at 11", x.tree(2, 0, 0, 0), 1);
        check.due("not straight at 11", x.tree(2, 0, 0, 5), 0);
    }

    private static void straightTillAnotherWay() {
        check.says("or another one than it was when that held last");
        GroveWorks x = playedTriangle();
        x.tick(2);
        x.cut(1);
        check.due("W is another one", x.way(2, true, 3, 1), 0);
        check.due("straight at 12", x.tree(2, 0, 0, 5), 1);
        x.tick(1);
        check.due("wanted at 13", x.tree(2, 0, 0, 0), 1);
        check.due("not straight at 13", x.tree(2, 0, 0, 5), 0);
    }

    /** As wire 1 is cut at 10, data is under way on wire 0, which is W now: (b) holds with it ahead of the timers. */
    private static void straightByANewWay() {
        check.says("when that held last");
        GroveWorks x = playedTriangle();
        check.due("data is under way on wire 0", Nets.framesOf(x, 0, Nets.DATA), 1);
        x.cut(1);
        x.tick(1);
        check.due("straight by the new way", x.tree(2, 0, 0, 5), 1);
        x.tick(1);
        check.due("and on", x.tree(2, 0, 0, 5), 1);
    }

    private static void goingOut() {
        outOfAllAndOfShared();
        outButThePortItCameBy();
        noOutWithoutWay();
        noOutForOneThatIsStraight();
    }

    private static void outOfAllAndOfShared() {
        check.says("If p is W and r is STRAIGHT: OUT is ALL. Else, if p is M and r is not STRAIGHT: OUT is SHARED");
        GroveWorks x = Nets.triangle();
        x.tick(2);
        x.join(1, 0);
        x.tick(2);
        x.send(0, 0);
        x.tick(1);
        check.due("not straight, and by no M: none", x.count(4), 0);
        x.tick(3);
        check.due("the meeting point and router 2 brought it", x.count(4), 2);
        x.send(0, 0);
        x.tick(1);
        check.due("straight: to wires 1 and 2", x.count(4), 4);
        check.due("with life 15 on wire 1", x.frame(1, Nets.find(x, 1, Nets.DATA), 7), 15);
        check.due("with life 15 on wire 2", x.frame(2, Nets.find(x, 2, Nets.DATA), 7), 15);
    }

    private static void outButThePortItCameBy() {
        check.says("By each PORT of OUT but p, by numbers");
        GroveWorks x = Nets.hosts(Nets.net(1, new int[][] {{0, 0, 0}, {0, 1, 1}, {0, 2, 2}}), 0, 0, 1);
        x.join(1, 0);
        x.join(2, 0);
        x.tick(3);
        x.send(0, 0);
        x.tick(1);
        check.due("all", x.tree(0, 0, 0, 3), 3);
        check.due("not back to wire 0", Nets.framesOf(x, 0, Nets.DATA), 0);
        check.due("to wire 1", Nets.framesOf(x, 1, Nets.DATA), 1);
        check.due("not to wire 2", Nets.framesOf(x, 2, Nets.DATA), 0);
        x.tick(2);
        check.due("got once", x.got(1, 0), 1);
        check.due("got once", x.got(2, 0), 1);
    }

    private static void noOutWithoutWay() {
        check.says("Else there is no OUT");
        GroveWorks x = Nets.fork();
        x.join(0, 0);
        x.tick(5);
        x.send(1, 0);
        x.tick(2);
        check.due("a tunnel to the meeting point, and data of it", x.count(4), 1);
        x.tick(1);
        check.due("router 0 brings it on", Nets.framesOf(x, 1, Nets.DATA), 1);
        check.due("router 1, at the source, does not", Nets.framesOf(x, 2, Nets.DATA), 0);
        check.due("and claims nothing", x.count(6), 0);
    }

    private static void noOutForOneThatIsStraight() {
        check.says("Else, if p is M and r is not STRAIGHT");
        GroveWorks x = playedTriangle();
        check.due("data of the meeting point is under way", Nets.framesOf(x, 0, Nets.DATA), 1);
        check.due("straight", x.tree(2, 0, 0, 5), 1);
        x.tick(1);
        check.due("it does not go on by router 2", Nets.framesOf(x, 4, Nets.DATA), 0);
        check.says("if p is in ALL (of one that is STRAIGHT; else in SHARED): r sends CLAIM by p");
        check.due("p is in nothing: no claim", x.count(6), 0);
    }

    private static void livesOfData() {
        lifeGoesDown();
        lifeEnds();
        lifeInTunnelsEnds();
    }

    private static void lifeGoesDown() {
        check.says("DATA goes on, with LIFE less 1");
        GroveWorks x = new GroveWorks(10);
        for (int r = 0; r < 9; r++) {
            x.plug(r, 0, r, 1);
            x.plug(r + 1, 1, r, 1);
        }
        x.plug(0, 1, 15, 1);
        x.plug(9, 0, 14, 1);
        Nets.hosts(x, 15, 14);
        x.join(1, 0);
        x.tick(12);
        x.send(0, 0);
        for (int w = 0; w < 9; w++) {
            x.tick(1);
            check.due("on wire " + w, x.frame(w, Nets.find(x, w, Nets.DATA), 7), 15 - w);
        }
        x.tick(1);
        check.due("on the last wire", x.frame(14, Nets.find(x, 14, Nets.DATA), 7), 6);
    }

    /**
     * A ring: 0 -w0- 1 -w1- 2 -w2- 0, with hosts on all three wires and the source on wire 0. All hellos go, so each
     * router is first everywhere. Router 0 has no members as it hears the source, so it is not straight and brings to
     * wire 0 what comes by wire 2, its way to the meeting point; routers 1 and 2 bring it round.
     */
    private static void lifeEnds() {
        check.says("not at all, if LIFE is 1");
        GroveWorks x = Nets.net(3, new int[][] {{0, 0, 0}, {0, 1, 2}, {1, 0, 0}, {1, 1, 1}, {2, 0, 1}, {2, 1, 2}});
        Nets.hosts(x, 0, 0, 1, 2);
        x.meet(0, 2);
        x.join(2, 0);
        x.send(0, 0);
        x.tick(1);
        silence(x, 3, 3);
        x.send(0, 0);
        x.join(1, 0);
        x.join(3, 0);
        x.tick(1);
        int[] wires = {2, 0, 1};
        for (int t = 2; t <= 16; t++) {
            int wire = wires[t % 3];
            int at = findData(x, wire, 1);
            check.due("under way at " + t + " on wire " + wire, at >= 0, true);
            check.due("its life at " + t, x.frame(wire, at, 7), 17 - t);
            x.tick(1);
        }
        for (int w = 0; w < 3; w++) {
            check.due("no data at 17 on wire " + w, findData(x, w, 1), -1);
        }
        check.due("it came to wire 0 from the source, and five times by the ring", x.got(1, 1), 6);
    }

    private static void silence(GroveWorks x, int wires, int routers) {
        for (int w = 0; w < wires; w++) {
            for (int r = 0; r < routers; r++) {
                Nets.drop(x, w, Nets.HELLO, r);
            }
        }
    }

    private static int findData(GroveWorks x, int wire, int number) {
        for (int i = 0; x.frame(wire, i, 0) != -2; i++) {
            if (x.frame(wire, i, 0) == Nets.DATA && x.frame(wire, i, 5) == number) {
                return i;
            }
        }
        return -1;
    }

    /** The ring, but the meeting point, router 3, hangs on router 1 by wire 3 and has a host on wire 4. */
    private static void lifeInTunnelsEnds() {
        check.says("if r is not STRAIGHT and the LIFE of its DATA is above 1");
        GroveWorks x = Nets.net(4, new int[][] {
            {0, 1, 2}, {1, 0, 0}, {1, 1, 1}, {2, 0, 1}, {2, 1, 2}, {1, 2, 3}, {3, 0, 3}, {3, 1, 4},
        });
        x.plug(0, 0, 0, 9);
        Nets.hosts(x, 0, 0, 1, 2, 4);
        x.meet(0, 3);
        x.join(2, 0);
        x.join(4, 0);
        x.tick(1);
        silence(x, 4, 4);
        x.send(0, 0);
        x.join(1, 0);
        x.join(3, 0);
        x.tick(13);
        check.due("time", x.count(0), 14);
        check.due("a tunnel for data of life 4", x.frame(3, Nets.find(x, 3, Nets.TUNNEL), 6), 1 + 16 * 4);
        x.tick(1);
        check.due("data of life 3", x.frame(4, Nets.find(x, 4, Nets.DATA), 7), 3);
        x.tick(2);
        check.dueFrame("a tunnel for data of life 1", x, 3, Nets.find(x, 3, Nets.TUNNEL), 9, 1, 3, 0, 0, 0, 17, 16);
        x.tick(1);
        check.due("it came", x.tree(3, 0, 0, 6), 88);
        check.due("not straight", x.tree(3, 0, 0, 5), 0);
        check.due("shared", x.tree(3, 0, 0, 4), 2);
        check.due("no data", Nets.framesOf(x, 4, Nets.DATA), 0);
        check.due("no stop", Nets.framesOf(x, 3, Nets.STOP), 0);
    }

    private static void claims() {
        claimForSixty();
        claimThatIsWorse();
        claimIsAnswered();
    }

    /** The claim of router 1 comes to router 2 at 10 alone, the others' at 11 again. */
    private static void claimForSixty() {
        check.says("it is kept there for (s, g) till TIME and 60");
        GroveWorks x = Nets.twoToOne(1);
        x.send(0, 0);
        x.tick(3);
        check.due("sent is not heard", x.branch(2, 1, 0, 0, 3), NONE);
        x.tick(1);
        check.due("kept at 10", x.branch(2, 1, 0, 0, 3), 1);
        check.due("by router 1", x.branch(1, 1, 0, 0, 3), 2);
        x.tick(50);
        x.tick(9);
        check.due("kept at 69", x.branch(2, 1, 0, 0, 3), 1);
        x.tick(1);
        check.due("not at 70", x.branch(2, 1, 0, 0, 3), NONE);
        check.due("by router 1, as it came again at 11", x.branch(1, 1, 0, 0, 3), 2);
        check.due("lost at 70", x.branch(1, 1, 0, 0, 2), 1);
        x.tick(1);
        check.due("not at 71", x.branch(1, 1, 0, 0, 3), NONE);
        check.due("not lost at 71", x.branch(1, 1, 0, 0, 2), 0);
    }

    private static void claimThatIsWorse() {
        check.says("if none is, or it is better than that, or that is of the same ROUTER");
        GroveWorks x = Nets.twoToOne(1);
        x.send(0, 0);
        x.tick(3);
        check.due("the better one comes first", x.frame(1, 0, 1), 2);
        check.due("then the worse one", x.frame(1, 1, 1), 1);
        x.tick(1);
        check.due("router 0 keeps the better one", x.branch(0, 0, 0, 0, 3), 2);
        GroveWorks y = Nets.twoToOne(1);
        y.send(0, 0);
        y.tick(3);
        y.lose(1, 0);
        y.tick(1);
        check.due("the worse one alone is kept", y.branch(0, 0, 0, 0, 3), 1);
        check.due("router 2 answers it", Nets.framesOf(y, 1, Nets.CLAIM), 1);
        y.tick(1);
        check.due("the better one takes its place", y.branch(0, 0, 0, 0, 3), 2);
    }

    private static void claimIsAnswered() {
        check.says("and r's own CLAIM is better than the one that came: r sends its CLAIM by p");
        GroveWorks x = Nets.twoToOne(1);
        x.send(0, 0);
        x.tick(4);
        check.due("one answer", Nets.framesOf(x, 1, Nets.CLAIM), 1);
        check.dueFrame("of router 2", x, 1, Nets.find(x, 1, Nets.CLAIM), 8, 2, NONE, 0, 0, 1000102, 0, 0);
        check.due("three claims in all", x.count(6), 3);
        x.tick(1);
        check.due("it is not answered", x.count(6), 3);
    }

    private static void startingTunnels() {
        tunnelOfTheFirst();
        noTunnelOfTheMeetingPoint();
        noTunnelWithoutWay();
        noTunnelOfOneThatIsNotDirect();
        tunnelsOfOneThatIsStopped();
    }

    /** Routers 0 and 1 are both on wire 0 of the source; router 2, the meeting point, on wire 1 with both. */
    private static GroveWorks twoAtTheSource() {
        GroveWorks x = Nets.net(3, new int[][] {{0, 0, 0}, {1, 0, 0}, {0, 1, 1}, {1, 1, 1}, {2, 0, 1}});
        x.meet(0, 2);
        return Nets.hosts(x, 0);
    }

    private static void tunnelOfTheFirst() {
        check.says("r is FIRST at p and not the MEETING POINT, and not STOPPED for (s, g): TUNNEL is sent");
        GroveWorks x = twoAtTheSource();
        x.tick(2);
        x.send(0, 0);
        x.tick(1);
        check.due("one tunnel", x.count(5), 1);
        check.dueFrame("of router 1", x, 1, 0, 9, 1, 2, 0, 0, 0, 257, 16);
        check.due("both keep it", x.tree(0, 0, 0, 6), x.tree(1, 0, 0, 6));
        GroveWorks y = twoAtTheSource();
        y.send(0, 0);
        y.tick(1);
        check.due("at 1 both are first", y.count(5), 2);
    }

    private static void noTunnelOfTheMeetingPoint() {
        check.says("and not the MEETING POINT");
        GroveWorks x = Nets.line(0);
        x.tick(2);
        x.send(0, 0);
        x.tick(1);
        check.due("router 0 is direct and first, but the meeting point", x.count(5), 0);
        x.send(1, 0);
        x.tick(1);
        check.due("router 2 is not", x.count(5), 1);
    }

    private static void noTunnelWithoutWay() {
        check.says("nothing, if there is no WAY");
        GroveWorks x = Nets.line(2);
        x.tick(2);
        x.cut(1);
        x.send(0, 0);
        x.tick(1);
        check.due("no tunnel", x.count(5), 0);
        check.due("nothing is lost", x.count(3), 0);
        x.mend(1);
        x.send(0, 0);
        x.tick(1);
        check.due("a tunnel", x.count(5), 1);
        x.cut(1);
        x.tick(1);
        check.due("router 1 has no way: it does not go on", Nets.framesOf(x, 0, Nets.TUNNEL), 0);
    }

    private static void noTunnelOfOneThatIsNotDirect() {
        check.says("If r is DIRECT to s, p is W");
        GroveWorks x = Nets.line(0);
        x.join(1, 0);
        x.tick(5);
        x.send(0, 0);
        x.tick(5);
        check.due("routers 1 and 2 heard it by W", x.got(1, 0), 1);
        check.due("but send no tunnels", x.count(5), 0);
    }

    /** Stopped at 5, till 45. */
    private static void tunnelsOfOneThatIsStopped() {
        check.says("and not STOPPED for (s, g)");
        for (int late = 0; late < 2; late++) {
            GroveWorks x = Nets.line(1);
            x.meet(1, 1);
            x.tick(2);
            x.send(0, 0);
            x.tick(38);
            x.lose(0, Nets.find(x, 0, Nets.TUNNEL));
            x.tick(3 + late);
            x.send(0, 0);
            x.send(0, 1);
            x.tick(1);
            check.due("time", x.count(0), 44 + late);
            check.due("another group's", framesOfGroup(x, 0, 1), 1);
            check.due("a tunnel at 45, not at 44", framesOfGroup(x, 0, 0), late);
        }
    }

    private static int framesOfGroup(GroveWorks x, int wire, int group) {
        int n = 0;
        for (int i = 0; x.frame(wire, i, 0) != -2; i++) {
            n += x.frame(wire, i, 0) == Nets.TUNNEL && x.frame(wire, i, 3) == group ? 1 : 0;
        }
        return n;
    }

    private static void endingTunnels() {
        lifeOfTunnels();
        tunnelForAnother();
        tunnelToAnEmptyTree();
        tunnelToATree();
        tunnelThatIsEmpty();
    }

    /** The way to router 2 turns round at every tick, so that a tunnel goes to and fro on wire 0. */
    private static void lifeOfTunnels() {
        check.says("goes on by r's WAY likewise, with LIFE less 1; not at all, if LIFE is 1");
        GroveWorks x = toAndFro(0);
        x.meet(0, 2);
        x.tick(2);
        x.cut(1);
        x.send(0, 0);
        x.tick(1);
        for (int life = 16; life > 0; life--) {
            int by = life % 2;
            check.dueFrame("to and fro", x, 0, 0, 9, by, 1 - by, 0, 0, 0, 256, life);
            x.mend(1 + by);
            x.cut(2 - by);
            x.tick(1);
        }
        check.due("its life is over", Nets.framesOf(x, 0, Nets.TUNNEL), 0);
        check.due("one tunnel", x.count(5), 1);
    }

    /** Routers 0 and 1 on wire 0; 0 and 2 on wire 1; 1 and 2 on wire 2; host 0 on wire 3 of one of them. */
    private static GroveWorks toAndFro(int router) {
        GroveWorks x = Nets.net(3, new int[][] {{0, 0, 0}, {1, 0, 0}, {0, 1, 1}, {2, 0, 1}, {1, 1, 2}, {2, 1, 2}});
        x.plug(router, 2, 3, 1);
        x.host(0, 3);
        return x;
    }

    private static void tunnelForAnother() {
        check.says("TUNNEL, STOP: only the ROUTER TO which they are does anything.");
        GroveWorks x = Nets.fork();
        x.tick(2);
        x.send(0, 0);
        x.tick(1);
        check.dueFrame("a tunnel to router 2", x, 0, 0, 9, 0, 2, 0, 0, 0, 256, 16);
        x.tick(1);
        check.due("router 1 does nothing", x.tree(1, 0, 0, 6), 0);
        check.dueFrame("a stop to router 0 alone", x, 0, 0, 10, 2, 0, 0, 0, 0, 0, 16);
        check.due("one frame", Nets.framesOn(x, 0), 1);
        x.tick(1);
        check.due("router 0 is stopped", x.tree(0, 0, 0, 7), 45);
        check.due("router 1 is not", x.tree(1, 0, 0, 7), 0);
        check.due("nothing more", Nets.framesOn(x, 0), 0);
    }

    private static void tunnelToAnEmptyTree() {
        check.says("first, if r is STRAIGHT for (s, g), or ALL of (s, g) is empty, STOP goes to the ROUTER that sent it first");
        GroveWorks x = Nets.line(1);
        x.tick(2);
        x.send(0, 0);
        x.tick(2);
        check.due("a stop", Nets.framesOf(x, 0, Nets.STOP), 1);
        check.due("no data", x.count(4), 0);
        check.says("then (s, g) is KEPT till TIME and 70");
        check.due("kept all the same", x.tree(1, 0, 0, 6), 74);
        GroveWorks y = playedTriangle();
        check.due("of one that is straight", Nets.framesOf(y, 2, Nets.STOP), 1);
        check.due("all is not empty there", y.tree(0, 0, 0, 3), 1);
    }

    private static void tunnelToATree() {
        check.says("DATA goes by all PORTS of SHARED whose WIRES are UP, by numbers, with that LIFE less 1");
        GroveWorks x = Nets.fork();
        x.join(0, 0);
        x.join(2, 0);
        x.tick(5);
        x.send(1, 0);
        x.tick(2);
        check.dueFrame("to wire 0, by which it came, too", x, 0, 0, 7, 2, NONE, 0, 1, 0, 0, 15);
        check.dueFrame("to wire 3", x, 3, 0, 7, 2, NONE, 0, 1, 0, 0, 15);
        check.due("no stop", Nets.framesOf(x, 0, Nets.STOP), 0);
        check.due("kept", x.tree(2, 0, 1, 6), 77);
    }

    /** Host 1 joins while router 0 is stopped; the empty tunnel of 40 finds a tree. */
    private static void tunnelThatIsEmpty() {
        check.says("a TUNNEL that is EMPTY (NUMBER 0, the LIFE of its DATA 0)");
        GroveWorks x = Nets.line(1);
        x.tick(2);
        check.due("number 0, of another group", x.send(0, 1), 0);
        check.due("number 1", x.send(0, 0), 1);
        x.tick(18);
        x.join(1, 0);
        x.tick(19);
        check.due("no probe at 39", x.count(5), 1);
        x.tick(1);
        check.dueFrame("an empty tunnel at 40", x, 0, Nets.find(x, 0, Nets.TUNNEL), 9, 0, 1, 0, 0, 0, 0, 16);
        check.due("it counts", x.count(5), 2);
        x.tick(1);
        check.due("kept by it", x.tree(1, 0, 0, 6), 111);
        check.due("shared is not empty", x.tree(1, 0, 0, 4), 2);
        check.due("no data out of it", x.count(4), 0);
        check.due("no stop for it", Nets.framesOf(x, 0, Nets.STOP), 0);
    }

    private static void stops() {
        stopForForty();
        lifeOfStops();
        stopWithoutWay();
        probeAtFive();
        probeOfTheFirst();
        probeWithoutSource();
        probeWhileKept();
        probesByGroupsAndSources();
    }

    private static void stopForForty() {
        check.says("(s, g) is STOPPED till TIME and 40");
        GroveWorks x = Nets.line(1);
        x.tick(2);
        x.send(0, 0);
        x.tick(2);
        check.due("sent is not heard", x.tree(0, 0, 0, 7), 0);
        x.tick(1);
        check.due("stopped at 5", x.tree(0, 0, 0, 7), 45);
        check.due("not in another group", x.tree(0, 1, 0, 7), 0);
        x.tick(35);
        x.lose(0, Nets.find(x, 0, Nets.TUNNEL));
        x.tick(4);
        check.due("stopped at 44", x.tree(0, 0, 0, 7), 45);
        x.tick(1);
        check.due("not at 45", x.tree(0, 0, 0, 7), 0);
    }

    /** Router 2 is stopped by router 0 by way of router 1, but the ways turn round at every tick. */
    private static void lifeOfStops() {
        check.says("by each ROUTER TO which it is with LIFE less 1 likewise");
        GroveWorks x = toAndFro(2);
        x.tick(2);
        x.send(0, 0);
        x.tick(1);
        check.due("a tunnel on wire 1", Nets.framesOf(x, 1, Nets.TUNNEL), 1);
        x.tick(1);
        check.due("a stop on wire 1", Nets.framesOf(x, 1, Nets.STOP), 1);
        GroveWorks y = toAndFro(2);
        y.cut(1);
        y.tick(2);
        y.send(0, 0);
        y.tick(3);
        for (int life = 16; life > 0; life--) {
            int by = life % 2;
            check.dueFrame("to and fro", y, 0, 0, 10, by, 1 - by, 0, 0, 0, 2, life);
            y.mend(1 + by);
            y.cut(2 - by);
            y.tick(1);
        }
        check.due("its life is over", Nets.framesOf(y, 0, Nets.STOP), 0);
        check.due("none on wire 1", Nets.framesOf(y, 1, Nets.STOP), 0);
        check.due("none on wire 2", Nets.framesOf(y, 2, Nets.STOP), 0);
        check.due("router 2 is not stopped", y.tree(2, 0, 0, 7), 0);
    }

    private static void stopWithoutWay() {
        check.says("goes by WAYS to that ROUTER");
        GroveWorks x = Nets.line(2);
        x.tick(2);
        x.send(0, 0);
        x.tick(3);
        check.due("a stop on wire 1", Nets.framesOf(x, 1, Nets.STOP), 1);
        x.cut(0);
        x.tick(1);
        check.due("router 1 has no way to router 0", x.count(3), 0);
        check.due("router 1 is not stopped", x.tree(1, 0, 0, 7), 0);
        x.mend(0);
        x.tick(2);
        check.due("nor is router 0", x.tree(0, 0, 0, 7), 0);
    }

    private static void probeAtFive() {
        check.says("if (s, g) is STOPPED till just TIME and 5");
        GroveWorks x = Nets.line(1);
        x.tick(2);
        x.send(0, 0);
        x.tick(37);
        check.due("none at 39", x.count(5), 1);
        x.tick(1);
        check.due("one at 40", x.count(5), 2);
        x.lose(0, Nets.find(x, 0, Nets.TUNNEL));
        x.tick(10);
        check.due("none behind it", x.count(5), 2);
    }

    /** At 1 both routers at the source were first, so both are stopped at 3. */
    private static void probeOfTheFirst() {
        check.says("and r is DIRECT to s, FIRST at that PORT");
        GroveWorks x = twoAtTheSource();
        x.send(0, 0);
        x.tick(3);
        check.due("router 0 is stopped", x.tree(0, 0, 0, 7), 43);
        check.due("router 1 is stopped", x.tree(1, 0, 0, 7), 43);
        x.tick(34);
        check.due("two tunnels at 37", x.count(5), 2);
        x.tick(1);
        check.due("three at 38", x.count(5), 3);
        check.due("of router 1", x.frame(1, Nets.find(x, 1, Nets.TUNNEL), 1), 1);
    }

    private static void probeWithoutSource() {
        check.says("is KEPT, and r is DIRECT to s");
        GroveWorks x = Nets.line(1);
        x.tick(2);
        x.send(0, 0);
        x.tick(30);
        x.cut(2);
        x.tick(8);
        check.due("time", x.count(0), 40);
        check.due("kept", x.tree(0, 0, 0, 6), 73);
        check.due("stopped", x.tree(0, 0, 0, 7), 45);
        check.due("but no way to the source", x.count(5), 1);
    }

    /** The second probe is due at 77; kept till 77, or till 78. Another source is kept, too. */
    private static void probeWhileKept() {
        check.says("STOPPED till just TIME and 5, is KEPT");
        for (int late = 0; late < 2; late++) {
            GroveWorks x = Nets.line(1);
            x.host(3, 2);
            x.tick(2);
            x.send(0, 0);
            x.tick(4 + late);
            x.send(0, 0);
            x.tick(40);
            x.send(3, 0);
            x.tick(1);
            check.due("kept", x.tree(0, 0, 0, 6), 77 + late);
            x.tick(29 - late);
            check.due("kept at 76", x.tree(0, 0, 0, 6), 77 + late);
            int tunnels = x.count(5);
            x.tick(1);
            check.due("time", x.count(0), 77);
            check.due("stopped", x.tree(0, 0, 0, 7), 82);
            check.due("a probe at 77 only if it is kept", x.count(5), tunnels + late);
        }
    }

    private static void probesByGroupsAndSources() {
        check.says("TIMERS, last of all, by GROUPS, then SOURCES");
        GroveWorks x = Nets.line(1);
        x.meet(7, 1);
        x.host(9, 2);
        x.tick(2);
        x.send(9, 7);
        x.send(9, 0);
        x.send(0, 7);
        x.send(0, 0);
        x.tick(38);
        int[] groups = {0, 0, 7, 7};
        int[] sources = {0, 9, 0, 9};
        for (int i = 0; i < 4; i++) {
            check.dueFrame("probe " + i, x, 0, i, 9, 0, 1, groups[i], sources[i], 0, 0, 16);
        }
    }
}
