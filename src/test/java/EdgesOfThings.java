/** The bounds of calls, things, ways, wires and ticks (promises 1 to 14 and 19; Terms I and II), one method for each. */
public final class EdgesOfThings {
    private static final int NONE = GroveWorks.NONE;
    private static final int MIN = Integer.MIN_VALUE;
    private static final int MAX = Integer.MAX_VALUE;
    private static final Check check = new Check("EdgesOfThings");

    public static void main(String[] args) {
        things();
        building();
        cuttingAndMending();
        joiningAndSending();
        losingAndTicking();
        asking();
        ways();
        frames();
        fullWires();
        ticks();
        check.end();
    }

    private static void things() {
        routersAreOneToTen();
        nothingIsOnAWireAtFirst();
        timeIsZeroAtFirst();
        portsAreZeroToThree();
        wiresAreZeroToFifteen();
        hostsAreZeroToFifteen();
        groupsAreZeroToSeven();
        meetingPointIsZeroAtFirst();
        costsAreOneToNine();
        objectsShareNothing();
    }

    private static void routersAreOneToTen() {
        check.says("So many ROUTERS, 1 .. 10 (others count as the nearest)");
        int[] asked = {MIN, -10, -1, 0, 1, 2, 9, 10, 11, 12, MAX};
        int[] made = {1, 1, 1, 1, 1, 2, 9, 10, 10, 10, 10};
        for (int i = 0; i < asked.length; i++) {
            GroveWorks x = new GroveWorks(asked[i]);
            check.due("count(7) of " + asked[i], x.count(7), made[i]);
            check.due("its last router", x.plug(made[i] - 1, 0, 0, 1), true);
            check.due("one behind its last", x.plug(made[i], 0, 0, 1), false);
            check.due("the last as a meeting point", x.meet(0, made[i] - 1), true);
            check.due("one behind it", x.meet(0, made[i]), false);
        }
    }

    private static void nothingIsOnAWireAtFirst() {
        check.says("No PORT and HOST is on a WIRE.");
        GroveWorks x = new GroveWorks(10);
        for (int r = 0; r < 10; r++) {
            for (int p = 0; p < 4; p++) {
                check.due("port(" + r + ", " + p + ", 0)", x.port(r, p, 0), NONE);
            }
        }
        for (int h = 0; h < 16; h++) {
            check.due("join(" + h + ", 0)", x.join(h, 0), false);
        }
        check.due("tick(50)", x.tick(50), 50);
        check.due("no frame is sent", x.count(2), 0);
    }

    private static void timeIsZeroAtFirst() {
        check.says("TIME is 0 at first.");
        GroveWorks x = new GroveWorks(1);
        for (int what = 0; what < 7; what++) {
            check.due("count(" + what + ")", x.count(what), 0);
        }
    }

    private static void portsAreZeroToThree() {
        check.says("each with PORTS 0 .. 3");
        GroveWorks x = new GroveWorks(1);
        for (int p : new int[] {MIN, -1, 4, 5, MAX}) {
            check.due("plug(0, " + p + ", 0, 1)", x.plug(0, p, 0, 1), false);
            check.due("port(0, " + p + ", 0)", x.port(0, p, 0), NONE);
            check.due("members(0, " + p + ", 0)", x.members(0, p, 0), NONE);
            check.due("branch(0, " + p + ", 0, 0, 0)", x.branch(0, p, 0, 0, 0), NONE);
        }
        for (int p = 0; p < 4; p++) {
            check.due("plug(0, " + p + ")", x.plug(0, p, p, 1), true);
            check.due("port(0, " + p + ", 0)", x.port(0, p, 0), p);
        }
    }

    private static void wiresAreZeroToFifteen() {
        check.says("WIRES 0 .. 15");
        GroveWorks x = new GroveWorks(1);
        for (int w : new int[] {MIN, -1, 16, 17, MAX}) {
            check.due("plug on " + w, x.plug(0, 0, w, 1), false);
            check.due("host on " + w, x.host(0, w), false);
            check.due("cut(" + w + ")", x.cut(w), false);
            check.due("mend(" + w + ")", x.mend(w), false);
            check.due("lose(" + w + ", 0)", x.lose(w, 0), false);
            check.due("frame(" + w + ", 0, 0)", x.frame(w, 0, 0), -2);
            check.due("way over " + w, x.way(0, true, w, 0), NONE);
        }
        for (int w : new int[] {0, 15}) {
            check.due("cut(" + w + ")", x.cut(w), true);
            check.due("mend(" + w + ")", x.mend(w), true);
            check.due("plug on " + w, x.plug(0, w / 15, w, 1), true);
            check.due("host on " + w, x.host(w, w), true);
            check.due("way over " + w, x.way(0, true, w, 1), w / 15);
            x.join(w, 0);
            check.due("frame(" + w + ", 0, 1)", x.frame(w, 0, 1), 100 + w);
            check.due("lose(" + w + ", 0)", x.lose(w, 0), true);
        }
    }

    private static void hostsAreZeroToFifteen() {
        check.says("HOSTS 0 .. 15");
        GroveWorks x = new GroveWorks(1);
        x.plug(0, 0, 0, 1);
        for (int h = 0; h < 16; h++) {
            check.due("host(" + h + ", 0)", x.host(h, 0), true);
        }
        check.due("join(15, 0)", x.join(15, 0), true);
        check.due("send(15, 0)", x.send(15, 0), 0);
        check.due("got(15, 0)", x.got(15, 0), 0);
        check.due("tree(0, 0, 15, 0)", x.tree(0, 0, 15, 0), 0);
        check.due("branch(0, 0, 0, 15, 0)", x.branch(0, 0, 0, 15, 0), 0);
        check.due("leave(15, 0)", x.leave(15, 0), true);
        for (int h : new int[] {MIN, -1, 16, 17, MAX}) {
            check.due("host(" + h + ", 0)", x.host(h, 0), false);
            check.due("join(" + h + ", 0)", x.join(h, 0), false);
            check.due("leave(" + h + ", 0)", x.leave(h, 0), false);
            check.due("send(" + h + ", 0)", x.send(h, 0), NONE);
            check.due("got(" + h + ", 0)", x.got(h, 0), NONE);
        }
        for (int s : new int[] {MIN, -2, 16, 17, MAX}) {
            check.due("tree(0, 0, " + s + ", 0)", x.tree(0, 0, s, 0), NONE);
            check.due("branch(0, 0, 0, " + s + ", 0)", x.branch(0, 0, 0, s, 0), NONE);
        }
    }

    private static void groupsAreZeroToSeven() {
        check.says("GROUPS 0 .. 7");
        GroveWorks x = new GroveWorks(1);
        x.host(0, 0);
        for (int g = 0; g < 8; g++) {
            check.due("meet(" + g + ", 0)", x.meet(g, 0), true);
            check.due("join(0, " + g + ")", x.join(0, g), true);
            check.due("send(0, " + g + ")", x.send(0, g), g);
            check.due("members(0, 0, " + g + ")", x.members(0, 0, g), 0);
            check.due("branch(0, 0, " + g + ", 0, 0)", x.branch(0, 0, g, 0, 0), 0);
            check.due("tree(0, " + g + ", 0, 0)", x.tree(0, g, 0, 0), 0);
        }
        check.due("leave(0, 7)", x.leave(0, 7), true);
        for (int g : new int[] {MIN, -1, 8, 9, MAX}) {
            check.due("meet(" + g + ", 0)", x.meet(g, 0), false);
            check.due("join(0, " + g + ")", x.join(0, g), false);
            check.due("leave(0, " + g + ")", x.leave(0, g), false);
            check.due("send(0, " + g + ")", x.send(0, g), NONE);
            check.due("members(0, 0, " + g + ")", x.members(0, 0, g), NONE);
            check.due("branch(0, 0, " + g + ", 0, 0)", x.branch(0, 0, g, 0, 0), NONE);
            check.due("tree(0, " + g + ", 0, 0)", x.tree(0, g, 0, 0), NONE);
        }
    }

    private static void meetingPointIsZeroAtFirst() {
        check.says("a MEETING POINT, a ROUTER (0 at first)");
        for (int g = 0; g < 8; g++) {
            GroveWorks x = Nets.net(2, new int[][] {{0, 0, 0}, {1, 0, 0}, {0, 1, 1}, {1, 1, 2}});
            Nets.hosts(x, 1, 2);
            x.join(0, g);
            x.join(1, g);
            x.tick(2);
            check.due("router 0 wants group " + g, x.tree(0, g, NONE, 0), 0);
            check.due("router 1 wants group " + g, x.tree(1, g, NONE, 0), 1);
            check.due("it has joined by router 0", x.tree(1, g, NONE, 1), 0);
        }
    }

    private static void costsAreOneToNine() {
        check.says("with a COST 1 .. 9");
        GroveWorks x = new GroveWorks(2);
        for (int cost : new int[] {MIN, -1, 0, 10, 11, MAX}) {
            check.due("plug(0, 0, 0, " + cost + ")", x.plug(0, 0, 0, cost), false);
        }
        check.due("nothing is put", x.port(0, 0, 1), NONE);
        check.due("plug(0, 0, 0, 1)", x.plug(0, 0, 0, 1), true);
        check.due("plug(1, 0, 0, 9)", x.plug(1, 0, 0, 9), true);
        check.due("port(0, 0, 1)", x.port(0, 0, 1), 1);
        check.due("port(1, 0, 1)", x.port(1, 0, 1), 9);
    }

    private static void objectsShareNothing() {
        check.says("All memory is the class's own.");
        GroveWorks x = Nets.line(1);
        GroveWorks y = Nets.line(1);
        x.join(1, 0);
        x.send(0, 0);
        x.cut(1);
        x.tick(5);
        check.due("time of the other", y.count(0), 0);
        check.due("frames of the other", y.count(2), 0);
        check.due("its wire is up", y.mend(1), false);
        check.due("its host has not joined", y.leave(1, 0), false);
        check.due("its numbers", y.got(1, 0), NONE);
        y.tick(2);
        check.due("its routers", y.port(1, 1, 2), 4);
        check.due("those of the first", x.port(1, 1, 2), 0);
    }

    private static void building() {
        aPortIsPutOnce();
        aRouterHasOnePortOnAWire();
        plugHasItsTime();
        aHostIsPutOnce();
        hostHasItsTime();
        meetHasItsTime();
        meetNeedsARouter();
        portsAndHostsOfCutWires();
    }

    private static void aPortIsPutOnce() {
        check.says("false if there is none such, TIME is not 0, the PORT is on one");
        GroveWorks x = new GroveWorks(2);
        x.plug(0, 0, 3, 4);
        check.due("plug on another wire", x.plug(0, 0, 5, 6), false);
        check.due("plug on the same wire", x.plug(0, 0, 3, 6), false);
        check.due("its wire", x.port(0, 0, 0), 3);
        check.due("its cost", x.port(0, 0, 1), 4);
        check.due("no way to the other wire", x.way(0, true, 5, 0), NONE);
    }

    private static void aRouterHasOnePortOnAWire() {
        check.says("(a ROUTER has one PORT on a WIRE at most)");
        GroveWorks x = new GroveWorks(2);
        x.plug(0, 0, 3, 4);
        check.due("another port there", x.plug(0, 1, 3, 1), false);
        check.due("it is on none", x.port(0, 1, 0), NONE);
        check.due("another router's port there", x.plug(1, 1, 3, 1), true);
        check.due("the port on another wire", x.plug(0, 1, 4, 1), true);
    }

    private static void plugHasItsTime() {
        check.says("PORT p of ROUTER r is put on a WIRE, with a COST: true; false if there is none such, TIME is not 0");
        GroveWorks x = new GroveWorks(1);
        check.due("a tick that is refused", x.tick(51), NONE);
        check.due("plug behind it", x.plug(0, 0, 0, 1), true);
        x.tick(1);
        check.due("plug at time 1", x.plug(0, 1, 1, 1), false);
        check.due("it is on none", x.port(0, 1, 0), NONE);
    }

    private static void aHostIsPutOnce() {
        check.says("a HOST is put on one WIRE");
        GroveWorks x = new GroveWorks(1);
        check.due("host(0, 3)", x.host(0, 3), true);
        check.due("on another", x.host(0, 4), false);
        check.due("on the same", x.host(0, 3), false);
        check.due("another host there", x.host(1, 3), true);
        x.join(0, 0);
        check.due("it speaks on wire 3", x.frame(3, 0, 1), 100);
        check.due("not on wire 4", x.frame(4, 0, 1), -2);
    }

    private static void hostHasItsTime() {
        check.says("A HOST is put on a WIRE: true; false if there is none such, TIME is not 0");
        GroveWorks x = new GroveWorks(1);
        check.due("host at time 0", x.host(0, 0), true);
        x.tick(1);
        check.due("host at time 1", x.host(1, 0), false);
        check.due("it is on none", x.join(1, 0), false);
    }

    private static void meetHasItsTime() {
        check.says("The MEETING POINT of a GROUP: true; false if there is none such, or TIME is not 0.");
        GroveWorks x = Nets.line(0);
        check.due("meet at time 0", x.meet(0, 1), true);
        check.due("meet again", x.meet(0, 2), true);
        x.tick(1);
        check.due("meet at time 1", x.meet(0, 0), false);
        x.join(1, 0);
        x.tick(1);
        check.due("router 2 is the meeting point", x.tree(2, 0, NONE, 0), 0);
        check.due("of members it knows", x.tree(2, 0, NONE, 3), 2);
    }

    private static void meetNeedsARouter() {
        check.says("The MEETING POINT of a GROUP: true; false if there is none such");
        GroveWorks x = Nets.line(1);
        for (int r : new int[] {MIN, -1, 3, 4, 10, MAX}) {
            check.due("meet(0, " + r + ")", x.meet(0, r), false);
        }
        x.join(1, 0);
        x.tick(3);
        check.due("router 1 still is it", x.tree(1, 0, NONE, 3), 2);
        check.due("and wants nothing", x.tree(1, 0, NONE, 0), 0);
    }

    private static void portsAndHostsOfCutWires() {
        check.says("A WIRE is UP (at first) or CUT.");
        GroveWorks x = new GroveWorks(2);
        for (int w = 0; w < 16; w++) {
            check.due("mend(" + w + ") at first", x.mend(w), false);
        }
        x.cut(0);
        check.due("a port on a cut wire", x.plug(0, 0, 0, 1), true);
        check.due("another one", x.plug(1, 0, 0, 1), true);
        check.due("a host on a cut wire", x.host(0, 0), true);
        check.due("no way", x.way(0, false, 1, 0), NONE);
        x.tick(1);
        check.due("nothing is sent", x.count(2), 0);
        x.mend(0);
        check.due("a way", x.way(0, false, 1, 0), 1);
        x.tick(1);
        check.due("two hellos, two queries", x.count(2), 4);
    }

    private static void cuttingAndMending() {
        cutOnce();
        mendOnce();
        cutAtTimeZero();
        cutForgetsWhatWasHeard();
        cutForgetsWhatWasSent();
        cutForgetsWhomItJoined();
        cutForgetsClaims();
        cutKeepsTheRest();
    }

    private static void cutOnce() {
        check.says("A WIRE is CUT: true; false if there is none such, or it is.");
        GroveWorks x = Nets.line(1);
        check.due("cut(0)", x.cut(0), true);
        check.due("cut(0) again", x.cut(0), false);
        check.due("another one", x.cut(1), true);
        x.mend(0);
        check.due("cut(0) behind mend", x.cut(0), true);
    }

    private static void mendOnce() {
        check.says("A WIRE is UP again: true; false if there is none such, or it is.");
        GroveWorks x = Nets.line(1);
        check.due("mend(0) ahead of cut", x.mend(0), false);
        x.cut(0);
        check.due("mend(1)", x.mend(1), false);
        check.due("mend(0)", x.mend(0), true);
        check.due("mend(0) again", x.mend(0), false);
        x.tick(2);
        x.cut(0);
        check.due("mend right behind cut", x.mend(0), true);
        check.due("what was heard is forgotten all the same", x.port(0, 0, 2), 0);
    }

    private static void cutAtTimeZero() {
        check.says("0 if it has none");
        GroveWorks x = Nets.line(1);
        x.cut(0);
        for (int r = 0; r < 2; r++) {
            check.due("members(" + r + ", 0, 0)", x.members(r, 0, 0), 0);
            check.due("branch(" + r + ", 0, 0, -1, 0)", x.branch(r, 0, 0, NONE, 0), 0);
            check.due("branch(" + r + ", 0, 0, 0, 0)", x.branch(r, 0, 0, 0, 0), 0);
            check.due("branch(" + r + ", 0, 0, 0, 1)", x.branch(r, 0, 0, 0, 1), 0);
            check.due("branch(" + r + ", 0, 0, 0, 3)", x.branch(r, 0, 0, 0, 3), NONE);
            check.due("tree(" + r + ", 0, -1, 3)", x.tree(r, 0, NONE, 3), 0);
        }
    }

    private static void cutForgetsWhatWasHeard() {
        check.says("What a PORT has heard is forgotten as its WIRE is CUT: NEIGHBOURS, JOINS, MEMBERS");
        GroveWorks x = Nets.line(0);
        x.join(1, 0);
        x.tick(4);
        check.due("joined", x.branch(1, 1, 0, NONE, 0), 73);
        check.due("neighbours", x.port(1, 1, 2), 4);
        check.due("members", x.members(2, 1, 0), 63);
        x.cut(1);
        check.due("joined for * by a cut wire", x.branch(1, 1, 0, NONE, 0), 0);
        check.due("no base", x.tree(1, 0, NONE, 3), 0);
        check.due("neighbours by a cut wire", x.port(1, 1, 2), 0);
        check.due("those of another port stay", x.port(1, 0, 2), 1);
        check.due("members by another wire", x.members(2, 1, 0), 63);
        x.cut(3);
        check.due("members by a cut wire", x.members(2, 1, 0), 0);
        x.mend(1);
        x.mend(3);
        check.due("mended: not joined", x.branch(1, 1, 0, NONE, 0), 0);
        check.due("mended: no neighbours", x.port(1, 1, 2), 0);
        check.due("mended: no members", x.members(2, 1, 0), 0);
    }

    private static void cutForgetsWhatWasSent() {
        check.says("(also what the ROUTER sent there last: HELLO, QUERY)");
        GroveWorks x = Nets.line(0);
        x.tick(10);
        x.cut(2);
        x.mend(2);
        x.tick(1);
        check.dueFrame("hello at 11", x, 2, 0, 1, 0, NONE, NONE, NONE, 0, 0, 0);
        check.dueFrame("query at 11", x, 2, 1, 2, 0, NONE, NONE, NONE, 0, 0, 0);
        check.due("no other wire", x.frame(0, 0, 0), -2);
        x.tick(10);
        check.due("21: hello on wire 0", x.frame(0, 0, 0), 1);
        check.due("21: none on wire 2", x.frame(2, 0, 0), -2);
        x.tick(10);
        check.due("31: hello on wire 2", x.frame(2, 0, 0), 1);
        check.due("31: no query yet", x.frame(2, 1, 0), -2);
        x.tick(5);
        check.due("36: query on wire 2", x.frame(2, 0, 0), 2);
    }

    private static void cutForgetsWhomItJoined() {
        check.says("and whom it has JOINED by that PORT (no PRUNE)");
        GroveWorks x = Nets.line(0);
        x.join(1, 0);
        x.tick(4);
        check.due("router 2 has joined router 1", x.tree(2, 0, NONE, 1), 1);
        x.cut(1);
        check.due("no more", x.tree(2, 0, NONE, 1), NONE);
        check.due("by no port", x.tree(2, 0, NONE, 2), NONE);
        check.due("router 1 has joined by wire 0", x.tree(1, 0, NONE, 1), 0);
        x.mend(1);
        x.tick(1);
        check.due("no prune on wire 1", Nets.framesOf(x, 1, Nets.PRUNE), 0);
        check.due("router 2 still wants it", x.tree(2, 0, NONE, 0), 1);
        check.due("but knows no neighbour", x.tree(2, 0, NONE, 1), NONE);
        check.due("router 1 wants it no more: a prune on wire 0", Nets.framesOf(x, 0, Nets.PRUNE), 1);
        x.tick(1);
        check.due("router 2 joins anew", x.tree(2, 0, NONE, 1), 1);
    }

    private static void cutForgetsClaims() {
        check.says("cuts, CLAIMS");
        GroveWorks x = Nets.twoToOne(1);
        x.send(0, 0);
        x.tick(4);
        check.due("router 1 keeps a claim", x.branch(1, 1, 0, 0, 3), 2);
        x.cut(1);
        check.due("not of a cut wire", x.branch(1, 1, 0, 0, 3), NONE);
        x.mend(1);
        x.tick(2);
        check.due("router 2 is a neighbour again", x.port(1, 1, 2), 5);
        check.due("its claim is forgotten", x.branch(1, 1, 0, 0, 3), NONE);
        GroveWorks y = Nets.triangle();
        y.tick(2);
        y.join(1, 0);
        y.tick(2);
        y.send(0, 0);
        y.tick(4);
        y.send(0, 0);
        y.tick(3);
        check.due("cut off", y.branch(0, 0, 0, 0, 1), 1);
        y.cut(0);
        check.due("no cuts of a cut wire", y.branch(0, 0, 0, 0, 1), 0);
    }

    private static void cutKeepsTheRest() {
        check.says("STRAIGHT, KEPT, STOPPED stay when a WIRE is CUT.");
        GroveWorks x = Nets.triangle();
        x.tick(2);
        x.join(1, 0);
        x.tick(2);
        x.send(0, 0);
        x.tick(4);
        x.send(0, 0);
        x.tick(3);
        check.due("straight", x.tree(1, 0, 0, 5), 1);
        for (int w = 0; w < 5; w++) {
            x.cut(w);
        }
        check.due("straight stays", x.tree(1, 0, 0, 5), 1);
        check.due("kept stays", x.tree(1, 0, 0, 6), 79);
        check.due("stopped stays", x.tree(1, 0, 0, 7), 51);
        check.due("time", x.count(0), 11);
        x.tick(1);
        check.due("straight ends in the timers", x.tree(1, 0, 0, 5), 0);
        check.due("kept stays, too", x.tree(1, 0, 0, 6), 79);
        check.due("stopped stays, too", x.tree(1, 0, 0, 7), 51);
    }

    private static void joiningAndSending() {
        joinNeedsAWire();
        joinOnce();
        joinOnACutWire();
        leaveNeedsAJoin();
        leaveOnACutWire();
        sendNeedsAWire();
        sendNeedsAWireThatIsUp();
        sendNeedsNoJoin();
        sendFourHundred();
        sendOnAFullWire();
    }

    private static void joinNeedsAWire() {
        check.says("A HOST joins a GROUP: true; false if there is none such, it is on no WIRE");
        GroveWorks x = Nets.line(1);
        check.due("join of a host on no wire", x.join(3, 0), false);
        x.host(3, 3);
        check.due("it has not joined", x.leave(3, 0), false);
        check.due("join of a host on a wire", x.join(3, 0), true);
    }

    private static void joinOnce() {
        check.says("or it has joined");
        GroveWorks x = Nets.line(1);
        check.due("join(1, 0)", x.join(1, 0), true);
        check.due("again", x.join(1, 0), false);
        check.due("no second report", x.count(2), 1);
        check.due("another group", x.join(1, 1), true);
        check.due("another host", x.join(2, 0), true);
        x.leave(1, 0);
        check.due("behind leave", x.join(1, 0), true);
    }

    private static void joinOnACutWire() {
        check.says("(Its REPORT is sent if the WIRE is UP.)");
        GroveWorks x = Nets.line(1);
        x.cut(3);
        check.due("join on a cut wire", x.join(1, 0), true);
        check.due("no frame", x.frame(3, 0, 0), -2);
        check.due("none sent", x.count(2), 0);
        check.due("none lost", x.count(3), 0);
        x.mend(3);
        check.due("it has joined", x.join(1, 0), false);
        x.tick(3);
        check.due("members by the report to the query of 1", x.members(2, 1, 0), 63);
    }

    private static void leaveNeedsAJoin() {
        check.says("A HOST leaves a GROUP: true; false if there is none such, or it has not joined.");
        GroveWorks x = Nets.line(1);
        check.due("leave ahead of join", x.leave(1, 0), false);
        check.due("of a host on no wire", x.leave(5, 0), false);
        x.join(1, 0);
        check.due("another group", x.leave(1, 1), false);
        check.due("another host", x.leave(2, 0), false);
        check.due("one report alone is sent", x.count(2), 1);
        check.due("leave(1, 0)", x.leave(1, 0), true);
        check.due("again", x.leave(1, 0), false);
        check.due("a report and a leave are sent", x.count(2), 2);
    }

    private static void leaveOnACutWire() {
        check.says("Nothing is sent to a WIRE that is CUT (it is not LOST either)");
        GroveWorks x = Nets.line(1);
        x.join(1, 0);
        x.cut(3);
        check.due("leave on a cut wire", x.leave(1, 0), true);
        check.due("nothing is sent", x.count(2), 1);
        check.due("nothing is lost", x.count(3), 0);
        x.mend(3);
        check.due("it has left", x.leave(1, 0), false);
    }

    private static void sendNeedsAWire() {
        check.says("NONE if there is none such, it is on no WIRE");
        GroveWorks x = Nets.line(1);
        check.due("send of a host on no wire", x.send(3, 0), NONE);
        check.due("no number is given", x.count(1), 0);
        check.due("send(0, 0)", x.send(0, 0), 0);
    }

    private static void sendNeedsAWireThatIsUp() {
        check.says("or on one that is CUT");
        GroveWorks x = Nets.line(1);
        x.cut(2);
        check.due("send on a cut wire", x.send(0, 0), NONE);
        check.due("no number is given", x.count(1), 0);
        check.due("nothing is lost", x.count(3), 0);
        check.due("on another wire", x.send(1, 0), 0);
        x.mend(2);
        check.due("on a mended wire", x.send(0, 0), 1);
    }

    private static void sendNeedsNoJoin() {
        check.says("(it need not have joined; LIFE 16): its NUMBER, from 0 on");
        GroveWorks x = Nets.line(1);
        check.due("the first number", x.send(0, 5), 0);
        check.due("the second, of another host and group", x.send(2, 7), 1);
        check.dueFrame("the first", x, 2, 0, 7, 100, NONE, 5, 0, 0, 0, 16);
        check.dueFrame("the second", x, 3, 0, 7, 102, NONE, 7, 2, 1, 0, 16);
    }

    private static void sendFourHundred() {
        check.says("or 400 were");
        GroveWorks x = Nets.line(1);
        for (int i = 0; i < 399; i++) {
            if (i % 40 == 39) {
                x.tick(1);
            }
            x.send(i % 3, i % 8);
        }
        check.due("the last number", x.send(0, 0), 399);
        check.due("400 were", x.send(0, 0), NONE);
        check.due("of another host", x.send(1, 7), NONE);
        check.due("count(1)", x.count(1), 400);
        check.due("got(1, 399)", x.got(1, 399), 0);
        check.due("got(1, 400)", x.got(1, 400), NONE);
        x.tick(1);
        check.due("still", x.send(0, 0), NONE);
    }

    private static void sendOnAFullWire() {
        check.says("send() gives a NUMBER even if its FRAME is LOST.");
        GroveWorks x = Nets.line(1);
        Nets.send(x, 0, 0, 40);
        check.due("the 41st", x.send(0, 0), 40);
        check.due("numbers", x.count(1), 41);
        check.due("sent", x.count(2), 40);
        check.due("lost", x.count(3), 1);
        check.due("got of its number", x.got(1, 40), 0);
        check.due("the next one, on another wire", x.send(1, 0), 41);
    }

    private static void losingAndTicking() {
        loseNeedsAFrame();
        loseMovesTheOthersUp();
        ticksAreOneToFifty();
        timeEndsAtSixThousand();
    }

    private static void loseNeedsAFrame() {
        check.says("FRAME i (from 0 on) that is under way on a WIRE is gone: true; false if there is none such.");
        GroveWorks x = Nets.line(1);
        check.due("of an empty wire", x.lose(3, 0), false);
        x.join(1, 0);
        for (int i : new int[] {MIN, -1, 1, 2, 39, 40, MAX}) {
            check.due("lose(3, " + i + ")", x.lose(3, i), false);
        }
        check.due("of another wire", x.lose(2, 0), false);
        check.due("it is still there", x.frame(3, 0, 0), 3);
        check.due("lose(3, 0)", x.lose(3, 0), true);
        check.due("again", x.lose(3, 0), false);
        check.due("it was sent", x.count(2), 1);
        check.due("it is not lost", x.count(3), 0);
        x.tick(1);
        check.due("it does not come", x.members(2, 1, 0), 0);
        x.join(2, 0);
        x.cut(3);
        check.due("of a cut wire", x.lose(3, 0), false);
    }

    private static void loseMovesTheOthersUp() {
        check.says("FRAME i (from 0 on)");
        GroveWorks x = Nets.line(1);
        for (int g = 0; g < 4; g++) {
            x.join(1, g);
        }
        check.due("the last one", x.lose(3, 3), true);
        check.due("the first one", x.lose(3, 0), true);
        check.due("the second is the first", x.frame(3, 0, 3), 1);
        check.due("the third is the second", x.frame(3, 1, 3), 2);
        check.due("no third", x.frame(3, 2, 3), -2);
        x.join(1, 5);
        check.due("a new one is behind them", x.frame(3, 2, 3), 5);
    }

    private static void ticksAreOneToFifty() {
        check.says("NONE if n is not 1 .. 50");
        GroveWorks x = Nets.line(1);
        for (int n : new int[] {MIN, -50, -1, 0, 51, 52, MAX}) {
            check.due("tick(" + n + ")", x.tick(n), NONE);
        }
        check.due("no time has gone", x.count(0), 0);
        check.due("nothing is sent", x.count(2), 0);
        check.due("tick(1)", x.tick(1), 1);
        check.due("tick(50)", x.tick(50), 51);
    }

    private static void timeEndsAtSixThousand() {
        check.says("or TIME would be above 6000");
        GroveWorks x = Nets.line(1);
        for (int i = 1; i < 120; i++) {
            check.due("tick(50)", x.tick(50), 50 * i);
        }
        check.due("tick(49)", x.tick(49), 5999);
        int sent = x.count(2);
        for (int n : new int[] {2, 3, 50, 51, MAX}) {
            check.due("tick(" + n + ") at 5999", x.tick(n), NONE);
        }
        check.due("time", x.count(0), 5999);
        check.due("nothing is sent", x.count(2), sent);
        check.due("tick(1) at 5999", x.tick(1), 6000);
        check.due("tick(1) at 6000", x.tick(1), NONE);
        check.due("time at the end", x.count(0), 6000);
        check.due("other calls go on", x.send(0, 0), 0);
        GroveWorks y = new GroveWorks(1);
        for (int i = 0; i < 119; i++) {
            y.tick(50);
        }
        check.due("tick(50) at 5950", y.tick(50), 6000);
    }

    private static void asking() {
        gotNeedsAHostAndANumber();
        gotCountsAgain();
        frameNeedsAFrame();
        countNeedsAWhat();
        lostFramesAreNotCounted();
        tunnelsAreCountedOnce();
    }

    private static void gotNeedsAHostAndANumber() {
        check.says("How often DATA of that NUMBER was GOT by a HOST; NONE if there is none such.");
        GroveWorks x = Nets.line(1);
        check.due("no number is given", x.got(0, 0), NONE);
        x.send(0, 0);
        for (int n : new int[] {MIN, -1, 1, 2, 399, 400, MAX}) {
            check.due("got(0, " + n + ")", x.got(0, n), NONE);
        }
        check.due("got(0, 0)", x.got(0, 0), 0);
        check.due("a host on no wire", x.got(15, 0), 0);
    }

    private static void gotCountsAgain() {
        check.says("DATA that comes to one that has joined the GROUP is GOT (again: once more).");
        GroveWorks x = Nets.twoToOne(1);
        x.send(0, 0);
        x.send(0, 1);
        x.tick(3);
        check.due("it came by two routers", x.got(1, 0), 2);
        check.due("of a group that it has not joined", x.got(1, 1), 0);
        check.due("a host that has joined none", x.got(0, 0), 0);
        x.leave(1, 0);
        x.send(1, 0);
        x.send(0, 0);
        x.tick(5);
        check.due("it has left", x.got(1, 3), 0);
        check.due("the other has not", x.got(2, 3) > 0, true);
    }

    private static void frameNeedsAFrame() {
        check.says("-2 if there is none such, or no such what.");
        GroveWorks x = Nets.line(1);
        check.due("of an empty wire", x.frame(3, 0, 0), -2);
        x.join(1, 0);
        for (int i : new int[] {MIN, -1, 1, 2, 39, 40, 41, MAX}) {
            check.due("frame(3, " + i + ", 0)", x.frame(3, i, 0), -2);
        }
        for (int what : new int[] {MIN, -1, 8, 9, MAX}) {
            check.due("frame(3, 0, " + what + ")", x.frame(3, 0, what), -2);
        }
        check.due("frame(3, 0, 7)", x.frame(3, 0, 7), 0);
        check.due("frame(3, 0, 2)", x.frame(3, 0, 2), NONE);
        x.tick(1);
        check.due("what has come is not under way", x.frame(3, 0, 0), 1);
        x.cut(3);
        check.due("of a cut wire", x.frame(3, 0, 0), -2);
    }

    private static void countNeedsAWhat() {
        check.says("NONE for another what.");
        GroveWorks x = Nets.line(1);
        for (int what : new int[] {MIN, -2, -1, 8, 9, MAX}) {
            check.due("count(" + what + ")", x.count(what), NONE);
        }
        check.due("count(0)", x.count(0), 0);
        check.due("count(7)", x.count(7), 3);
    }

    private static void lostFramesAreNotCounted() {
        check.says("4: DATA that ROUTERS sent (likewise), 5: TUNNELS that ROUTERS sent first (EMPTY ones, too; likewise)");
        int[][] plugs = {{0, 0, 0}, {1, 0, 0}, {0, 1, 1}, {0, 2, 2}, {1, 1, 3}};
        GroveWorks x = Nets.hosts(Nets.net(2, plugs), 1, 2, 3);
        x.join(2, 0);
        x.tick(5);
        Nets.send(x, 0, 0, 30);
        Nets.send(x, 1, 0, 30);
        x.tick(1);
        check.due("data of router 0", x.count(4), 40);
        check.due("data that is lost", x.count(3), 20);
        GroveWorks y = Nets.hosts(Nets.net(2, plugs), 1, 2, 3);
        y.meet(0, 1);
        y.tick(5);
        Nets.send(y, 0, 0, 30);
        Nets.send(y, 1, 0, 30);
        y.tick(1);
        check.due("tunnels of router 0", y.count(5), 40);
        check.due("tunnels that are lost", y.count(3), 20);
        check.says("6: CLAIMS sent (likewise)");
        GroveWorks z = Nets.net(3, new int[][] {{0, 0, 1}, {1, 0, 1}, {2, 0, 1}, {0, 1, 0}, {1, 1, 0}, {2, 1, 0}});
        Nets.hosts(z, 1, 0);
        z.join(1, 0);
        Nets.send(z, 0, 0, 13);
        z.tick(1);
        check.due("three bring each", Nets.framesOf(z, 0, Nets.DATA), 39);
        z.tick(1);
        check.due("claims for 39 by two each", z.count(6), 40);
        check.due("under way", Nets.framesOf(z, 0, Nets.CLAIM), 40);
    }

    private static void tunnelsAreCountedOnce() {
        check.says("2: FRAMES sent (LOST ones not counted), 3: FRAMES LOST");
        GroveWorks x = Nets.line(2);
        x.tick(2);
        int sent = x.count(2);
        x.send(0, 0);
        check.due("data of the host", x.count(2), sent + 1);
        check.due("none by routers", x.count(4), 0);
        x.tick(1);
        check.due("a tunnel", x.count(5), 1);
        check.due("a frame", x.count(2), sent + 2);
        x.tick(1);
        check.due("it goes on: none sent first", x.count(5), 1);
        check.due("but a frame", x.count(2), sent + 3);
        x.lose(1, 0);
        check.due("what is gone was sent", x.count(2), sent + 3);
        check.due("and is not lost", x.count(3), 0);
    }

    private static void ways() {
        distanceToItself();
        distanceToAWire();
        costsOfThePortsThatAreGoneBy();
        theLeastSum();
        theLeastPort();
        theLeastRouter();
        noDistanceToACutWire();
        noWayWithoutDistance();
        waysOfThisMoment();
        wayNeedsATarget();
        sourceWithoutAWire();
    }

    private static void distanceToItself() {
        check.says("nor from a ROUTER to itself");
        GroveWorks x = Nets.line(1);
        check.due("distance to itself", x.way(1, false, 1, 0), 0);
        check.due("port to itself", x.way(1, false, 1, 1), NONE);
        check.due("router to itself", x.way(1, false, 1, 2), NONE);
        check.due("on no wire", new GroveWorks(2).way(1, false, 1, 0), 0);
        check.due("to another on no wire", new GroveWorks(2).way(1, false, 0, 0), NONE);
    }

    private static void distanceToAWire() {
        check.says("(0 if that is the ROUTER itself)");
        GroveWorks x = new GroveWorks(2);
        x.plug(0, 3, 15, 9);
        check.due("distance to its own wire", x.way(0, true, 15, 0), 0);
        check.says("the WAY to a WIRE on which the ROUTER has a PORT is that PORT, without a ROUTER (it is DIRECT)");
        check.due("port", x.way(0, true, 15, 1), 3);
        check.due("router", x.way(0, true, 15, 2), NONE);
        x.plug(1, 0, 15, 1);
        check.due("port beside another router", x.way(0, true, 15, 1), 3);
        check.due("router beside another", x.way(0, true, 15, 2), NONE);
        check.due("a wire without routers", x.way(0, true, 14, 0), NONE);
        check.due("no port to it", x.way(0, true, 14, 1), NONE);
    }

    private static void costsOfThePortsThatAreGoneBy() {
        check.says("the least sum of COSTS of PORTS by which one goes over WIRES that are UP");
        GroveWorks x = new GroveWorks(3);
        x.plug(0, 0, 0, 2);
        x.plug(1, 0, 0, 3);
        x.plug(1, 1, 1, 4);
        x.plug(2, 0, 1, 9);
        x.plug(2, 1, 2, 9);
        check.due("there", x.way(0, false, 2, 0), 6);
        check.due("back", x.way(2, false, 0, 0), 12);
        check.due("to its wire: no cost of the last port", x.way(0, true, 2, 0), 6);
        check.due("to the wire between", x.way(0, true, 1, 0), 2);
        GroveWorks y = new GroveWorks(10);
        for (int r = 0; r < 9; r++) {
            y.plug(r, 0, r, 9);
            y.plug(r + 1, 1, r, 9);
        }
        check.due("the farthest", y.way(0, false, 9, 0), 81);
    }

    private static void theLeastSum() {
        check.says("the one of the least sum of the PORT's COST and that ROUTER's DISTANCE");
        GroveWorks x = new GroveWorks(3);
        x.plug(0, 0, 0, 5);
        x.plug(2, 0, 0, 1);
        x.plug(0, 1, 1, 2);
        x.plug(1, 0, 1, 1);
        x.plug(1, 1, 2, 2);
        x.plug(2, 1, 2, 1);
        check.due("two steps are nearer", x.way(0, false, 2, 0), 4);
        check.due("by port 1", x.way(0, false, 2, 1), 1);
        check.due("and router 1", x.way(0, false, 2, 2), 1);
        x.cut(1);
        check.due("one step is left", x.way(0, false, 2, 0), 5);
        check.due("by port 0", x.way(0, false, 2, 1), 0);
    }

    private static void theLeastPort() {
        check.says("then of the least PORT");
        GroveWorks x = new GroveWorks(4);
        x.plug(0, 2, 0, 1);
        x.plug(1, 0, 0, 1);
        x.plug(0, 1, 1, 1);
        x.plug(3, 0, 1, 1);
        x.plug(1, 1, 2, 1);
        x.plug(2, 0, 2, 1);
        x.plug(3, 1, 2, 1);
        check.due("distance", x.way(0, false, 2, 0), 2);
        check.due("port 1 is the least", x.way(0, false, 2, 1), 1);
        check.due("though its router is greater", x.way(0, false, 2, 2), 3);
        check.due("to the wire as well", x.way(0, true, 2, 1), 1);
    }

    private static void theLeastRouter() {
        check.says("then of the least ROUTER");
        GroveWorks x = new GroveWorks(4);
        x.plug(0, 0, 0, 1);
        x.plug(3, 0, 0, 1);
        x.plug(2, 0, 0, 1);
        x.plug(3, 1, 1, 1);
        x.plug(2, 1, 1, 1);
        x.plug(1, 0, 1, 1);
        check.due("of 2 and 3", x.way(0, false, 1, 2), 2);
        check.due("to the wire as well", x.way(0, true, 1, 2), 2);
        check.due("router 2 goes itself", x.way(2, false, 1, 2), 1);
    }

    private static void noDistanceToACutWire() {
        check.says("There is no DISTANCE to a WIRE that is CUT");
        GroveWorks x = Nets.line(1);
        x.cut(2);
        for (int r = 0; r < 3; r++) {
            for (int what = 0; what < 3; what++) {
                check.due("way(" + r + ", true, 2, " + what + ")", x.way(r, true, 2, what), NONE);
            }
        }
        check.due("others are as they were", x.way(0, true, 3, 0), 2);
    }

    private static void noWayWithoutDistance() {
        check.says("and no WAY where there is no DISTANCE");
        GroveWorks x = Nets.line(1);
        x.cut(0);
        for (int what = 0; what < 3; what++) {
            check.due("way(0, false, 2, " + what + ")", x.way(0, false, 2, what), NONE);
            check.due("way(0, true, 3, " + what + ")", x.way(0, true, 3, what), NONE);
        }
    }

    private static void waysOfThisMoment() {
        check.says("All this is by the WIRES as they are at that moment.");
        GroveWorks x = Nets.triangle();
        check.due("at first", x.way(0, false, 2, 0), 1);
        x.cut(0);
        check.due("right behind cut", x.way(0, false, 2, 0), 2);
        check.due("its port", x.way(0, false, 2, 1), 1);
        x.mend(0);
        check.due("right behind mend", x.way(0, false, 2, 0), 1);
        GroveWorks y = new GroveWorks(2);
        y.plug(0, 0, 0, 1);
        check.due("ahead of plug", y.way(0, false, 1, 0), NONE);
        y.plug(1, 0, 0, 1);
        check.due("right behind plug", y.way(0, false, 1, 0), 1);
    }

    private static void wayNeedsATarget() {
        check.says("NONE where there is none.");
        GroveWorks x = Nets.line(1);
        for (int r : new int[] {MIN, -1, 3, 10, MAX}) {
            check.due("way(" + r + ", false, 0, 0)", x.way(r, false, 0, 0), NONE);
            check.due("way(0, false, " + r + ", 0)", x.way(0, false, r, 0), NONE);
            check.due("way(" + r + ", true, 0, 0)", x.way(r, true, 0, 0), NONE);
        }
        for (int what : new int[] {MIN, -1, 3, MAX}) {
            check.due("way(0, false, 2, " + what + ")", x.way(0, false, 2, what), NONE);
            check.due("way(0, true, 3, " + what + ")", x.way(0, true, 3, what), NONE);
        }
        check.due("a wire's number is none of a router", x.way(0, true, 3, 0), 2);
        check.due("router 3 is none", x.way(0, false, 3, 0), NONE);
    }

    private static void sourceWithoutAWire() {
        check.says("ways to it are those to its WIRE (none without one)");
        GroveWorks x = Nets.net(2, new int[][] {{0, 0, 0}, {1, 0, 0}, {1, 1, 1}});
        x.host(1, 1);
        x.join(1, 0);
        x.tick(3);
        int[] due = {0, NONE, NONE, 2, 2, 0, 0, 0};
        for (int what = 0; what < 8; what++) {
            check.due("tree(1, 0, 9, " + what + ")", x.tree(1, 0, 9, what), due[what]);
        }
        x.tick(50);
        check.due("nobody joins it", x.tree(1, 0, 9, 1), NONE);
        check.due("it is not cut off", x.tree(1, 0, NONE, 4), 0);
    }

    private static void frames() {
        aSenderHearsNothing();
        whatIsNotTold();
        whatIsUnderWayIsGone();
        framesComeInOrder();
    }

    private static void aSenderHearsNothing() {
        check.says("but its sender");
        for (int h = 1; h < 16; h += 7) {
            GroveWorks x = Nets.net(1, new int[][] {{0, 0, 0}});
            x.host(0, 0);
            x.host(h, 0);
            x.join(0, 0);
            x.join(h, 0);
            x.send(h, 0);
            x.tick(1);
            check.due("the host that sent it, " + h, x.got(h, 0), 0);
            check.due("the other one", x.got(0, 0), 1);
        }
        GroveWorks y = Nets.net(1, new int[][] {{0, 0, 0}});
        y.tick(2);
        check.due("a router is not its own neighbour", y.port(0, 0, 2), 0);
    }

    /** Wires use frames again: at each time up to 64 none may show what an earlier one told. */
    private static void whatIsNotTold() {
        check.says("(what is not told is NONE for TO, GROUP, SOURCE and 0 for the others)");
        int[] seen = new int[11];
        for (int end = 1; end <= 64; end++) {
            GroveWorks x = lively(end);
            for (int w = 0; w < 5; w++) {
                for (int i = 0; x.frame(w, i, 0) != -2; i++) {
                    int kind = x.frame(w, i, 0);
                    seen[kind]++;
                    checkDefaults(x, w, i, kind);
                }
            }
        }
        for (int kind = 1; kind <= 10; kind++) {
            check.due("frames of kind " + kind + " were seen", seen[kind] > 0, true);
        }
    }

    /** Routers 1, 2, 4 hang on 3, the meeting point, by wire 0; 1 and 2 lead to wire 1 and router 0, 4 to the source. */
    private static GroveWorks lively(int end) {
        GroveWorks x = Nets.net(5, new int[][] {
            {3, 0, 0}, {1, 0, 0}, {1, 1, 1}, {2, 0, 0}, {2, 1, 1}, {0, 0, 1}, {0, 1, 2}, {4, 0, 0}, {4, 1, 4},
        });
        x.meet(0, 3);
        Nets.hosts(x, 4, 1, 2);
        for (int t = 0; t <= end; t++) {
            if (t == 2) {
                x.join(1, 0);
                x.join(2, 0);
            } else if (t == 36) {
                x.leave(2, 0);
                x.leave(1, 0);
            } else if (t > 4 && t % 3 != 0) {
                x.send(0, 0);
            }
            if (t < end) {
                x.tick(1);
            }
        }
        return x;
    }

    private static void checkDefaults(GroveWorks x, int w, int i, int kind) {
        String name = "kind " + kind + " frame(" + w + ", " + i + ", ";
        boolean hasTo = kind == Nets.JOIN || kind == Nets.PRUNE || kind >= Nets.TUNNEL;
        boolean hasGroup = kind != Nets.HELLO && kind != Nets.QUERY;
        boolean hasNumber = kind >= Nets.DATA && kind <= Nets.TUNNEL;
        boolean hasBits = kind >= Nets.TUNNEL || (kind == Nets.JOIN && x.frame(w, i, 4) == NONE);
        boolean hasLife = kind == Nets.DATA || kind >= Nets.TUNNEL;
        check.due(name + "2) is none", x.frame(w, i, 2) == NONE, !hasTo);
        if (kind != Nets.QUERY) {
            check.due(name + "3) is none", x.frame(w, i, 3) == NONE, !hasGroup);
        }
        if (kind < Nets.JOIN) {
            check.due(name + "4)", x.frame(w, i, 4), NONE);
        }
        if (!hasNumber) {
            check.due(name + "5)", x.frame(w, i, 5), 0);
        }
        if (!hasBits) {
            check.due(name + "6)", x.frame(w, i, 6), 0);
        }
        check.due(name + "7) is 0", x.frame(w, i, 7) == 0, !hasLife);
    }

    private static void whatIsUnderWayIsGone() {
        check.says("what is under way as it is CUT is gone");
        GroveWorks x = Nets.line(1);
        x.tick(2);
        x.join(1, 0);
        x.send(1, 0);
        x.cut(3);
        check.due("no frame", x.frame(3, 0, 0), -2);
        x.mend(3);
        check.due("not behind mend either", x.frame(3, 0, 0), -2);
        x.tick(1);
        check.due("it does not come", x.members(2, 1, 0), 0);
        check.due("no tunnel for it", x.count(5), 0);
    }

    private static void framesComeInOrder() {
        check.says("is under way there, behind those that are");
        GroveWorks x = Nets.line(1);
        x.join(1, 0);
        x.leave(1, 0);
        x.join(2, 1);
        x.send(1, 0);
        check.due("first", x.frame(3, 0, 0), 3);
        check.due("second", x.frame(3, 1, 0), 4);
        check.due("third", x.frame(3, 2, 1), 102);
        check.due("fourth", x.frame(3, 3, 0), 7);
        x.tick(1);
        check.due("the leave came behind the report", x.members(2, 1, 0), 5);
        GroveWorks y = Nets.line(1);
        y.join(1, 0);
        y.leave(1, 0);
        y.join(1, 0);
        y.tick(1);
        check.due("a report came behind the leave", y.members(2, 1, 0), 61);
    }

    private static void fullWires() {
        fortyFrames();
        goneFramesCount();
        framesOfTheTickCount();
        eachWireHasItsOwnRoom();
        cutWiresLoseNothing();
    }

    private static void fortyFrames() {
        check.says("At most 40 FRAMES that were sent between the (1) of one TICK and that of the next");
        GroveWorks x = Nets.line(0);
        Nets.send(x, 0, 0, 39);
        check.due("39 are under way", x.frame(2, 38, 5), 38);
        x.join(0, 0);
        check.due("the 40th", x.frame(2, 39, 0), 3);
        check.due("none is lost", x.count(3), 0);
        check.due("leave", x.leave(0, 0), true);
        check.due("its frame is lost", x.count(3), 1);
        check.due("and not under way", x.frame(2, 40, 0), -2);
        check.due("and not sent", x.count(2), 40);
        x.tick(1);
        check.due("hello and query find room behind (1)", x.frame(2, 1, 0), 2);
        Nets.send(x, 0, 0, 38);
        check.due("38 more do", x.count(3), 1);
        x.send(0, 0);
        check.due("not the 39th", x.count(3), 2);
    }

    private static void goneFramesCount() {
        check.says("(those that are gone count, too): more are LOST");
        GroveWorks x = Nets.line(1);
        Nets.send(x, 0, 0, 40);
        check.due("lose(2, 39)", x.lose(2, 39), true);
        check.due("lose(2, 0)", x.lose(2, 0), true);
        x.send(0, 0);
        check.due("lost all the same", x.count(3), 1);
        check.due("38 are under way", x.frame(2, 38, 0), -2);
        x.cut(2);
        x.mend(2);
        x.send(0, 0);
        check.due("behind a cut, too", x.count(3), 2);
        check.due("none is under way", x.frame(2, 0, 0), -2);
        x.tick(1);
        x.send(0, 0);
        check.due("not in the next tick", x.count(3), 2);
    }

    private static void framesOfTheTickCount() {
        check.says("between the (1) of one TICK and that of the next are under way on a WIRE");
        GroveWorks x = Nets.line(0);
        x.join(1, 0);
        x.tick(20);
        Nets.send(x, 0, 0, 40);
        x.tick(1);
        check.due("40 data in (1)", Nets.framesOf(x, 0, Nets.DATA), 40);
        check.due("the hellos of (2) are lost", x.count(3), 2);
        check.due("not on wire 1", x.frame(1, 0, 0), 1);
        x.tick(1);
        check.due("40 data go on", Nets.framesOf(x, 1, Nets.DATA), 40);
        check.due("the join that is due at 22 is lost", x.count(3), 3);
    }

    private static void eachWireHasItsOwnRoom() {
        check.says("are under way on a WIRE");
        GroveWorks x = Nets.line(1);
        Nets.send(x, 0, 0, 41);
        Nets.send(x, 1, 0, 40);
        check.due("one is lost", x.count(3), 1);
        check.due("80 are sent", x.count(2), 80);
    }

    private static void cutWiresLoseNothing() {
        check.says("Nothing is sent to a WIRE that is CUT");
        GroveWorks x = Nets.line(1);
        x.tick(2);
        for (int w = 0; w < 16; w++) {
            x.cut(w);
        }
        int sent = x.count(2);
        x.tick(50);
        x.join(1, 0);
        x.leave(1, 0);
        check.due("nothing is sent", x.count(2), sent);
        check.due("nothing is lost", x.count(3), 0);
    }

    private static void ticks() {
        wiresByNumbers();
        framesWaitForTheNextTick();
        routersByNumbers();
        hostsByNumbers();
        manyTicksAtOnce();
    }

    /** A report and data come in the same tick: the data goes to the members' wire only if that comes first. */
    private static void wiresByNumbers() {
        check.says("(1) WIRES by numbers; of each the FRAMES that were under way as the TICK began, in order");
        for (int members : new int[] {1, 4, 6, 9}) {
            GroveWorks x = Nets.hosts(Nets.net(1, new int[][] {{0, 0, members}, {0, 1, 5}}), 5, members);
            x.tick(2);
            x.join(1, 0);
            x.send(0, 0);
            x.tick(1);
            check.due("members on wire " + members, x.members(0, 0, 0), 63);
            check.due("data to wire " + members, Nets.framesOf(x, members, Nets.DATA), members < 5 ? 1 : 0);
        }
        check.says("each comes to all that hear it, and each does at once what is told");
        for (int late = 0; late < 2; late++) {
            GroveWorks x = Nets.hosts(Nets.net(1, new int[][] {{0, 0, 0}}), 0, 0);
            x.tick(2);
            x.send(0, 0);
            x.join(1, 0);
            Nets.send(x, 0, 0, late);
            x.tick(1);
            check.due("wanted by data behind the report alone", x.tree(0, 0, 0, 5), late);
        }
    }

    private static void framesWaitForTheNextTick() {
        check.says("What is sent is behind these, for the next TICK.");
        GroveWorks x = Nets.net(1, new int[][] {{0, 0, 5}, {0, 1, 1}, {0, 2, 9}});
        Nets.hosts(x, 5, 1, 9);
        x.join(1, 0);
        x.join(2, 0);
        x.tick(1);
        x.send(0, 0);
        x.tick(1);
        check.due("not yet by wire 1", x.got(1, 0), 0);
        check.due("nor by wire 9", x.got(2, 0), 0);
        check.due("under way on wire 1", Nets.framesOf(x, 1, Nets.DATA), 1);
        check.due("under way on wire 9", Nets.framesOf(x, 9, Nets.DATA), 1);
        x.tick(1);
        check.due("got by wire 1", x.got(1, 0), 1);
        check.due("got by wire 9", x.got(2, 0), 1);
    }

    private static void routersByNumbers() {
        check.says("(2) ROUTERS by numbers do their TIMERS, in the order in which they are told here");
        GroveWorks x = Nets.net(10, new int[][] {{9, 0, 0}, {4, 1, 0}, {0, 2, 0}});
        x.tick(1);
        int[] senders = {0, 0, 4, 4, 9, 9};
        for (int i = 0; i < 6; i++) {
            check.due("sender of frame " + i, x.frame(0, i, 1), senders[i]);
            check.due("kind of frame " + i, x.frame(0, i, 0), 1 + i % 2);
        }
    }

    private static void hostsByNumbers() {
        check.says("(3) HOSTS by numbers.");
        GroveWorks x = Nets.net(1, new int[][] {{0, 0, 0}});
        x.host(15, 0);
        x.host(7, 0);
        x.host(0, 0);
        for (int h : new int[] {15, 7, 0}) {
            x.join(h, 1);
            x.join(h, 0);
        }
        x.tick(2);
        int[] senders = {100, 100, 107, 107, 115, 115};
        for (int i = 0; i < 6; i++) {
            check.due("sender of report " + i, x.frame(0, i, 1), senders[i]);
            check.due("group of report " + i, x.frame(0, i, 3), i % 2);
        }
    }

    private static void manyTicksAtOnce() {
        check.says("n TICKS: TIME");
        GroveWorks x = Nets.triangle();
        GroveWorks y = Nets.triangle();
        x.join(1, 0);
        y.join(1, 0);
        x.send(0, 0);
        y.send(0, 0);
        x.tick(50);
        for (int i = 0; i < 50; i++) {
            y.tick(1);
        }
        for (int what = 0; what < 8; what++) {
            check.due("count(" + what + ")", x.count(what), y.count(what));
        }
        for (int r = 0; r < 3; r++) {
            for (int what = 0; what < 8; what++) {
                check.due("tree(" + r + ", 0, 0, " + what + ")", x.tree(r, 0, 0, what), y.tree(r, 0, 0, what));
            }
        }
    }
}
