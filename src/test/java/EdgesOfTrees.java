/** The bounds of joins, cuts, prunes and claims (promises 17 and 18; Terms IV), one method for each. */
public final class EdgesOfTrees {
    private static final int NONE = GroveWorks.NONE;
    private static final int MIN = Integer.MIN_VALUE;
    private static final int MAX = Integer.MAX_VALUE;
    private static final Check check = new Check("EdgesOfTrees");

    public static void main(String[] args) {
        joins();
        cutOffs();
        prunes();
        claims();
        wantsAndUps();
        timers();
        overheard();
        questions();
        check.end();
    }

    private static void joins() {
        joinForSeventy();
        joinIsForOneRouter();
        joinIsForOneTree();
        greatestNumbers();
    }

    private static void joinForSeventy() {
        check.says("p is JOINED for x till TIME and 70");
        GroveWorks x = Nets.line(0);
        x.tick(2);
        x.join(1, 0);
        x.tick(1);
        check.due("sent is not heard", x.branch(1, 1, 0, NONE, 0), 0);
        x.tick(1);
        check.due("heard at 4", x.branch(1, 1, 0, NONE, 0), 74);
        x.tick(19);
        for (int i = 0; i < 3; i++) {
            check.due("a join goes", Nets.drop(x, 1, Nets.JOIN, 2), 1);
            x.tick(i < 2 ? 20 : 10);
        }
        check.says("(Till a TIME: while TIME is less.");
        check.due("at 73", x.branch(1, 1, 0, NONE, 0), 74);
        check.due("base at 73", x.tree(1, 0, NONE, 3), 2);
        x.tick(1);
        check.due("at 74", x.branch(1, 1, 0, NONE, 0), 0);
        check.due("base at 74", x.tree(1, 0, NONE, 3), 0);
    }

    private static void joinIsForOneRouter() {
        check.says("that comes to PORT p and is TO r");
        GroveWorks x = Nets.fork();
        x.tick(2);
        x.join(0, 0);
        x.tick(2);
        check.due("router 2, to which it is", x.branch(2, 0, 0, NONE, 0), 74);
        check.due("router 1, which hears it, too", x.branch(1, 0, 0, NONE, 0), 0);
        check.due("another port of router 2", x.branch(2, 1, 0, NONE, 0), 0);
    }

    private static void joinIsForOneTree() {
        check.says("SOURCE s, or NONE for *");
        GroveWorks x = Nets.triangle();
        Nets.playTriangle(x);
        check.due("for the source at router 1", x.branch(1, 0, 0, 0, 0), 78);
        check.due("not for *", x.branch(1, 0, 0, NONE, 0), 0);
        check.due("not for another source", x.branch(1, 0, 0, 1, 0), 0);
        check.due("not for another group", x.branch(1, 0, 1, 0, 0), 0);
        check.due("for * at router 0", x.branch(0, 0, 0, NONE, 0), 74);
        check.due("not for the source", x.branch(0, 0, 0, 0, 0), 0);
    }

    /** Group 7 and source 15 have the last place of every row. */
    private static void greatestNumbers() {
        check.says("BITS: the SOURCES that are CUT OFF, bit s");
        GroveWorks x = Nets.net(3, new int[][] {
            {0, 0, 15}, {0, 3, 2}, {1, 0, 1}, {1, 1, 2}, {1, 2, 3}, {2, 0, 15}, {2, 1, 1}, {2, 3, 4},
        });
        x.host(15, 3);
        x.host(14, 4);
        x.tick(2);
        x.join(14, 7);
        x.tick(2);
        x.send(15, 7);
        x.tick(4);
        x.send(15, 7);
        x.tick(2);
        check.due("what router 2 tells", x.tree(2, 7, NONE, 4), 1 << 15);
        check.due("its join", x.frame(15, 1, 6), 1 << 15);
        x.tick(1);
        check.due("cut off", x.branch(0, 0, 7, 15, 1), 1);
        check.due("not another source", x.branch(0, 0, 7, 14, 1), 0);
        check.due("straight", x.tree(2, 7, 15, 5), 1);
        check.due("got", x.got(14, 1), 1);
        GroveWorks y = Nets.net(4, new int[][] {
            {3, 0, 0}, {3, 1, 3}, {1, 0, 0}, {1, 1, 1}, {2, 0, 0}, {2, 3, 1}, {0, 0, 1}, {0, 1, 2},
        });
        y.meet(7, 3);
        y.host(15, 3);
        y.host(1, 1);
        y.host(2, 2);
        y.tick(2);
        y.join(1, 7);
        y.join(2, 7);
        y.tick(4);
        y.send(15, 7);
        y.tick(4);
        check.due("router 1 has lost", y.branch(1, 1, 7, 15, 2), 1);
        check.due("router 2 keeps its claim", y.branch(2, 3, 7, 15, 3), 1);
        check.due("none of another source", y.branch(2, 3, 7, 14, 3), NONE);
        check.due("none of another group", y.branch(2, 3, 6, 15, 3), NONE);
    }

    private static void cutOffs() {
        cutOffAtOnce();
        cutOffInThree();
        cutOffToldAgain();
        cutOffToldAgainWhileItWaits();
        cutOffNoMore();
        cutOffLapses();
    }

    private static void cutOffAtOnce() {
        check.says("will be CUT OFF there from TIME on");
        GroveWorks x = Nets.triangle();
        Nets.playTriangle(x);
        check.due("told at 10", x.tree(2, 0, NONE, 4), 1);
        check.due("not heard yet", x.branch(0, 0, 0, 0, 1), 0);
        check.due("one neighbour", x.port(0, 0, 2), 4);
        x.tick(1);
        check.due("cut off at 11", x.branch(0, 0, 0, 0, 1), 1);
        check.due("not another source", x.branch(0, 0, 0, 1, 1), 0);
        check.due("not in another group", x.branch(0, 0, 1, 0, 1), 0);
        check.due("not shared", x.tree(0, 0, 0, 4), 0);
        check.due("still base", x.tree(0, 0, NONE, 3), 1);
        check.due("shared of another source", x.tree(0, 0, 1, 4), 1);
    }

    private static void cutOffInThree() {
        check.says("or, if p has two NEIGHBOURS or more, from TIME and 3 on");
        GroveWorks x = Nets.triangleOfFour();
        Nets.playTriangle(x);
        check.due("two neighbours", x.port(0, 0, 2), 12);
        for (int t = 11; t < 14; t++) {
            x.tick(1);
            check.due("not cut off at " + t, x.branch(0, 0, 0, 0, 1), 0);
            check.due("shared at " + t, x.tree(0, 0, 0, 4), 1);
        }
        x.tick(1);
        check.due("cut off at 14", x.branch(0, 0, 0, 0, 1), 1);
        check.due("not shared at 14", x.tree(0, 0, 0, 4), 0);
    }

    private static void cutOffToldAgain() {
        check.says("and was not told so by the JOINS there (of *) one behind the other up to now");
        GroveWorks x = Nets.triangleOfFour();
        Nets.playTriangle(x);
        x.tick(19);
        check.due("no join at 29", Nets.framesOf(x, 0, Nets.JOIN), 0);
        x.tick(1);
        check.due("told again at 30", x.frame(0, Nets.find(x, 0, Nets.JOIN), 6), 1);
        x.tick(1);
        check.due("cut off at 31: it does not wait again", x.branch(0, 0, 0, 0, 1), 1);
    }

    /** Router 3 leaves at 11: its prune makes router 2 tell its join again at 12. Router 3's own objection goes. */
    private static void cutOffToldAgainWhileItWaits() {
        check.says("JOINS that are sent again, for what was heard, are r's last ones, sent now");
        GroveWorks x = Nets.triangleOfFour();
        x.tick(2);
        x.join(1, 0);
        x.join(2, 0);
        x.tick(2);
        x.send(0, 0);
        x.tick(2);
        x.leave(2, 0);
        x.tick(2);
        x.send(0, 0);
        x.tick(2);
        check.due("told at 10", x.tree(2, 0, NONE, 4), 1);
        x.tick(1);
        check.due("router 3 objects, then prunes", Nets.drop(x, 0, Nets.JOIN, 3), 1);
        check.due("it has pruned", x.tree(3, 0, NONE, 1), NONE);
        x.tick(1);
        check.due("for 3 ticks", x.branch(0, 0, 0, NONE, 0), 15);
        int again = Nets.find(x, 0, Nets.JOIN);
        check.dueFrame("router 2 tells it again", x, 0, again, 5, 2, 0, 0, NONE, 0, 1, 0);
        x.tick(1);
        check.due("joined again at 13", x.branch(0, 0, 0, NONE, 0), 83);
        check.due("not cut off at 13", x.branch(0, 0, 0, 0, 1), 0);
        x.tick(1);
        check.due("cut off at 14, as was told first", x.branch(0, 0, 0, 0, 1), 1);
        check.due("no join of router 2 at 31", x.tick(17), 31);
        check.due("it was sent last at 12", Nets.framesOf(x, 0, Nets.JOIN), 0);
        x.tick(1);
        check.due("so the next one is at 32", Nets.framesOf(x, 0, Nets.JOIN), 1);
    }

    private static void cutOffNoMore() {
        check.says("each s that is not in BITS is cut off there no more");
        GroveWorks x = Nets.triangle();
        Nets.playTriangle(x);
        x.tick(1);
        check.due("cut off", x.branch(0, 0, 0, 0, 1), 1);
        x.cut(1);
        x.tick(1);
        check.due("still, as its join is under way", x.branch(0, 0, 0, 0, 1), 1);
        check.due("a join without bits", x.frame(0, Nets.find(x, 0, Nets.JOIN), 6), 0);
        x.tick(1);
        check.due("cut off no more", x.branch(0, 0, 0, 0, 1), 0);
        check.due("shared", x.tree(0, 0, 0, 4), 1);
    }

    /** All joins of * of router 2 go, but the one of 10 and that of 90. */
    private static void cutOffLapses() {
        check.says("A JOIN of * that lapsed: nothing is cut off there any more.");
        GroveWorks x = Nets.triangleOfFour();
        Nets.playTriangle(x);
        x.tick(20);
        for (int t = 30; t < 90; t += 20) {
            check.due("a join goes at " + t, Nets.drop(x, 0, Nets.JOIN, 2), 1);
            x.send(0, 0);
            x.tick(t == 70 ? 10 : 20);
        }
        check.due("cut off at 80", x.branch(0, 0, 0, 0, 1), 1);
        x.tick(1);
        check.due("not joined at 81", x.branch(0, 0, 0, NONE, 0), 0);
        check.due("nothing is cut off at 81", x.branch(0, 0, 0, 0, 1), 0);
        check.says("A JOIN of * that comes when p is not JOINED for *: all of its BITS are told for the first time.");
        x.tick(9);
        check.due("a join with bits at 90", x.frame(0, Nets.find(x, 0, Nets.JOIN), 6), 1);
        x.tick(1);
        check.due("joined at 91", x.branch(0, 0, 0, NONE, 0), 161);
        check.due("not cut off at 91", x.branch(0, 0, 0, 0, 1), 0);
        x.tick(2);
        check.due("not cut off at 93", x.branch(0, 0, 0, 0, 1), 0);
        x.tick(1);
        check.due("cut off at 94", x.branch(0, 0, 0, 0, 1), 1);
    }

    private static void prunes() {
        pruneAtOnce();
        pruneInThree();
        pruneThatIsLater();
        pruneOfWhatIsNotJoined();
        pruneIsForOneTree();
    }

    private static void pruneAtOnce() {
        check.says("if p is JOINED for x: till TIME");
        GroveWorks x = Nets.line(0);
        x.join(1, 0);
        x.tick(5);
        x.leave(1, 0);
        x.tick(5);
        check.dueFrame("a prune at 10", x, 1, 0, 6, 2, 1, 0, NONE, 0, 0, 0);
        check.due("not heard yet", x.branch(1, 1, 0, NONE, 0), 73);
        x.tick(1);
        check.due("not joined at 11", x.branch(1, 1, 0, NONE, 0), 0);
        check.due("no base", x.tree(1, 0, NONE, 3), 0);
        check.due("router 1 prunes as well", Nets.framesOf(x, 0, Nets.PRUNE), 1);
    }

    private static void pruneInThree() {
        check.says("or, with two NEIGHBOURS or more, TIME and 3");
        GroveWorks x = Nets.fork();
        x.join(0, 0);
        x.tick(5);
        x.leave(0, 0);
        x.tick(5);
        check.due("a prune at 10", Nets.framesOf(x, 0, Nets.PRUNE), 1);
        x.tick(1);
        check.due("joined till 14", x.branch(2, 0, 0, NONE, 0), 14);
        x.tick(2);
        check.due("at 13", x.branch(2, 0, 0, NONE, 0), 14);
        x.tick(1);
        check.due("at 14", x.branch(2, 0, 0, NONE, 0), 0);
    }

    private static void pruneThatIsLater() {
        check.says("TIME and 3, if that is earlier");
        GroveWorks x = Nets.fork();
        x.tick(2);
        x.join(0, 0);
        x.tick(21);
        for (int i = 0; i < 3; i++) {
            check.due("a join goes", Nets.drop(x, 0, Nets.JOIN, 0), 1);
            x.tick(i < 2 ? 20 : 4);
        }
        x.leave(0, 0);
        x.tick(5);
        check.due("a prune at 72", Nets.framesOf(x, 0, Nets.PRUNE), 1);
        x.tick(1);
        check.due("joined till 74, not 76", x.branch(2, 0, 0, NONE, 0), 74);
        x.tick(1);
        check.due("at 74", x.branch(2, 0, 0, NONE, 0), 0);
    }

    private static void pruneOfWhatIsNotJoined() {
        check.says("PRUNE (6; TO, GROUP, SOURCE or NONE) that is TO r: if p is JOINED for x");
        GroveWorks x = Nets.fork();
        x.tick(2);
        x.join(0, 0);
        x.tick(1);
        check.due("its join goes", Nets.drop(x, 0, Nets.JOIN, 0), 1);
        x.leave(0, 0);
        x.tick(5);
        check.due("a prune at 8", Nets.framesOf(x, 0, Nets.PRUNE), 1);
        for (int t = 9; t < 12; t++) {
            x.tick(1);
            check.due("not joined at " + t, x.branch(2, 0, 0, NONE, 0), 0);
        }
    }

    private static void pruneIsForOneTree() {
        check.says("JOINED for x: till TIME");
        GroveWorks x = Nets.triangle();
        Nets.playTriangle(x);
        x.tick(1);
        check.due("the meeting point prunes the source", Nets.framesOf(x, 2, Nets.PRUNE), 1);
        x.tick(1);
        check.due("no more by wire 2", x.branch(1, 1, 0, 0, 0), 0);
        check.due("but by wire 1", x.branch(1, 0, 0, 0, 0), 78);
        check.due("and for * at the meeting point", x.branch(0, 0, 0, NONE, 0), 81);
    }

    private static void claims() {
        claimWithoutDistanceToTheSource();
        claimWithoutDistanceToTheMeetingPoint();
        claimOfTheLesserFirstNumber();
        claimOfTheLesserDistance();
        claimOfTheGreaterRouter();
        claimOfANeighbourAlone();
    }

    private static GroveWorks bothOnTwoWires(int routers) {
        GroveWorks x = Nets.net(routers, new int[][] {{0, 0, 1}, {1, 0, 1}, {0, 1, 0}, {1, 1, 0}});
        Nets.hosts(x, 1, 0);
        x.join(1, 0);
        x.send(0, 0);
        return x;
    }

    /** At time 1 neither knows the other, so both bring the data to wire 0; then the source is cut. */
    private static void claimWithoutDistanceToTheSource() {
        check.says("TRUE ones (see V; STRAIGHT) 0, the DISTANCE to s");
        GroveWorks x = bothOnTwoWires(2);
        x.tick(1);
        check.due("both bring it", Nets.framesOf(x, 0, Nets.DATA), 2);
        x.cut(1);
        x.tick(1);
        check.says("(without DISTANCE 9999)");
        check.due("router 1", x.frame(0, 0, 5), 999901);
        check.due("router 0", x.frame(0, 1, 5), 999900);
        check.due("both are claims", x.frame(0, 0, 0) + x.frame(0, 1, 0), 16);
        GroveWorks y = bothOnTwoWires(2);
        y.tick(2);
        check.due("router 1, with distance 0", y.frame(0, 0, 5), 1);
        check.due("router 0, with distance 0", y.frame(0, 1, 5), 0);
    }

    private static void claimWithoutDistanceToTheMeetingPoint() {
        check.says("else 1, the DISTANCE to the MEETING POINT (without DISTANCE 9999)");
        GroveWorks x = Nets.net(3, new int[][] {{0, 0, 0}, {1, 0, 0}, {0, 1, 1}});
        Nets.hosts(x, 1, 0);
        x.meet(0, 2);
        x.join(1, 0);
        x.send(0, 0);
        x.tick(2);
        check.dueFrame("router 1 is not straight", x, 0, 0, 8, 1, NONE, 0, 0, 1999901, 0, 0);
    }

    /** Router 0 is straight, at distance 1; router 1 is the meeting point itself, and greater, but not straight. */
    private static void claimOfTheLesserFirstNumber() {
        check.says("Of two CLAIMS the better one has the lesser first number");
        GroveWorks x = Nets.net(4, new int[][] {
            {0, 0, 0}, {1, 0, 0}, {3, 0, 0}, {2, 0, 1}, {0, 1, 1}, {2, 1, 2}, {1, 1, 2}, {2, 2, 3}, {3, 1, 4},
        });
        Nets.hosts(x, 3, 4);
        x.meet(0, 1);
        x.tick(2);
        x.join(1, 0);
        x.tick(2);
        x.send(0, 0);
        x.tick(2);
        check.due("the meeting point would join the source", Nets.drop(x, 2, Nets.JOIN, 1), 1);
        x.tick(3);
        x.send(0, 0);
        x.tick(2);
        check.due("both bring it", Nets.framesOf(x, 0, Nets.DATA), 2);
        check.due("router 0 is straight", x.tree(0, 0, 0, 5), 1);
        check.due("router 1 is not", x.tree(1, 0, 0, 5), 0);
        x.tick(1);
        check.dueFrame("claim of router 1", x, 0, 0, 8, 1, NONE, 0, 0, 1000001, 0, 0);
        check.dueFrame("claim of router 0", x, 0, 1, 8, 0, NONE, 0, 0, 100, 0, 0);
        x.tick(1);
        check.due("router 1 has lost", x.branch(1, 0, 0, 0, 2), 1);
        check.due("router 0 has not", x.branch(0, 0, 0, 0, 2), 0);
        check.due("the better one says so", x.count(6), 3);
        check.says("without LOST ones");
        check.due("shared of router 1", x.tree(1, 0, 0, 4), 0);
        check.due("all of router 1", x.tree(1, 0, 0, 3), 0);
        check.due("shared of another source", x.tree(1, 0, 1, 4), 1);
        check.due("all of router 0", x.tree(0, 0, 0, 3), 1);
    }

    private static void claimOfTheLesserDistance() {
        check.says("then the lesser DISTANCE");
        GroveWorks x = Nets.net(4, new int[][] {{3, 0, 0}, {3, 1, 3}, {1, 0, 0}, {1, 1, 1}, {2, 1, 1}, {0, 0, 1}, {0, 1, 2}});
        x.plug(2, 0, 0, 2);
        Nets.hosts(x, 3, 1, 2);
        x.meet(0, 3);
        x.tick(2);
        x.join(1, 0);
        x.join(2, 0);
        x.tick(4);
        x.send(0, 0);
        x.tick(3);
        check.due("router 2", x.frame(1, 0, 5), 1000202);
        check.due("router 1", x.frame(1, 1, 5), 1000101);
        x.tick(1);
        check.due("router 2 has lost, though it is greater", x.branch(2, 1, 0, 0, 2), 1);
        check.due("router 1 has not", x.branch(1, 1, 0, 0, 2), 0);
        check.due("router 0 keeps the better one", x.branch(0, 0, 0, 0, 3), 1);
    }

    private static void claimOfTheGreaterRouter() {
        check.says("then the greater ROUTER");
        GroveWorks x = Nets.twoToOne(1);
        x.send(0, 0);
        x.tick(4);
        check.due("router 1 has lost", x.branch(1, 1, 0, 0, 2), 1);
        check.due("router 2 has not", x.branch(2, 1, 0, 0, 2), 0);
        check.due("router 0 keeps the better one", x.branch(0, 0, 0, 0, 3), 2);
        check.due("base has it all the same", x.tree(1, 0, NONE, 3), 2);
    }

    /** Router 2's hellos on wire 1 go till it is no neighbour there at 67; that of 81 is heard. */
    private static void claimOfANeighbourAlone() {
        check.says("it counts only while the ROUTER that made it is a NEIGHBOUR there");
        GroveWorks x = Nets.twoToOne(1);
        x.tick(15);
        check.due("a hello goes", Nets.drop(x, 1, Nets.HELLO, 2), 1);
        x.tick(9);
        x.send(0, 0);
        x.tick(11);
        check.due("a hello goes at 41", Nets.drop(x, 1, Nets.HELLO, 2), 1);
        x.tick(20);
        check.due("a hello goes at 61", Nets.drop(x, 1, Nets.HELLO, 2), 1);
        x.tick(5);
        check.due("kept at 66", x.branch(1, 1, 0, 0, 3), 2);
        check.due("lost at 66", x.branch(1, 1, 0, 0, 2), 1);
        x.tick(1);
        check.due("as if none were kept at 67", x.branch(1, 1, 0, 0, 3), NONE);
        check.due("not lost at 67", x.branch(1, 1, 0, 0, 2), 0);
        x.tick(14);
        check.due("at 81", x.branch(1, 1, 0, 0, 3), NONE);
        x.tick(1);
        check.due("it counts again at 82", x.branch(1, 1, 0, 0, 3), 2);
        check.due("lost again", x.branch(1, 1, 0, 0, 2), 1);
        x.tick(12);
        check.due("kept at 94", x.branch(1, 1, 0, 0, 3), 2);
        x.tick(1);
        check.due("heard last at 35: not at 95", x.branch(1, 1, 0, 0, 3), NONE);
    }

    private static void wantsAndUps() {
        theMeetingPointWantsNothing();
        aLostPortWantsNothing();
        ownPortsAreThoseOfTheFirst();
        upIsANeighbour();
        upOfOneThatIsDirect();
        upOfAClaim();
        upThatGetsNear();
    }

    private static void theMeetingPointWantsNothing() {
        check.says("BASE is not empty and r is not the MEETING POINT");
        GroveWorks x = Nets.line(2);
        x.tick(2);
        check.due("no base: router 1", x.tree(1, 0, NONE, 0), 0);
        x.join(1, 0);
        x.tick(2);
        check.due("base of the meeting point", x.tree(2, 0, NONE, 3), 2);
        check.due("it wants nothing", x.tree(2, 0, NONE, 0), 0);
        check.due("it joins nobody", x.tree(2, 0, NONE, 1), NONE);
        GroveWorks y = Nets.line(0);
        y.tick(2);
        y.join(1, 0);
        y.tick(1);
        check.due("router 2 wants it", y.tree(2, 0, NONE, 0), 1);
        check.due("router 1 does not yet", y.tree(1, 0, NONE, 0), 0);
    }

    /** Router 0's join for the source comes to router 1 at 10, as wire 1 is lost there. */
    private static void aLostPortWantsNothing() {
        check.says("r WANTS s: a PORT is JOINED for s and not LOST");
        GroveWorks x = Nets.twoToOne(1);
        x.send(0, 0);
        x.tick(4);
        check.due("joined for the source", x.branch(1, 1, 0, 0, 0), 80);
        check.due("lost", x.branch(1, 1, 0, 0, 2), 1);
        check.due("not wanted", x.tree(1, 0, 0, 0), 0);
        check.due("all", x.tree(1, 0, 0, 3), 0);
        check.due("joined none", x.tree(1, 0, 0, 1), NONE);
        check.due("base", x.tree(1, 0, NONE, 3), 2);
        GroveWorks y = Nets.triangle();
        Nets.playTriangle(y);
        check.due("joined and not lost: wanted", y.tree(1, 0, 0, 0), 1);
        check.due("without shared ports", y.tree(1, 0, 0, 4), 0);
    }

    private static void ownPortsAreThoseOfTheFirst() {
        check.says("OWN PORTS of g: with MEMBERS of g, at which r is FIRST.");
        GroveWorks x = Nets.fork();
        x.host(5, 0);
        x.join(5, 0);
        x.tick(1);
        for (int r = 0; r < 3; r++) {
            check.due("base of router " + r + " at 1: all are first", x.tree(r, 0, NONE, 3), 1);
        }
        x.tick(1);
        for (int r = 0; r < 3; r++) {
            check.due("base of router " + r + " at 2", x.tree(r, 0, NONE, 3), r == 2 ? 1 : 0);
            check.due("all of router " + r + " at 2", x.tree(r, 0, 3, 3), r == 2 ? 1 : 0);
        }
    }

    private static void upIsANeighbour() {
        check.says("if that ROUTER is a NEIGHBOUR there; else none");
        GroveWorks x = Nets.line(0);
        x.join(1, 0);
        x.tick(1);
        check.due("wanted at 1", x.tree(2, 0, NONE, 0), 1);
        check.due("there is a way", x.way(2, false, 0, 2), 1);
        check.due("not joined at 1", x.tree(2, 0, NONE, 1), NONE);
        x.tick(1);
        check.due("joined at 2", x.tree(2, 0, NONE, 1), 1);
        x.tick(19);
        for (int i = 0; i < 3; i++) {
            check.due("a hello goes", Nets.drop(x, 1, Nets.HELLO, 1), 1);
            x.tick(i < 2 ? 20 : 5);
        }
        check.due("joined at 66", x.tree(2, 0, NONE, 1), 1);
        x.tick(1);
        check.due("not joined at 67", x.tree(2, 0, NONE, 1), NONE);
        check.due("wanted at 67", x.tree(2, 0, NONE, 0), 1);
        check.dueFrame("a prune at 67", x, 1, 1, 6, 2, 1, 0, NONE, 0, 0, 0);
    }

    private static void upOfOneThatIsDirect() {
        check.says("A WAY without a ROUTER: none, whatever its PORT keeps.");
        GroveWorks x = Nets.triangle();
        Nets.playTriangle(x);
        check.due("router 1 wants the source", x.tree(1, 0, 0, 0), 1);
        check.due("but is direct: it joins nobody", x.tree(1, 0, 0, 1), NONE);
        check.due("by no port", x.tree(1, 0, 0, 2), NONE);
        check.due("router 2 has joined it", x.tree(2, 0, 0, 1), 1);
    }

    private static void upOfAClaim() {
        check.says("(if the PORT of that WAY keeps a CLAIM for (s, g): that PORT and the ROUTER that made it)");
        GroveWorks x = Nets.twoToOne(1);
        x.send(0, 0);
        x.tick(3);
        check.due("by the way: router 1", x.tree(0, 0, 0, 1), 1);
        x.tick(1);
        check.due("by the claim: router 2", x.tree(0, 0, 0, 1), 2);
        check.due("the way is by router 1", x.way(0, true, 3, 2), 1);
        check.due("and so is * for which claims do not count", x.tree(0, 0, NONE, 1), 1);
    }

    /** Wire 5 leads from router 2 to the meeting point, but none has said hello there yet. */
    private static void upThatGetsNear() {
        check.says("If r has JOINED by a PORT and ROUTER other than u: PRUNE for x TO that one by that PORT; it has JOINED none then.");
        GroveWorks x = Nets.line(0);
        x.plug(2, 2, 5, 1);
        x.plug(0, 2, 5, 1);
        x.cut(5);
        x.join(1, 0);
        x.tick(4);
        check.due("joined by router 1", x.tree(2, 0, NONE, 1), 1);
        x.mend(5);
        x.tick(1);
        check.due("the way is by wire 5", x.way(2, false, 0, 1), 2);
        check.due("joined none", x.tree(2, 0, NONE, 1), NONE);
        check.dueFrame("a prune", x, 1, 0, 6, 2, 1, 0, NONE, 0, 0, 0);
        x.tick(1);
        check.due("joined by router 0", x.tree(2, 0, NONE, 1), 0);
        check.due("by port 2", x.tree(2, 0, NONE, 2), 2);
    }

    private static void timers() {
        joinEveryTwenty();
        joinsByGroupsAndSources();
        joinForNewCuts();
        cutsOfAnEmptyShared();
        cutsOfALostShared();
        nothingIsToldWithoutAJoin();
        pruneThenJoin();
    }

    private static void joinEveryTwenty() {
        check.says("20 TICKS ago or earlier");
        GroveWorks x = Nets.line(0);
        x.tick(2);
        x.join(1, 0);
        int[] ticks = {1, 1, 18, 1, 1, 18, 1};
        boolean[] isDue = {true, false, false, true, false, false, true};
        for (int i = 0; i < ticks.length; i++) {
            int time = x.tick(ticks[i]);
            check.due("join at " + time, Nets.framesOf(x, 1, Nets.JOIN), isDue[i] ? 1 : 0);
        }
        check.due("the last one was at 43", x.count(0), 43);
    }

    private static void joinsByGroupsAndSources() {
        check.says("by GROUPS, in each * and then the SOURCES by numbers");
        GroveWorks x = Nets.line(0);
        x.host(9, 2);
        x.tick(2);
        x.join(1, 7);
        x.join(1, 0);
        x.tick(1);
        check.due("* of group 0", x.frame(1, 0, 3), 0);
        check.due("* of group 7", x.frame(1, 1, 3), 7);
        x.tick(2);
        x.send(9, 7);
        x.send(9, 0);
        x.send(0, 7);
        x.send(0, 0);
        x.tick(3);
        int[] groups = {0, 0, 7, 7};
        int[] sources = {0, 9, 0, 9};
        int first = Nets.find(x, 1, Nets.JOIN);
        for (int i = 0; i < 4; i++) {
            check.dueFrame("join " + i, x, 1, first + i, 5, 2, 1, groups[i], sources[i], 0, 0, 0);
        }
        x.leave(1, 7);
        x.leave(1, 0);
        x.tick(5);
        int[] pruned = {NONE, 0, 9, NONE, 0, 9};
        first = Nets.find(x, 1, Nets.PRUNE);
        for (int i = 0; i < 6; i++) {
            check.dueFrame("prune " + i, x, 1, first + i, 6, 2, 1, i < 3 ? 0 : 7, pruned[i], 0, 0, 0);
        }
    }

    /** Router 0 is direct to the source, so up of it is none, but there is up of *. */
    private static void joinForNewCuts() {
        check.says("STRAIGHT, and there is UP of *, which is another one than UP of s (none, too)");
        GroveWorks x = Nets.hosts(Nets.net(2, new int[][] {{0, 0, 0}, {1, 0, 0}, {0, 1, 2}, {0, 2, 3}}), 2, 3);
        x.meet(0, 1);
        x.tick(2);
        x.join(1, 0);
        x.tick(1);
        check.dueFrame("nothing to cut off at 3", x, 0, 0, 5, 0, 1, 0, NONE, 0, 0, 0);
        x.send(0, 0);
        x.tick(1);
        check.due("straight", x.tree(0, 0, 0, 5), 1);
        check.says("or (of *) what is TO CUT OFF is not what its last JOIN told");
        check.dueFrame("a join at 4", x, 0, 1, 5, 0, 1, 0, NONE, 0, 1, 0);
        check.due("what it told", x.tree(0, 0, NONE, 4), 1);
        x.tick(1);
        check.due("cut off", x.branch(1, 0, 0, 0, 1), 1);
        check.due("no join at 5", Nets.framesOf(x, 0, Nets.JOIN), 0);
    }

    /** 0 -w0- 3 -w5- 2, and 2 -w1- 1 -w2- 0: what router 2 cuts off is all that router 3 has. */
    private static void cutsOfAnEmptyShared() {
        check.says("or SHARED of (s, g) is empty");
        for (int up = 0; up < 2; up++) {
            GroveWorks x = Nets.net(4, new int[][] {
                {0, 0, 0}, {3, up, 0}, {3, 1 - up, 5}, {2, 0, 5}, {2, 1, 1}, {1, 0, 1}, {1, 1, 2}, {0, 1, 2}, {1, 2, 3},
                {2, 2, 4},
            });
            Nets.hosts(x, 3, 4);
            x.tick(2);
            x.join(1, 0);
            x.tick(3);
            check.due("joined by way of router 3", x.branch(0, 0, 0, NONE, 0), 75);
            x.send(0, 0);
            x.tick(5);
            x.send(0, 0);
            x.tick(2);
            check.due("router 2 is straight", x.tree(2, 0, 0, 5), 1);
            check.due("router 2 tells", x.tree(2, 0, NONE, 4), 1);
            check.due("router 3 does not yet", x.tree(3, 0, NONE, 4), 0);
            x.tick(1);
            check.due("shared of router 3", x.tree(3, 0, 0, 4), 0);
            check.due("base of router 3", x.tree(3, 0, NONE, 3), 2 >> up);
            check.due("router 3 is not straight", x.tree(3, 0, 0, 5), 0);
            check.due("router 3 tells, too", x.tree(3, 0, NONE, 4), 1);
            x.tick(1);
            check.due("cut off at the meeting point", x.branch(0, 0, 0, 0, 1), 1);
            x.tick(10);
            check.due("router 3 still tells", x.tree(3, 0, NONE, 4), 1);
            check.due("cut off still", x.branch(0, 0, 0, 0, 1), 1);
        }
    }

    /** Router 1 has lost wire 1, all that it has. Router 0 would cut the source off there, too, but its joins go. */
    private static void cutsOfALostShared() {
        check.says("TO CUT OFF of g are all s with");
        GroveWorks x = Nets.twoToOne(1);
        x.send(0, 0);
        for (int t = 7; t < 20; t++) {
            x.tick(1);
            Nets.drop(x, 1, Nets.JOIN, 0);
            check.due("told at " + t, x.tree(1, 0, NONE, 4), t < 10 ? 0 : 1);
        }
        check.due("lost", x.branch(1, 1, 0, 0, 2), 1);
        check.due("not cut off there", x.branch(1, 1, 0, 0, 1), 0);
        check.due("shared", x.tree(1, 0, 0, 4), 0);
        check.due("router 2, which has not lost, tells nothing", x.tree(2, 0, NONE, 4), 0);
    }

    private static void nothingIsToldWithoutAJoin() {
        check.says("what its last JOIN told to be CUT OFF (0 if it has JOINED none)");
        GroveWorks x = Nets.hosts(Nets.net(2, new int[][] {{0, 0, 0}, {1, 0, 0}, {0, 1, 2}, {0, 2, 3}}), 2, 3);
        x.meet(0, 1);
        check.due("none at first", x.tree(0, 0, NONE, 4), 0);
        x.tick(2);
        x.join(1, 0);
        x.tick(1);
        x.send(0, 0);
        x.tick(2);
        check.due("told", x.tree(0, 0, NONE, 4), 1);
        x.leave(1, 0);
        x.tick(4);
        check.due("told at 9", x.tree(0, 0, NONE, 4), 1);
        x.tick(1);
        check.due("joined none at 10", x.tree(0, 0, NONE, 1), NONE);
        check.due("told nothing at 10", x.tree(0, 0, NONE, 4), 0);
        GroveWorks y = Nets.triangle();
        Nets.playTriangle(y);
        check.due("told at 10", y.tree(2, 0, NONE, 4), 1);
        y.cut(0);
        check.due("told nothing by a cut wire", y.tree(2, 0, NONE, 4), 0);
    }

    private static void pruneThenJoin() {
        check.says("Then, if there is u: if it has JOINED none");
        GroveWorks x = Nets.twoToOne(1);
        x.send(0, 0);
        x.tick(4);
        int prune = Nets.find(x, 1, Nets.PRUNE);
        check.dueFrame("a prune for router 1", x, 1, prune, 6, 0, 1, 0, 0, 0, 0, 0);
        check.dueFrame("behind it a join for router 2", x, 1, prune + 1, 5, 0, 2, 0, 0, 0, 0, 0);
    }

    private static void overheard() {
        joinOfASourceCounts();
        joinOfTheSameBitsCounts();
        joinOfMoreBitsIsAnswered();
        joinOfFewerBitsIsNothing();
        pruneIsAnswered();
        pruneForAnotherRouterIsNot();
    }

    /** Routers 0 and 1 both join source 2 at 6 and hear it of one another at 7. */
    private static void joinOfASourceCounts() {
        check.says("A JOIN for s: counts as if r's last one was sent now.");
        GroveWorks x = Nets.fork();
        x.tick(2);
        x.join(0, 0);
        x.join(1, 0);
        x.tick(2);
        x.send(2, 0);
        x.tick(2);
        check.due("both join the source at 6", Nets.framesOf(x, 0, Nets.JOIN), 2);
        check.due("the source", x.frame(0, Nets.find(x, 0, Nets.JOIN), 4), 2);
        x.tick(17);
        check.due("none at 23", Nets.framesOf(x, 0, Nets.JOIN), 0);
        x.tick(1);
        check.due("both join * at 24, as they heard it at 4", Nets.framesOf(x, 0, Nets.JOIN), 2);
        check.due("of *", x.frame(0, 0, 4), NONE);
        x.tick(2);
        check.due("none at 26", Nets.framesOf(x, 0, Nets.JOIN), 0);
        x.tick(1);
        check.due("both join the source at 27", Nets.framesOf(x, 0, Nets.JOIN), 2);
        check.due("the source again", x.frame(0, 0, 4), 2);
    }

    private static void joinOfTheSameBitsCounts() {
        check.says("if they are the same, it counts as r's last one sent now");
        GroveWorks x = Nets.fork();
        x.tick(2);
        x.join(0, 0);
        x.tick(5);
        x.join(1, 0);
        x.tick(1);
        check.due("router 1 joins at 8", x.frame(0, 0, 1), 1);
        x.tick(15);
        check.due("router 0 does not at 23", Nets.framesOf(x, 0, Nets.JOIN), 0);
        x.tick(5);
        check.due("router 1 does at 28", Nets.framesOf(x, 0, Nets.JOIN), 1);
        check.due("it is router 1", x.frame(0, 0, 1), 1);
        x.tick(1);
        check.due("router 0 does not at 29, as it has heard it", Nets.framesOf(x, 0, Nets.JOIN), 0);
    }

    private static void joinOfMoreBitsIsAnswered() {
        check.says("if its BITS have one that r's last one had not, r sends its own again, at once (as that was)");
        GroveWorks x = Nets.triangleOfFour();
        x.join(2, 0);
        Nets.playTriangle(x);
        check.due("router 2 tells", x.tree(2, 0, NONE, 4), 1);
        check.due("router 3 tells nothing", x.tree(3, 0, NONE, 4), 0);
        x.tick(1);
        check.dueFrame("router 3 says its own again", x, 0, Nets.find(x, 0, Nets.JOIN), 5, 3, 0, 0, NONE, 0, 0, 0);
        for (int t = 12; t < 17; t++) {
            x.tick(1);
            check.due("not cut off at " + t, x.branch(0, 0, 0, 0, 1), 0);
        }
    }

    private static void joinOfFewerBitsIsNothing() {
        check.says("BITS of another's that are fewer than r's last: nothing.");
        GroveWorks x = Nets.triangleOfFour();
        Nets.playTriangle(x);
        x.tick(4);
        check.due("cut off at 14", x.branch(0, 0, 0, 0, 1), 1);
        x.join(2, 0);
        x.tick(1);
        check.due("router 3 joins without bits", x.frame(0, Nets.find(x, 0, Nets.JOIN), 6), 0);
        x.tick(1);
        check.due("router 2 does not answer", Nets.framesOf(x, 0, Nets.JOIN), 0);
        check.due("cut off no more at 16", x.branch(0, 0, 0, 0, 1), 0);
        x.tick(13);
        check.due("none at 29", Nets.framesOf(x, 0, Nets.JOIN), 0);
        x.tick(1);
        check.due("router 2 at 30, 20 ticks behind its own", Nets.framesOf(x, 0, Nets.JOIN), 1);
        check.due("with its bits", x.frame(0, Nets.find(x, 0, Nets.JOIN), 6), 1);
    }

    private static void pruneIsAnswered() {
        check.says("a PRUNE: r sends its JOIN for x again, at once (of * with what its last one told)");
        GroveWorks x = Nets.fork();
        x.tick(2);
        x.join(0, 0);
        x.join(1, 0);
        x.tick(3);
        x.leave(0, 0);
        x.tick(5);
        check.due("router 0 prunes at 10", Nets.framesOf(x, 0, Nets.PRUNE), 1);
        x.tick(1);
        check.dueFrame("router 1 joins at 11", x, 0, 0, 5, 1, 2, 0, NONE, 0, 0, 0);
        check.due("joined till 14", x.branch(2, 0, 0, NONE, 0), 14);
        x.tick(1);
        check.due("joined till 82", x.branch(2, 0, 0, NONE, 0), 82);
        x.tick(18);
        check.due("none at 30", Nets.framesOf(x, 0, Nets.JOIN), 0);
        x.tick(1);
        check.due("the next one at 31", Nets.framesOf(x, 0, Nets.JOIN), 1);
    }

    /** Routers 0 (the meeting point), 1, 2 on wire 0; 1, 2, 3 on wire 1. Router 3 joins by router 1, router 2 by router 0. */
    private static void pruneForAnotherRouterIsNot() {
        check.says("that is TO the ROUTER by which r has JOINED for x, and came by that PORT");
        GroveWorks x = Nets.hosts(Nets.net(4, new int[][] {
            {0, 0, 0}, {1, 0, 0}, {2, 0, 0}, {1, 1, 1}, {2, 1, 1}, {3, 0, 1}, {2, 2, 2}, {3, 1, 3},
        }), 2, 3);
        x.tick(2);
        x.join(0, 0);
        x.join(1, 0);
        x.tick(3);
        check.due("router 2 has joined router 0", x.tree(2, 0, NONE, 1), 0);
        check.due("router 3 has joined router 1", x.tree(3, 0, NONE, 1), 1);
        x.leave(1, 0);
        x.tick(5);
        check.dueFrame("router 3 prunes", x, 1, 0, 6, 3, 1, 0, NONE, 0, 0, 0);
        x.tick(1);
        check.due("router 2 says nothing by wire 1", x.frame(1, 0, 0), -2);
        check.due("nor by wire 0", x.frame(0, 0, 0), -2);
    }

    private static void questions() {
        branchNeedsItsThings();
        branchOfStar();
        branchOfNothing();
        treeNeedsItsThings();
        treeOfStar();
        treeOfNothing();
    }

    private static void branchNeedsItsThings() {
        check.says("NONE if there is none such, or no such what.");
        GroveWorks x = Nets.line(1);
        x.tick(2);
        for (int bad : new int[] {MIN, -2, -1, 3, 10, MAX}) {
            check.due("router " + bad, x.branch(bad, 0, 0, 0, 0), NONE);
        }
        for (int bad : new int[] {MIN, -2, -1, 4, MAX}) {
            check.due("port " + bad, x.branch(0, bad, 0, 0, 0), NONE);
            check.due("what " + bad, x.branch(0, 0, 0, 0, bad), NONE);
        }
        for (int bad : new int[] {MIN, -2, -1, 8, MAX}) {
            check.due("group " + bad, x.branch(0, 0, bad, 0, 0), NONE);
        }
        for (int bad : new int[] {MIN, -3, -2, 16, MAX}) {
            check.due("source " + bad, x.branch(0, 0, 0, bad, 0), NONE);
        }
    }

    private static void branchOfStar() {
        check.says("(NONE: *, what 0 alone)");
        GroveWorks x = Nets.line(1);
        check.due("what 0", x.branch(0, 0, 0, NONE, 0), 0);
        for (int what : new int[] {MIN, -1, 1, 2, 3, 4, MAX}) {
            check.due("what " + what, x.branch(0, 0, 0, NONE, what), NONE);
        }
    }

    private static void branchOfNothing() {
        check.says("till when it is JOINED (0 if it is not)");
        GroveWorks x = Nets.line(1);
        for (int p = 0; p < 4; p++) {
            check.due("joined for *", x.branch(0, p, 0, NONE, 0), 0);
            check.due("joined for a source", x.branch(0, p, 0, 0, 0), 0);
            check.due("cut off", x.branch(0, p, 0, 0, 1), 0);
            check.due("lost", x.branch(0, p, 0, 0, 2), 0);
            check.due("claim", x.branch(0, p, 0, 0, 3), NONE);
            check.due("claim of a source on no wire", x.branch(0, p, 7, 15, 3), NONE);
        }
    }

    private static void treeNeedsItsThings() {
        check.says("For ROUTER r, GROUP g and SOURCE s (NONE: *)");
        GroveWorks x = Nets.line(1);
        x.tick(2);
        for (int bad : new int[] {MIN, -2, -1, 3, 10, MAX}) {
            check.due("router " + bad, x.tree(bad, 0, 0, 0), NONE);
            check.due("router " + bad + " of *", x.tree(bad, 0, NONE, 0), NONE);
        }
        for (int bad : new int[] {MIN, -2, -1, 8, MAX}) {
            check.due("group " + bad, x.tree(0, bad, 0, 0), NONE);
            check.due("what " + bad, x.tree(0, 0, 0, bad), NONE);
        }
        for (int bad : new int[] {MIN, -3, -2, 16, MAX}) {
            check.due("source " + bad, x.tree(0, 0, bad, 0), NONE);
        }
    }

    private static void treeOfStar() {
        check.says("of s alone: 4: SHARED as bits, 5: whether it is STRAIGHT");
        GroveWorks x = Nets.line(1);
        for (int what : new int[] {MIN, -1, 5, 6, 7, 8, MAX}) {
            check.due("what " + what + " of *", x.tree(0, 0, NONE, what), NONE);
        }
        check.due("what 4 of *", x.tree(0, 0, NONE, 4), 0);
        check.due("what 7 of a source", x.tree(0, 0, 0, 7), 0);
    }

    private static void treeOfNothing() {
        check.says("till when it is STOPPED (0 if it is not, both)");
        GroveWorks x = new GroveWorks(1);
        int[] due = {0, NONE, NONE, 0, 0, 0, 0, 0};
        for (int what = 0; what < 8; what++) {
            check.due("what " + what + " of source 15", x.tree(0, 7, 15, what), due[what]);
        }
        for (int what = 0; what < 5; what++) {
            check.due("what " + what + " of *", x.tree(0, 7, NONE, what), due[what]);
        }
    }
}
