/** The bounds of neighbours and members (promises 15 and 16; Terms III), one method for each. */
public final class EdgesOfMembers {
    private static final int NONE = GroveWorks.NONE;
    private static final int MIN = Integer.MIN_VALUE;
    private static final int MAX = Integer.MAX_VALUE;
    private static final Check check = new Check("EdgesOfMembers");

    public static void main(String[] args) {
        hellos();
        queries();
        reports();
        leaves();
        answers();
        questions();
        check.end();
    }

    /** Routers 0, 1, .. with their port 0 on wire 0, and hosts 0, 1, .. there. */
    private static GroveWorks oneWire(int routers, int hosts) {
        GroveWorks x = new GroveWorks(routers);
        for (int r = 0; r < routers; r++) {
            x.plug(r, 0, 0, 1);
        }
        for (int h = 0; h < hosts; h++) {
            x.host(h, 0);
        }
        return x;
    }

    private static void hellos() {
        helloEveryTwenty();
        helloOnWiresThatAreUp();
        neighbourForSixtyFive();
        neighbourByItsLatestHello();
        firstAndAsking();
        firstAndAskingAlone();
        firstAndAskingOnACutWire();
    }

    private static void helloEveryTwenty() {
        check.says("if none was sent since it is UP, or the last one 20 TICKS ago");
        GroveWorks x = oneWire(1, 0);
        check.due("none at 0", x.frame(0, 0, 0), -2);
        int[] ticks = {1, 1, 18, 1, 1, 18, 1};
        boolean[] isDue = {true, false, false, true, false, false, true};
        for (int i = 0; i < ticks.length; i++) {
            int time = x.tick(ticks[i]);
            check.due("hello at " + time, Nets.framesOf(x, 0, Nets.HELLO), isDue[i] ? 1 : 0);
        }
        check.due("the last one was at 41", x.count(0), 41);
    }

    private static void helloOnWiresThatAreUp() {
        check.says("by PORTS: on each whose WIRE is UP");
        GroveWorks x = Nets.net(1, new int[][] {{0, 0, 4}, {0, 1, 3}, {0, 2, 2}});
        x.cut(3);
        x.tick(1);
        check.due("port 0", x.frame(4, 0, 0), 1);
        check.due("port 1, whose wire is cut", x.frame(3, 0, 0), -2);
        check.due("port 2", x.frame(2, 0, 0), 1);
        check.due("two hellos, two queries", x.count(2), 4);
        x.tick(3);
        x.mend(3);
        x.tick(1);
        check.due("at 5, behind mend", x.frame(3, 0, 0), 1);
        check.due("not on the others", x.frame(4, 0, 0), -2);
    }

    private static void neighbourForSixtyFive() {
        check.says("for 65 TICKS (while TIME is less than that of its latest one and 65)");
        for (int silent = 0; silent < 2; silent++) {
            GroveWorks x = oneWire(2, 0);
            x.tick(1);
            check.due("sent is not heard", x.port(1 - silent, 0, 2), 0);
            x.tick(1);
            check.due("heard at 2", x.port(1 - silent, 0, 2), 1 << silent);
            x.tick(19);
            for (int i = 0; i < 3; i++) {
                check.due("a hello goes", Nets.drop(x, 0, Nets.HELLO, silent), 1);
                x.tick(i < 2 ? 20 : 5);
            }
            check.due("time", x.count(0), 66);
            check.due("a neighbour at 66", x.port(1 - silent, 0, 2), 1 << silent);
            x.tick(1);
            check.due("none at 67", x.port(1 - silent, 0, 2), 0);
            check.due("first again", x.port(1 - silent, 0, 3), 1);
            check.due("asking again", x.port(1 - silent, 0, 4), 1);
            check.due("the silent one has heard the other", x.port(silent, 0, 2), 2 >> silent);
            x.tick(15);
            check.due("a neighbour by the hello of 81", x.port(1 - silent, 0, 2), 1 << silent);
        }
    }

    private static void neighbourByItsLatestHello() {
        check.says("less than that of its latest one and 65");
        GroveWorks x = oneWire(3, 0);
        x.tick(41);
        for (int i = 0; i < 3; i++) {
            Nets.drop(x, 0, Nets.HELLO, 0);
            x.tick(i < 2 ? 20 : 5);
        }
        check.due("heard at 22: a neighbour at 86", x.port(1, 0, 2), 5);
        x.tick(1);
        check.due("not at 87, but the other one is", x.port(1, 0, 2), 4);
        check.due("of router 2 as well", x.port(2, 0, 2), 2);
    }

    private static void firstAndAsking() {
        check.says("FIRST at a PORT if it has no NEIGHBOUR of a greater number there, ASKING if it has none of a lesser number");
        GroveWorks x = oneWire(10, 0);
        x.tick(1);
        for (int r = 0; r < 10; r++) {
            check.due("router " + r + " is first at 1", x.port(r, 0, 3), 1);
            check.due("router " + r + " is asking at 1", x.port(r, 0, 4), 1);
        }
        x.tick(1);
        for (int r = 0; r < 10; r++) {
            check.due("neighbours of router " + r, x.port(r, 0, 2), 1023 - (1 << r));
            check.due("router " + r + " is first", x.port(r, 0, 3), r == 9 ? 1 : 0);
            check.due("router " + r + " is asking", x.port(r, 0, 4), r == 0 ? 1 : 0);
        }
    }

    private static void firstAndAskingAlone() {
        check.says("no NEIGHBOUR of a greater number there");
        GroveWorks x = Nets.line(1);
        x.tick(2);
        check.due("router 1 by wire 0 is first", x.port(1, 0, 3), 1);
        check.due("router 1 by wire 0 is not asking", x.port(1, 0, 4), 0);
        check.due("router 1 by wire 1 is not first", x.port(1, 1, 3), 0);
        check.due("router 1 by wire 1 is asking", x.port(1, 1, 4), 1);
        check.due("router 0 by wire 2 has none: first", x.port(0, 1, 3), 1);
        check.due("router 0 by wire 2 has none: asking", x.port(0, 1, 4), 1);
    }

    private static void firstAndAskingOnACutWire() {
        check.says("A PORT of a CUT WIRE, or on none, has no NEIGHBOURS (so r is FIRST and ASKING there).");
        GroveWorks x = oneWire(3, 0);
        x.tick(2);
        check.due("neighbours", x.port(1, 0, 2), 5);
        x.cut(0);
        check.due("no neighbours", x.port(1, 0, 2), 0);
        check.due("first", x.port(1, 0, 3), 1);
        check.due("asking", x.port(1, 0, 4), 1);
        check.due("its wire is the same", x.port(1, 0, 0), 0);
        x.mend(0);
        x.tick(1);
        check.due("none yet behind mend", x.port(1, 0, 2), 0);
        x.tick(1);
        check.due("neighbours again", x.port(1, 0, 2), 5);
    }

    private static void queries() {
        queryEveryTwentyFive();
        queryOfTheAskingOne();
        queryOfOneThatGetsAsking();
        queryWithAGroupIsNoneToAll();
    }

    private static void queryEveryTwentyFive() {
        check.says("or the last such one 25 TICKS ago or earlier");
        GroveWorks x = oneWire(1, 0);
        int[] ticks = {1, 1, 23, 1, 1, 23, 1};
        boolean[] isDue = {true, false, false, true, false, false, true};
        for (int i = 0; i < ticks.length; i++) {
            int time = x.tick(ticks[i]);
            check.due("query at " + time, Nets.framesOf(x, 0, Nets.QUERY), isDue[i] ? 1 : 0);
        }
        check.due("the last one was at 51", x.count(0), 51);
    }

    private static void queryOfTheAskingOne() {
        check.says("if it is ASKING there");
        GroveWorks x = oneWire(3, 0);
        x.tick(1);
        check.due("three at first", Nets.framesOf(x, 0, Nets.QUERY), 3);
        x.tick(25);
        check.due("one at 26", Nets.framesOn(x, 0), 1);
        check.dueFrame("of router 0", x, 0, 0, 2, 0, NONE, NONE, NONE, 0, 0, 0);
    }

    private static void queryOfOneThatGetsAsking() {
        check.says("and sent no QUERY (to all GROUPS: GROUP NONE) since it is UP, or the last such one 25 TICKS ago or earlier");
        GroveWorks x = oneWire(2, 0);
        x.tick(21);
        for (int i = 0; i < 3; i++) {
            Nets.drop(x, 0, Nets.HELLO, 0);
            x.tick(i < 2 ? 20 : 5);
        }
        check.due("none at 66", Nets.framesOf(x, 0, Nets.QUERY), 0);
        x.tick(1);
        check.due("asking at 67", x.port(1, 0, 4), 1);
        check.dueFrame("a query at once", x, 0, 0, 2, 1, NONE, NONE, NONE, 0, 0, 0);
        x.tick(1);
        check.due("not again at 68", Nets.framesOf(x, 0, Nets.QUERY), 0);
        x.tick(8);
        check.due("at 76", x.count(0), 76);
        check.due("that of router 0, as ever", x.frame(0, 0, 1), 0);
    }

    private static void queryWithAGroupIsNoneToAll() {
        check.says("(to all GROUPS: GROUP NONE)");
        GroveWorks x = oneWire(1, 2);
        x.join(0, 3);
        x.tick(20);
        x.leave(0, 3);
        x.tick(1);
        check.dueFrame("a query with a group at 21", x, 0, 0, 2, 0, NONE, 3, NONE, 0, 0, 0);
        x.tick(4);
        check.due("none at 25", x.frame(0, 0, 0), -2);
        x.tick(1);
        check.dueFrame("to all at 26", x, 0, 0, 2, 0, NONE, NONE, NONE, 0, 0, 0);
    }

    private static void reports() {
        membersForSixty();
        membersByTheLatestReport();
        membersWhoeverIsFirst();
    }

    private static void membersForSixty() {
        check.says("the PORT has MEMBERS of that GROUP till TIME and 60");
        GroveWorks x = oneWire(1, 1);
        x.join(0, 7);
        check.due("sent is not heard", x.members(0, 0, 7), 0);
        x.tick(1);
        check.due("till 61", x.members(0, 0, 7), 61);
        check.due("of another group", x.members(0, 0, 6), 0);
        int[] ticks = {1, 25, 25};
        for (int n : ticks) {
            x.tick(n);
            check.due("a report goes", Nets.drop(x, 0, Nets.REPORT, 100), 1);
        }
        x.tick(8);
        check.due("at 60", x.members(0, 0, 7), 61);
        check.due("base at 60", x.tree(0, 7, NONE, 3), 1);
        x.tick(1);
        check.due("at 61", x.members(0, 0, 7), 0);
        check.due("base at 61", x.tree(0, 7, NONE, 3), 0);
    }

    private static void membersByTheLatestReport() {
        check.says("REPORT (3; by HOSTS; GROUP)");
        GroveWorks x = oneWire(1, 2);
        x.join(0, 0);
        x.tick(1);
        check.due("till 61", x.members(0, 0, 0), 61);
        x.join(1, 0);
        x.tick(1);
        check.due("of another host: till 62", x.members(0, 0, 0), 62);
    }

    private static void membersWhoeverIsFirst() {
        check.says("A PORT has MEMBERS by REPORTS whoever is FIRST.");
        GroveWorks x = oneWire(3, 1);
        x.tick(2);
        x.join(0, 0);
        x.tick(1);
        for (int r = 0; r < 3; r++) {
            check.due("members of router " + r, x.members(r, 0, 0), 63);
            check.due("base of router " + r, x.tree(r, 0, NONE, 3), r == 2 ? 1 : 0);
        }
    }

    private static void leaves() {
        leaveEndsInFour();
        leaveOfOneThatIsNotAsking();
        leaveWithoutMembers();
        leaveThatIsLater();
    }

    private static void leaveEndsInFour() {
        check.says("it has them till TIME and 4");
        GroveWorks x = oneWire(1, 1);
        x.join(0, 0);
        x.tick(5);
        x.leave(0, 0);
        x.tick(1);
        check.due("till 10", x.members(0, 0, 0), 10);
        check.says("a QUERY with that GROUP is sent there");
        check.dueFrame("a query", x, 0, 0, 2, 0, NONE, 0, NONE, 0, 0, 0);
        x.tick(3);
        check.due("at 9", x.members(0, 0, 0), 10);
        x.tick(1);
        check.due("at 10", x.members(0, 0, 0), 0);
    }

    private static void leaveOfOneThatIsNotAsking() {
        check.says("if it has MEMBERS of that GROUP and is ASKING at the PORT");
        GroveWorks x = oneWire(3, 1);
        x.tick(2);
        x.join(0, 0);
        x.tick(1);
        x.leave(0, 0);
        x.tick(1);
        check.due("router 0 asks", x.members(0, 0, 0), 8);
        check.due("router 1 does not", x.members(1, 0, 0), 63);
        check.due("nor does the first", x.members(2, 0, 0), 63);
        check.due("one query", Nets.framesOn(x, 0), 1);
        check.due("of router 0", x.frame(0, 0, 1), 0);
    }

    private static void leaveWithoutMembers() {
        check.says("if it has MEMBERS of that GROUP");
        GroveWorks x = oneWire(1, 1);
        x.tick(2);
        x.join(0, 0);
        x.lose(0, 0);
        x.leave(0, 0);
        x.tick(1);
        check.due("no members", x.members(0, 0, 0), 0);
        check.due("no query", x.frame(0, 0, 0), -2);
        x.join(0, 1);
        x.join(0, 2);
        x.tick(1);
        x.leave(0, 2);
        x.tick(1);
        check.due("members of another group stay", x.members(0, 0, 1), 64);
        check.due("those of the group do not", x.members(0, 0, 2), 9);
    }

    private static void leaveThatIsLater() {
        check.says("if that is earlier");
        GroveWorks x = oneWire(1, 2);
        x.tick(2);
        x.join(0, 0);
        x.join(1, 0);
        x.tick(1);
        x.leave(0, 0);
        x.tick(1);
        check.due("left at 4: till 8", x.members(0, 0, 0), 8);
        x.tick(1);
        check.due("the other one would report", Nets.drop(x, 0, Nets.REPORT, 101), 1);
        x.leave(1, 0);
        x.tick(1);
        check.due("left at 6: till 8 all the same", x.members(0, 0, 0), 8);
        check.due("a query for it, too", x.frame(0, 0, 0), 2);
        x.tick(1);
        check.due("at 7", x.members(0, 0, 0), 8);
        x.tick(1);
        check.due("at 8", x.members(0, 0, 0), 0);
    }

    private static void answers() {
        saidAtOnce();
        answeredOnceATick();
        answeredForTheGroupThatWasAskedFor();
        answeredForWhatIsJoinedByThen();
    }

    private static void saidAtOnce() {
        check.says("one that joins sends REPORT, one that leaves LEAVE, at once");
        GroveWorks x = oneWire(1, 1);
        x.join(0, 2);
        check.dueFrame("report", x, 0, 0, 3, 100, NONE, 2, NONE, 0, 0, 0);
        x.leave(0, 2);
        check.dueFrame("leave", x, 0, 1, 4, 100, NONE, 2, NONE, 0, 0, 0);
    }

    private static void answeredOnceATick() {
        check.says("by GROUPS, each once a TICK");
        GroveWorks x = oneWire(3, 1);
        x.meet(0, 2);
        x.meet(7, 2);
        x.join(0, 7);
        x.join(0, 0);
        x.tick(1);
        check.due("three queries", Nets.framesOf(x, 0, Nets.QUERY), 3);
        x.tick(1);
        check.due("two reports", Nets.framesOn(x, 0), 2);
        check.due("of group 0", x.frame(0, 0, 3), 0);
        check.due("of group 7", x.frame(0, 1, 3), 7);
        x.tick(1);
        check.due("none in the next tick", Nets.framesOn(x, 0), 0);
    }

    private static void answeredForTheGroupThatWasAskedFor() {
        check.says("a REPORT for each GROUP that was asked for (all by a QUERY to all)");
        GroveWorks x = oneWire(1, 2);
        x.join(0, 0);
        x.join(0, 3);
        x.join(1, 3);
        x.tick(19);
        x.leave(1, 3);
        x.tick(2);
        check.due("one report, and the hello of 21", Nets.framesOn(x, 0), 2);
        check.dueFrame("for group 3", x, 0, 1, 3, 100, NONE, 3, NONE, 0, 0, 0);
        x.join(1, 3);
        x.tick(4);
        x.leave(1, 3);
        x.tick(1);
        check.due("26: a query with group 3 and one to all", Nets.framesOf(x, 0, Nets.QUERY), 2);
        x.tick(1);
        check.due("each group once", Nets.framesOn(x, 0), 2);
        check.due("group 0", x.frame(0, 0, 3), 0);
        check.due("group 3", x.frame(0, 1, 3), 3);
    }

    private static void answeredForWhatIsJoinedByThen() {
        check.says("and that it has joined by then");
        GroveWorks x = oneWire(1, 1);
        x.join(0, 0);
        x.join(0, 1);
        x.tick(1);
        x.leave(0, 0);
        x.join(0, 2);
        x.tick(1);
        check.due("reports behind the query with group 0", Nets.framesOf(x, 0, Nets.REPORT), 2);
        check.due("not of the one that it left", x.frame(0, 1, 3), 1);
        check.due("but of the one that it joined later", x.frame(0, 2, 3), 2);
        check.due("a host that has joined none is silent", Nets.framesOf(oneWire(1, 1), 0, Nets.REPORT), 0);
    }

    private static void questions() {
        portNeedsAPort();
        portNeedsAWhat();
        membersNeedsAPort();
    }

    private static void portNeedsAPort() {
        check.says("NONE if there is none such, it is on no WIRE, or for another what.");
        GroveWorks x = oneWire(3, 0);
        x.tick(2);
        for (int r : new int[] {MIN, -1, 3, 10, MAX}) {
            check.due("port(" + r + ", 0, 0)", x.port(r, 0, 0), NONE);
        }
        for (int p : new int[] {MIN, -1, 4, MAX}) {
            check.due("port(0, " + p + ", 0)", x.port(0, p, 0), NONE);
        }
        for (int p = 1; p < 4; p++) {
            for (int what = 0; what < 5; what++) {
                check.due("port(0, " + p + ", " + what + "), on no wire", x.port(0, p, what), NONE);
            }
        }
    }

    private static void portNeedsAWhat() {
        check.says("or for another what");
        GroveWorks x = oneWire(3, 0);
        for (int what : new int[] {MIN, -1, 5, 6, MAX}) {
            check.due("port(0, 0, " + what + ")", x.port(0, 0, what), NONE);
        }
        check.due("port(0, 0, 4)", x.port(0, 0, 4), 1);
    }

    private static void membersNeedsAPort() {
        check.says("0 if it has none, NONE if there is none such.");
        GroveWorks x = oneWire(3, 1);
        x.join(0, 0);
        x.tick(1);
        for (int r : new int[] {MIN, -1, 3, 10, MAX}) {
            check.due("members(" + r + ", 0, 0)", x.members(r, 0, 0), NONE);
        }
        for (int p : new int[] {MIN, -1, 4, MAX}) {
            check.due("members(0, " + p + ", 0)", x.members(0, p, 0), NONE);
        }
        for (int g : new int[] {MIN, -1, 8, MAX}) {
            check.due("members(0, 0, " + g + ")", x.members(0, 0, g), NONE);
        }
        check.due("a port on no wire", x.members(0, 3, 7), 0);
        check.due("none of group 7", x.members(0, 0, 7), 0);
        check.due("members of group 0", x.members(0, 0, 0), 61);
        x.cut(0);
        check.due("none by a cut wire", x.members(0, 0, 0), 0);
    }
}
