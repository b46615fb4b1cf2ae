/** Nets that several tests use, and questions that take several calls. */
final class Nets {
    static final int HELLO = 1;
    static final int QUERY = 2;
    static final int REPORT = 3;
    static final int LEAVE = 4;
    static final int JOIN = 5;
    static final int PRUNE = 6;
    static final int DATA = 7;
    static final int CLAIM = 8;
    static final int TUNNEL = 9;
    static final int STOP = 10;

    private Nets() {
    }

    /** Each plug: router, port, wire; all costs are 1. */
    static GroveWorks net(int routers, int[]... plugs) {
        GroveWorks x = new GroveWorks(routers);
        for (int[] plug : plugs) {
            x.plug(plug[0], plug[1], plug[2], 1);
        }
        return x;
    }

    /** Host i is put on wire i of these. */
    static GroveWorks hosts(GroveWorks x, int... wires) {
        for (int h = 0; h < wires.length; h++) {
            x.host(h, wires[h]);
        }
        return x;
    }

    /** 0 -w0- 1 -w1- 2, host 0 on w2 of router 0, hosts 1 and 2 on w3 of router 2. */
    static GroveWorks line(int meeting) {
        GroveWorks x = net(3, new int[][] {{0, 0, 0}, {1, 0, 0}, {1, 1, 1}, {2, 0, 1}, {0, 1, 2}, {2, 1, 3}});
        x.meet(0, meeting);
        return hosts(x, 2, 3, 3);
    }

    /** Router 0 is the meeting point, host 0 sends at router 1, host 1 listens at router 2. */
    static GroveWorks triangle() {
        return hosts(net(3, new int[][] {
            {0, 0, 0}, {0, 1, 2}, {1, 0, 1}, {1, 1, 2}, {1, 2, 3}, {2, 0, 0}, {2, 1, 1}, {2, 2, 4},
        }), 3, 4);
    }

    /** The triangle, but wire 0 has a third router, 3, with host 2 on its wire 5. */
    static GroveWorks triangleOfFour() {
        return hosts(net(4, new int[][] {
            {0, 0, 0}, {0, 1, 2}, {1, 0, 1}, {1, 1, 2}, {1, 2, 3}, {2, 0, 0}, {2, 1, 1}, {2, 2, 4},
            {3, 0, 0}, {3, 1, 5},
        }), 3, 4, 5);
    }

    /** Routers 0 and 1 hang on router 2, the meeting point, by wire 0; hosts 0, 1, 2 behind them on 1, 2, 3. */
    static GroveWorks fork() {
        GroveWorks x = net(3, new int[][] {{0, 0, 0}, {1, 0, 0}, {2, 0, 0}, {0, 1, 1}, {1, 1, 2}, {2, 1, 3}});
        x.meet(0, 2);
        return hosts(x, 1, 2, 3);
    }

    /**
     * Routers 1 and 2 both lead from wire 0 of router 3, the meeting point, to wire 1, where router 0 hangs.
     * Host 0 sends on wire 3 of router 3, host 1 listens on wire 1, host 2 on wire 2 of router 0.
     */
    static GroveWorks twoToOne(int costOfOne) {
        GroveWorks x = net(4, new int[][] {
            {3, 0, 0}, {3, 1, 3}, {1, 1, 1}, {2, 0, 0}, {2, 1, 1}, {0, 0, 1}, {0, 1, 2},
        });
        x.plug(1, 0, 0, costOfOne);
        x.meet(0, 3);
        hosts(x, 3, 1, 2);
        x.tick(2);
        x.join(1, 0);
        x.join(2, 0);
        x.tick(4);
        return x;
    }

    /** Plays a triangle, with a third router on wire 0 or without, till router 2 tells that it cuts source 0 off: time 10. */
    static void playTriangle(GroveWorks x) {
        x.tick(2);
        x.join(1, 0);
        x.tick(2);
        x.send(0, 0);
        x.tick(4);
        x.send(0, 0);
        x.tick(2);
    }

    static int framesOn(GroveWorks x, int wire) {
        int n = 0;
        while (x.frame(wire, n, 0) != -2) {
            n++;
        }
        return n;
    }

    static int framesOf(GroveWorks x, int wire, int kind) {
        int n = 0;
        for (int i = 0; x.frame(wire, i, 0) != -2; i++) {
            n += x.frame(wire, i, 0) == kind ? 1 : 0;
        }
        return n;
    }

    /** The first frame of a kind on a wire; -1 if there is none. */
    static int find(GroveWorks x, int wire, int kind) {
        for (int i = 0; x.frame(wire, i, 0) != -2; i++) {
            if (x.frame(wire, i, 0) == kind) {
                return i;
            }
        }
        return -1;
    }

    /** Makes all frames of a kind and a sender that are under way on a wire go; says how many they were. */
    static int drop(GroveWorks x, int wire, int kind, int sender) {
        int n = 0;
        for (int i = framesOn(x, wire) - 1; i >= 0; i--) {
            if (x.frame(wire, i, 0) == kind && x.frame(wire, i, 1) == sender) {
                x.lose(wire, i);
                n++;
            }
        }
        return n;
    }

    static void send(GroveWorks x, int host, int group, int times) {
        for (int i = 0; i < times; i++) {
            x.send(host, group);
        }
    }
}
