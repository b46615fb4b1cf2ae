import java.util.Arrays;
import java.util.Random;

/**
 * "A call that is refused changes nothing." Two objects get the same calls; one of them also gets calls that are to be
 * refused, and questions. All that is asked behind that must be answered alike. No object gets more than 512 calls.
 */
public final class Refused {
    private static final int NONE = GroveWorks.NONE;
    private static final int[] ODD = {Integer.MIN_VALUE, -100, -3, -2, -1, 16, 17, 31, 32, 33, 40, 64, 400, 6001, Integer.MAX_VALUE};
    private static final int RUNS = 600;
    private static final int STEPS = 60;
    private static final int ASKED_LAST = 180;
    private static final Check check = new Check("Refused");

    private final Random random;
    private final int size;
    private final GroveWorks plain;
    private final GroveWorks pestered;
    private final int[][] wireOf;
    private final int[] wireOfHost = new int[16];
    private final boolean[][] joined = new boolean[16][8];
    private final boolean[] cut = new boolean[16];
    private int time = 0;

    private Refused(int seed) {
        random = new Random(seed);
        size = 1 + random.nextInt(10);
        plain = new GroveWorks(size);
        pestered = new GroveWorks(size);
        wireOf = new int[size][4];
        for (int[] row : wireOf) {
            Arrays.fill(row, NONE);
        }
        Arrays.fill(wireOfHost, NONE);
    }

    public static void main(String[] args) {
        check.says("A call that is refused changes nothing.");
        for (int seed = 0; seed < RUNS; seed++) {
            new Refused(seed).play();
        }
        check.end();
    }

    private void play() {
        int wires = 2 + random.nextInt(5);
        for (int i = 0; i < 24; i++) {
            build(wires);
            pester();
        }
        for (int i = 0; i < STEPS; i++) {
            go(wires);
            pester();
            pester();
            askBoth();
        }
        for (int i = 0; i < ASKED_LAST; i++) {
            askBoth();
        }
    }

    private void build(int wires) {
        int r = random.nextInt(size);
        int p = random.nextInt(4);
        int h = random.nextInt(16);
        int w = random.nextInt(wires);
        if (random.nextInt(3) > 0) {
            boolean isFree = wireOf[r][p] == NONE && !isOn(r, w);
            int cost = 1 + random.nextInt(9);
            both("plug", plain.plug(r, p, w, cost), pestered.plug(r, p, w, cost), isFree);
            wireOf[r][p] = isFree ? w : wireOf[r][p];
        } else {
            both("host", plain.host(h, w), pestered.host(h, w), wireOfHost[h] == NONE);
            wireOfHost[h] = wireOfHost[h] == NONE ? w : wireOfHost[h];
        }
    }

    private boolean isOn(int r, int w) {
        for (int wire : wireOf[r]) {
            if (wire == w) {
                return true;
            }
        }
        return false;
    }

    private void go(int wires) {
        int h = random.nextInt(16);
        int g = random.nextInt(8);
        int w = random.nextInt(wires);
        boolean isPut = wireOfHost[h] != NONE;
        switch (random.nextInt(8)) {
            case 0:
                both("join", plain.join(h, g), pestered.join(h, g), isPut && !joined[h][g]);
                joined[h][g] |= isPut;
                break;
            case 1:
                both("leave", plain.leave(h, g), pestered.leave(h, g), joined[h][g]);
                joined[h][g] = false;
                break;
            case 2:
            case 3:
                check.due("send", pestered.send(h, g), plain.send(h, g));
                break;
            case 4:
                boolean wasCut = cut[w];
                boolean isMended = wasCut || random.nextInt(3) > 0;
                both(isMended ? "mend" : "cut", isMended ? plain.mend(w) : plain.cut(w),
                        isMended ? pestered.mend(w) : pestered.cut(w), isMended == wasCut);
                cut[w] = !isMended;
                break;
            default:
                int n = 1 + random.nextInt(5);
                time += n;
                check.due("tick", plain.tick(n), time);
                check.due("tick of the pestered one", pestered.tick(n), time);
                break;
        }
    }

    private void both(String call, boolean ofPlain, boolean ofPestered, boolean want) {
        check.due(call, ofPlain, want);
        check.due(call + " of the pestered one", ofPestered, want);
    }

    private int odd() {
        return ODD[random.nextInt(ODD.length)];
    }

    /** One call that is to be refused for what it names, or one for the state, or a question. */
    private void pester() {
        int kind = random.nextInt(3);
        if (kind == 0) {
            refuseForArguments();
        } else if (kind == 1) {
            refuseForState();
        } else {
            ask(pestered, random.nextInt());
        }
    }

    private void refuseForArguments() {
        int r = random.nextInt(size);
        int h = random.nextInt(16);
        int g = random.nextInt(8);
        int w = random.nextInt(16);
        int at = random.nextInt(4);
        int bad = odd();
        switch (random.nextInt(10)) {
            case 0: refuse("plug", pestered.plug(at == 0 ? bad : r, at == 1 ? bad : 0, at == 2 ? bad : w, at == 3 ? bad : 1)); break;
            case 1: refuse("host", pestered.host(at < 2 ? bad : h, at > 0 ? bad : w)); break;
            case 2: refuse("meet", pestered.meet(at < 2 ? bad : g, at > 0 ? bad : r)); break;
            case 3: refuse("cut", pestered.cut(bad)); break;
            case 4: refuse("mend", pestered.mend(bad)); break;
            case 5: refuse("join", pestered.join(at < 2 ? bad : h, at > 0 ? bad : g)); break;
            case 6: refuse("leave", pestered.leave(at < 2 ? bad : h, at > 0 ? bad : g)); break;
            case 7: check.due("send", pestered.send(at < 2 ? bad : h, at > 0 ? bad : g), NONE); break;
            case 8: refuse("lose", pestered.lose(at < 2 ? bad : w, bad == 16 || bad == 17 || bad > 30 && bad < 40 ? -1 : bad)); break;
            default: check.due("tick", pestered.tick(bad > 0 && bad <= 50 ? 0 : bad), NONE); break;
        }
    }

    private void refuse(String call, boolean got) {
        check.due("refused " + call, got, false);
    }

    private void refuseForState() {
        int r = random.nextInt(size);
        int p = random.nextInt(4);
        int h = random.nextInt(16);
        int g = random.nextInt(8);
        int w = random.nextInt(16);
        boolean isPut = wireOfHost[h] != NONE;
        int kind = random.nextInt(4);
        if (kind == 0 && time > 0) {
            refuse("plug behind time 0", pestered.plug(r, p, w, 1));
        } else if (kind == 1 && time > 0) {
            refuse("meet behind time 0", pestered.meet(g, r));
        } else if (kind == 0 && wireOf[r][p] != NONE) {
            refuse("plug of a port that is put", pestered.plug(r, p, w, 1));
        } else if (kind == 1 && wireOf[r][p] != NONE) {
            refuse("plug of another port there", pestered.plug(r, (p + 1) % 4, wireOf[r][p], 1));
        } else if (kind == 2 && isPut) {
            refuse("host that is put", pestered.host(h, w));
        } else if (kind == 3 && isPut) {
            refuse("join or leave as it is", joined[h][g] ? pestered.join(h, g) : pestered.leave(h, g));
        } else if (kind == 2) {
            refuse("join on no wire", pestered.join(h, g));
        } else if (kind == 3) {
            check.due("send on no wire", pestered.send(h, g), NONE);
        } else {
            refuse("cut or mend as it is", cut[w] ? pestered.cut(w) : pestered.mend(w));
        }
    }

    private void askBoth() {
        int dice = random.nextInt();
        check.due("question", ask(pestered, dice), ask(plain, dice));
    }

    /** A question that the dice name; now and then one that is answered with none. */
    private int ask(GroveWorks x, int dice) {
        Random choice = new Random(dice);
        int r = choice.nextInt(size);
        int p = choice.nextInt(20) == 0 ? 4 : choice.nextInt(4);
        int g = choice.nextInt(20) == 0 ? 8 : choice.nextInt(8);
        int s = choice.nextInt(18) - 1;
        int what = choice.nextInt(9);
        switch (choice.nextInt(8)) {
            case 0: return x.got(choice.nextInt(16), choice.nextInt(30));
            case 1: return x.frame(choice.nextInt(7), choice.nextInt(6), what);
            case 2: return x.way(r, choice.nextBoolean(), choice.nextInt(size + 1), what % 4);
            case 3: return x.port(r, p, what % 6);
            case 4: return x.members(r, p, g);
            case 5: return x.branch(r, p, g, s, what % 5);
            case 6: return x.tree(r, g, s, what);
            default: return x.count(what);
        }
    }
}
