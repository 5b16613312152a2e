import java.util.Random;

/**
 * Runs of 512 calls of chance (always the same ones), with arguments that may be anything: no call throws, and two
 * objects for which the same calls are made answer the same.
 */
public final class AnyCallTest {
    private static final int CALLS = 512;
    private static final int KINDS = 34;
    private static final Due due = new Due();
    private static final int[] EDGES = {Integer.MIN_VALUE, Integer.MIN_VALUE + 1, -1600, -255, -2, -1, 0, 1, 2, 3, 4, 5,
        6, 7, 13, 14, 15, 16, 17, 20, 31, 100, 101, 255, 599, 600, 601, 1600, 1601, Integer.MAX_VALUE - 1,
        Integer.MAX_VALUE};

    public static void main(String[] args) {
        int runs = args.length > 0 ? Integer.parseInt(args[0]) : 150;
        int seed = args.length > 1 ? Integer.parseInt(args[1]) : 5;
        Random random = new Random(seed);
        int tables = 0;
        for (int run = 0; run < runs && due.wrongOnes() == 0; run++) {
            ProtocolAtlas one = new ProtocolAtlas();
            ProtocolAtlas two = new ProtocolAtlas();
            for (int k = 0; k < CALLS; k++) {
                k += random.nextInt(40) == 0 ? prepare(one, two, random) : 0;
                int kind = random.nextInt(KINDS);
                int a = any(random);
                int b = any(random);
                int c = any(random);
                due.at("run " + run + ", call " + k);
                String call = "call " + kind + " of " + a + ", " + b + ", " + c;
                due.is(call, answer(call, one, kind, a, b, c), answer(call, two, kind, a, b, c));
            }
            tables += one.has(5) > 0 ? 1 : 0;
        }
        due.is("runs with a table", tables > runs / 2, true);
        due.finish();
    }

    /** Puts a table, a text of a world, an image or something spoilt on both tapes: how many calls that took. */
    private static int prepare(ProtocolAtlas one, ProtocolAtlas two, Random random) {
        int[] bytes = Due.bytesOf(Naive.random(random).told(random));
        boolean told = random.nextInt(3) > 0;
        if (!told) {
            int world = random.nextBoolean() ? -1 : random.nextInt(Math.max(1, one.has(5)));
            int length = world < 0 ? one.image() : one.spell(world);
            due.is("written", world < 0 ? two.image() : two.spell(world), length);
            bytes = Due.written(one, length);
        }
        if (random.nextInt(4) == 0 && bytes.length > 0) {
            bytes[random.nextInt(bytes.length)] = random.nextInt(256);
        }
        one.end(0);
        two.end(0);
        Due.feed(one, bytes);
        Due.feed(two, bytes);
        if (told) {
            due.is("table()", one.table(), two.table());
        }
        return bytes.length / 20 + 4;
    }

    private static int any(Random random) {
        switch (random.nextInt(4)) {
            case 0: return EDGES[random.nextInt(EDGES.length)];
            case 1: return random.nextInt();
            default: return random.nextInt(9) - 1;
        }
    }

    private static int answer(String call, ProtocolAtlas x, int kind, int a, int b, int c) {
        try {
            return kind < 16 ? ofTable(x, kind, a, b, c) : ofWalk(x, kind, a, b);
        } catch (RuntimeException thrown) {
            due.is(call + " threw " + thrown, true, false);
            return 0;
        }
    }

    private static int ofTable(ProtocolAtlas x, int kind, int a, int b, int c) {
        switch (kind) {
            case 0: return x.feed(a, b, c, a, b);
            case 1: return x.end(a) ? 1 : 0;
            case 2: return a == 0 ? x.table() : 0;
            case 3: return x.fault(a);
            case 4: return x.has(a);
            case 5: return x.letter(a, b, c);
            case 6: return x.rule(a, b);
            case 7: return x.world(a, b);
            case 8: return x.agent(a, b, c);
            case 9: return x.leads(a, b, c);
            case 10: return x.way(a, b, c);
            case 11: return x.first(a);
            case 12: return x.part(a, b);
            case 13: return x.returns();
            case 14: return x.starving(a);
            default: return x.uses(a);
        }
    }

    private static int ofWalk(ProtocolAtlas x, int kind, int a, int b) {
        switch (kind) {
            case 16: return x.without(a, b);
            case 17: return x.mend();
            case 18: return x.now(a, b);
            case 19: return x.can(a, b);
            case 20: return x.move(a, b);
            case 21: return x.jump(a) ? 1 : 0;
            case 22: return x.chance(a);
            case 23: return x.undo() ? 1 : 0;
            case 24: return x.seed(a) ? 1 : 0;
            case 25: return x.see(a);
            case 26: return x.could(a);
            case 27: return x.tells(a);
            case 28: return x.spell(a);
            case 29: return x.which();
            case 30: return x.image();
            case 31: return x.octet(a);
            case 32: return x.on() ? 1 : 0;
            default: return x.status(a);
        }
    }
}
