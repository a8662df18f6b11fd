import java.util.Random;

/** Any call with any argument in any state: every answer is that of Model, and none throws. */
public final class AnyCallsTest {
    private static final int MACHINES = 4000;
    private static final int CALLS = 300;
    private static final int[] EDGES = {
        Integer.MIN_VALUE, -65537, -65536, -2, -1, 0, 1, 2, 3, 15, 16, 17, 18, 20, 36, 37, 38, 39, 40, 100, 127, 128, 199, 200, 201,
        511, 512, 513, 543, 544, 999, 1000, 1001, 1023, 1024, 1025, 1040, 1200, 1278, 1279, 1280, 65534, 65535, 65536, 66560,
        Integer.MAX_VALUE};
    /** A loop that senses, sends, changes FRAM and SRAM, and halts when it has sensed 7. */
    private static final int[] LOOP = {
        Asm.fromAbsolute(Asm.MOV, 4), Asm.SENSOR,
        Asm.toAbsolute(Asm.ADD, 4), 1200,
        Asm.bytes(Asm.toAbsolute(Asm.MOV, 4)), 1025 + 2 * 90,
        Asm.two(Asm.MOV, 2, 1, 2, 1), 1200, Asm.RADIO,
        Asm.toAbsolute(Asm.XOR, 4), 542,
        Asm.constantTo(Asm.CMP, 4), 7,
        Asm.jump(0, -14),
        Asm.toAbsolute(Asm.MOV, 3), Asm.HALT};

    private final Random random;
    private final Model model = new Model();
    private final BrownoutCore core = new BrownoutCore();

    private AnyCallsTest(long seed) {
        random = new Random(seed);
    }

    public static void main(String[] args) {
        int[] ends = new int[4];
        for (long seed = 1; seed <= MACHINES && Due.wrongSoFar() < 20; seed++) {
            AnyCallsTest test = new AnyCallsTest(seed);
            test.play(seed);
            ends[test.model.state()]++;
        }
        for (int state = 1; state < 4; state++) {
            Due.yes("machines that end in state " + state, ends[state] > 100);
        }
        Due.end();
    }

    private void play(long seed) {
        for (int k = 0; k < LOOP.length; k++) {
            core.load(k, LOOP[k]);
            model.load(k, LOOP[k]);
        }
        for (int i = 0; i < CALLS; i++) {
            int call = random.nextInt(20);
            int argument = random.nextInt(3) == 0 ? random.nextInt(60) - 5 : EDGES[random.nextInt(EDGES.length)];
            Due.same("seed " + seed + ", call " + i + " (" + call + ", " + argument + ")",
                    ofCore(call, argument), ofModel(call, argument));
        }
    }

    private int ofCore(int call, int n) {
        return switch (call) {
            case 0 -> core.load(n, 65536 - n) ? 1 : 0;
            case 1 -> core.start(n % 3 == 0 ? n : 1024) ? 1 : 0;
            case 2 -> core.sample(n) ? 1 : 0;
            case 3 -> core.failWrite(n) ? 1 : 0;
            case 4 -> core.failStep(n) ? 1 : 0;
            case 5, 6 -> core.run(n);
            case 7, 8, 9 -> core.boot() ? 1 : 0;
            case 10 -> core.state();
            case 11 -> core.register(n);
            case 12 -> core.memory(n);
            case 13 -> core.fram(n);
            case 14 -> core.radio(n);
            case 15 -> core.waiting();
            case 16 -> core.writes();
            case 17 -> core.flips();
            case 18 -> core.retired();
            default -> core.section();
        };
    }

    private int ofModel(int call, int n) {
        return switch (call) {
            case 0 -> model.load(n, 65536 - n) ? 1 : 0;
            case 1 -> model.start(n % 3 == 0 ? n : 1024) ? 1 : 0;
            case 2 -> model.sample(n) ? 1 : 0;
            case 3 -> model.failWrite(n) ? 1 : 0;
            case 4 -> model.failStep(n) ? 1 : 0;
            case 5, 6 -> model.run(n);
            case 7, 8, 9 -> model.boot() ? 1 : 0;
            case 10 -> model.state();
            case 11 -> model.register(n);
            case 12 -> model.memory(n);
            case 13 -> model.fram(n);
            case 14 -> model.radio(n);
            case 15 -> model.waiting();
            case 16 -> model.writes();
            case 17 -> model.flips();
            case 18 -> model.retired();
            default -> model.section();
        };
    }
}
