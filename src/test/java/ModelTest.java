import java.util.Random;

/** Compares every answer with those of Model, over many programs and calls drawn from fixed seeds. */
public final class ModelTest {
    private static final int MACHINES = 12000;
    // Keeps a machine under the 512 calls for which it has to answer.
    private static final int ROUNDS = 18;
    private static final int[] PLACES = {
        16, 16, 17, 18, 18, 19, 20, 21, 22, 0, 15, 510, 512, 514, 515, 530, 542, 543, 544, 1022, 1023, 1024, 1026, 1040, 1041,
        1100, 1101, 1102, 1200, 1201, 1202, 1204, 1206, 1208, 1276, 1278, 1279, 1280, 65535};

    private final Random random;
    private final Model model = new Model();
    private final BrownoutCore core = new BrownoutCore();
    private final String seed;

    private ModelTest(long seed) {
        this.random = new Random(seed);
        this.seed = "seed " + seed + ": ";
    }

    public static void main(String[] args) {
        int halted = 0;
        int off = 0;
        int sent = 0;
        int flips = 0;
        for (long seed = 1; seed <= MACHINES && Due.wrongSoFar() < 20; seed++) {
            ModelTest test = new ModelTest(seed);
            test.play();
            halted += test.model.state() == 3 ? 1 : 0;
            off += test.model.state() == 2 ? 1 : 0;
            sent += test.model.radio(-1);
            flips += test.model.flips();
        }
        System.out.println(halted + " halted, " + off + " ended off, " + sent + " records, " + flips + " checkpoints");
        Due.yes("the programs do something", halted > 50 && off > 50 && sent > 1000 && flips > 1000);
        Due.end();
    }

    private void play() {
        loadProgram();
        tellSome();
        int pc = random.nextInt(8) == 0 ? 1024 + random.nextInt(40) : 1024;
        Due.same(seed + "start", core.start(pc) ? 1 : 0, model.start(pc) ? 1 : 0);
        for (int round = 0; round < ROUNDS && model.state() != 3; round++) {
            tellSome();
            if (model.state() == 2 && random.nextInt(8) != 0) {
                Due.same(seed + "boot", core.boot() ? 1 : 0, model.boot() ? 1 : 0);
            } else {
                int n = random.nextInt(10) == 0 ? 200 : random.nextInt(20);
                Due.same(seed + "run " + n, core.run(n), model.run(n));
            }
            compareSome();
        }
        compareAll();
    }

    private void tellSome() {
        if (random.nextInt(3) == 0) {
            int v = random.nextInt();
            Due.same(seed + "sample", core.sample(v) ? 1 : 0, model.sample(v) ? 1 : 0);
        }
        if (random.nextInt(5) == 0) {
            int n = random.nextInt(random.nextInt(3) == 0 ? 8 : 120) - 1;
            Due.same(seed + "failWrite " + n, core.failWrite(n) ? 1 : 0, model.failWrite(n) ? 1 : 0);
        }
        if (random.nextInt(9) == 0) {
            int n = random.nextInt(50) - 1;
            Due.same(seed + "failStep " + n, core.failStep(n) ? 1 : 0, model.failStep(n) ? 1 : 0);
        }
    }

    private void loadProgram() {
        int style = random.nextInt(6);
        int length = 8 + random.nextInt(60);
        for (int k = 0; k < length; k++) {
            int w = style == 0 ? random.nextInt(65536) : instruction();
            load(k, w);
            for (int more = style == 0 ? 0 : wordsAfter(w); more > 0 && k + 1 < length; more--) {
                k++;
                load(k, PLACES[random.nextInt(PLACES.length)]);
            }
        }
        if (random.nextBoolean()) {
            load(length, Asm.jump(7, -1 - random.nextInt(length)));
        }
        for (int i = 0; i < 5; i++) {
            load(88 + random.nextInt(8), random.nextInt());
        }
    }

    private int instruction() {
        int bytes = random.nextInt(2) << 6;
        switch (random.nextInt(9)) {
            case 0:
                return Asm.one(random.nextInt(8), someRegister(), random.nextInt(4)) | bytes;
            case 1:
                return Asm.jump(random.nextInt(8), random.nextInt(24) - 10);
            case 2:
                return Asm.constantTo(Asm.MOV, 1 + random.nextInt(15));
            case 3:
                return Asm.toAbsolute(4 + random.nextInt(12), someRegister()) | bytes;
            case 4:
                return Asm.fromAbsolute(4 + random.nextInt(12), someRegister()) | bytes;
            case 5:
                return Asm.two(4 + random.nextInt(12), 2, 1, 2, 1) | bytes;
            case 6:
                return random.nextInt(65536);
            default:
                return Asm.two(4 + random.nextInt(12), someRegister(), random.nextInt(4), someRegister(),
                        random.nextInt(2)) | bytes;
        }
    }

    /** How many words behind the instruction it fetches, roughly: what is wrong here is no matter. */
    private static int wordsAfter(int w) {
        int m = w >> 4 & 3;
        if (w >> 12 < 4) {
            return w >> 10 == 4 && (m == 1 || m == 3 && (w & 15) == 0) ? 1 : 0;
        }
        int s = w >> 8 & 15;
        boolean ofSource = m == 1 && s != 3 || m == 3 && s == 0;
        return (ofSource ? 1 : 0) + (w >> 7 & 1);
    }

    private int someRegister() {
        return random.nextInt(4) == 0 ? random.nextInt(4) : 4 + random.nextInt(4);
    }

    private void load(int k, int w) {
        Due.same(seed + "load " + k, core.load(k, w) ? 1 : 0, model.load(k, w) ? 1 : 0);
    }

    private void compareSome() {
        Due.same(seed + "state", core.state(), model.state());
        Due.same(seed + "section", core.section(), model.section());
        Due.same(seed + "writes", core.writes(), model.writes());
        Due.same(seed + "retired", core.retired(), model.retired());
        int address = PLACES[random.nextInt(PLACES.length)];
        Due.same(seed + "memory " + address, core.memory(address), model.memory(address));
        int k = random.nextInt(18) - 1;
        Due.same(seed + "register " + k, core.register(k), model.register(k));
    }

    private void compareAll() {
        Due.same(seed + "flips", core.flips(), model.flips());
        Due.same(seed + "waiting", core.waiting(), model.waiting());
        for (int k = 0; k < 16; k++) {
            Due.same(seed + "register " + k, core.register(k), model.register(k));
            Due.same(seed + "SRAM " + k, core.memory(512 + 2 * k), model.memory(512 + 2 * k));
        }
        for (int k = 0; k < 128; k++) {
            Due.same(seed + "fram " + k, core.fram(k), model.fram(k));
        }
        for (int k = -1; k < model.radio(-1); k++) {
            Due.same(seed + "radio " + k, core.radio(k), model.radio(k));
        }
    }
}
