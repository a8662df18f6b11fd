/** Promises 1 to 6 and 9 to 14 at their edges: what each call takes, refuses, and leaves alone. */
public final class CallsTest {
    private static final int[] FAR = {Integer.MIN_VALUE, -65536, -2, Integer.MAX_VALUE};

    public static void main(String[] args) {
        aNewObject();
        load();
        loadAfterTheStart();
        start();
        startTakesSixteenBits();
        sample();
        samplesKeepTheirOrder();
        sampleInEveryState();
        failWriteTakesItsRange();
        failStepTakesItsRange();
        runRefuses();
        bootRefuses();
        readersAnswerZeroOutside();
        Due.end();
    }

    private static void aNewObject() {
        BrownoutCore x = new BrownoutCore();
        Due.same("state", x.state(), 0);
        for (int k = 0; k < 16; k++) {
            Due.same("register " + k, x.register(k), 0);
        }
        for (int k = 0; k < 128; k++) {
            Due.same("fram " + k, x.fram(k), 0);
            Due.same("memory of word " + k, x.memory(1024 + 2 * k), 0);
        }
        for (int address = 512; address < 544; address++) {
            Due.same("memory " + address, x.memory(address), 0);
        }
        Due.same("waiting", x.waiting(), 0);
        Due.same("records", x.radio(-1), 0);
        Due.same("record 0", x.radio(0), 0);
        Due.same("writes", x.writes(), 0);
        Due.same("flips", x.flips(), 0);
        Due.same("retired", x.retired(), 0);
        Due.same("section", x.section(), 0);
    }

    private static void load() {
        BrownoutCore x = new BrownoutCore();
        for (int k = 0; k < 128; k++) {
            Due.yes("load " + k, x.load(k, 1000 + k));
        }
        for (int k = 0; k < 128; k++) {
            Due.same("fram " + k, x.fram(k), 1000 + k);
            Due.same("memory of word " + k, x.memory(1024 + 2 * k), 1000 + k);
        }
        Due.no("load(-1)", x.load(-1, 5));
        Due.no("load(128)", x.load(128, 5));
        for (int k : FAR) {
            Due.no("load " + k, x.load(k, 5));
        }
        Due.same("fram 0 after wrong loads", x.fram(0), 1000);
        Due.same("fram 127 after wrong loads", x.fram(127), 1127);
        Due.yes("load again", x.load(3, 65536 + 7));
        Due.same("lowest 16 bits", x.fram(3), 7);
        Due.yes("load of -1", x.load(3, -1));
        Due.same("lowest 16 bits of -1", x.fram(3), 65535);
        Due.same("a load is no WRITE", x.writes(), 0);
        Due.same("a load tracks nothing", x.section(), 0);
        Due.same("a load leaves the machine new", x.state(), 0);
    }

    private static void loadAfterTheStart() {
        BrownoutCore on = Asm.started(Asm.jump(7, -1));
        Due.no("load while on", on.load(5, 9));
        Due.same("fram 5", on.fram(5), 0);
        on.failStep(1);
        on.run(1);
        Due.no("load while off", on.load(5, 9));
        Due.same("fram 5", on.fram(5), 0);
        BrownoutCore halted = Asm.started(halt());
        halted.run(1);
        Due.same("state", halted.state(), 3);
        Due.no("load when halted", halted.load(5, 9));
        Due.same("fram 5", halted.fram(5), 0);
    }

    private static void start() {
        BrownoutCore x = Asm.loaded(Asm.jump(7, -1));
        Due.yes("start", x.start(1024));
        Due.same("state", x.state(), 1);
        Due.same("PC", x.register(0), 1024);
        Due.same("section", x.section(), 0);
        Due.no("start while on", x.start(1030));
        Due.same("PC", x.register(0), 1024);
        x.failStep(1);
        x.run(1);
        Due.no("start while off", x.start(1030));
        Due.same("state", x.state(), 2);
        Due.yes("boot", x.boot());
        Due.same("PC", x.register(0), 1024);
        BrownoutCore halted = Asm.started(halt());
        halted.run(1);
        Due.no("start when halted", halted.start(1030));
        Due.same("state", halted.state(), 3);
    }

    private static void startTakesSixteenBits() {
        int[][] pcAndDue = {{1025, 1024}, {0, 0}, {65535, 65534}, {65536 + 1026, 1026}, {-1, 65534}, {-65536, 0}};
        for (int[] row : pcAndDue) {
            BrownoutCore x = new BrownoutCore();
            Due.yes("start " + row[0], x.start(row[0]));
            Due.same("PC after start " + row[0], x.register(0), row[1]);
            for (int k = 1; k < 16; k++) {
                Due.same("register " + k, x.register(k), 0);
            }
        }
    }

    private static void sample() {
        BrownoutCore x = new BrownoutCore();
        for (int k = 1; k <= 16; k++) {
            Due.yes("sample " + k, x.sample(k));
            Due.same("waiting", x.waiting(), k);
        }
        Due.no("sample 17", x.sample(17));
        Due.same("waiting", x.waiting(), 16);
        Due.same("state", x.state(), 0);
        Due.same("writes", x.writes(), 0);
    }

    /** The ring is used over its end: 16 wait, some are taken, others come behind. */
    private static void samplesKeepTheirOrder() {
        BrownoutCore x = Asm.started(sensorTo(4), Asm.SENSOR, Asm.jump(7, -3));
        for (int k = 0; k < 16; k++) {
            x.sample(100 + k);
        }
        int next = 116;
        for (int k = 0; k < 40; k++) {
            x.run(1);
            Due.same("sample " + k, x.register(4), 100 + k);
            Due.same("waiting after taking", x.waiting(), 15);
            Due.yes("sample", x.sample(65536 + next));
            Due.no("sample when 16 wait", x.sample(1));
            next++;
            x.run(1);
        }
        BrownoutCore bits = Asm.started(sensorTo(4), Asm.SENSOR);
        bits.sample(-2);
        bits.run(1);
        Due.same("lowest 16 bits of -2", bits.register(4), 65534);
    }

    private static void sampleInEveryState() {
        BrownoutCore x = Asm.loaded(halt());
        Due.yes("sample while new", x.sample(1));
        x.start(1024);
        Due.yes("sample while on", x.sample(2));
        x.failStep(1);
        x.run(1);
        Due.same("state", x.state(), 2);
        Due.same("waiting stays while off", x.waiting(), 2);
        Due.yes("sample while off", x.sample(3));
        x.boot();
        x.run(1);
        Due.same("state", x.state(), 3);
        Due.yes("sample when halted", x.sample(4));
        Due.same("waiting", x.waiting(), 4);
    }

    private static void failWriteTakesItsRange() {
        BrownoutCore x = new BrownoutCore();
        for (int n : new int[] {0, 1, 2, 999, 1000}) {
            Due.yes("failWrite " + n, x.failWrite(n));
        }
        for (int n : new int[] {-1, 1001, Integer.MIN_VALUE, Integer.MAX_VALUE}) {
            Due.no("failWrite " + n, x.failWrite(n));
        }
        BrownoutCore kept = Asm.started(halt());
        kept.failWrite(5);
        kept.failWrite(1001);
        kept.failWrite(-1);
        Due.same("a wrong n leaves the failure told", kept.run(1), 0);
        Due.same("writes", kept.writes(), 4);
        Due.same("state", kept.state(), 2);
    }

    private static void failStepTakesItsRange() {
        BrownoutCore x = new BrownoutCore();
        for (int n : new int[] {0, 1, 2, 999, 1000}) {
            Due.yes("failStep " + n, x.failStep(n));
        }
        for (int n : new int[] {-1, 1001, Integer.MIN_VALUE, Integer.MAX_VALUE}) {
            Due.no("failStep " + n, x.failStep(n));
        }
        BrownoutCore kept = Asm.started(Asm.jump(7, -1));
        kept.failStep(3);
        kept.failStep(1001);
        kept.failStep(-1);
        Due.same("a wrong n leaves the failure told", kept.run(9), 2);
        Due.same("state", kept.state(), 2);
    }

    private static void runRefuses() {
        BrownoutCore x = Asm.loaded(Asm.jump(7, -1));
        Due.same("run while new", x.run(1), -1);
        Due.same("run(0) while new", x.run(0), -1);
        x.start(1024);
        for (int n : new int[] {-1, 201, Integer.MIN_VALUE, Integer.MAX_VALUE}) {
            Due.same("run " + n, x.run(n), -1);
        }
        Due.same("retired", x.retired(), 0);
        Due.same("run(0)", x.run(0), 0);
        Due.same("run(1)", x.run(1), 1);
        Due.same("run(200)", x.run(200), 200);
        Due.same("retired", x.retired(), 201);
        x.failStep(1);
        Due.same("run(0) makes no step", x.run(0), 0);
        Due.same("state", x.state(), 1);
        Due.same("run that fails at once", x.run(7), 0);
        Due.same("run while off", x.run(1), -1);
        Due.same("run(0) while off", x.run(0), -1);
        Due.same("state", x.state(), 2);
        BrownoutCore halted = Asm.started(halt());
        Due.same("run that halts", halted.run(200), 1);
        Due.same("run when halted", halted.run(1), -1);
        Due.same("run(0) when halted", halted.run(0), -1);
    }

    private static void bootRefuses() {
        BrownoutCore x = Asm.loaded(halt());
        Due.no("boot while new", x.boot());
        Due.same("state", x.state(), 0);
        x.start(1024);
        Due.no("boot while on", x.boot());
        Due.same("state", x.state(), 1);
        x.failStep(1);
        x.run(1);
        Due.yes("boot while off", x.boot());
        Due.same("state", x.state(), 1);
        x.run(1);
        Due.no("boot when halted", x.boot());
        Due.same("state", x.state(), 3);
    }

    private static void readersAnswerZeroOutside() {
        BrownoutCore x = Asm.started(
                Asm.two(Asm.MOV, 3, 3, 15, 0),
                Asm.toAbsolute(Asm.MOV, 15), 512,
                Asm.toAbsolute(Asm.MOV, 15), 542,
                Asm.toAbsolute(Asm.MOV, 15), Asm.RADIO,
                Asm.toAbsolute(Asm.MOV, 15), Asm.HALT);
        BrownoutCore full = new BrownoutCore();
        full.load(0, 65535);
        full.load(127, 65535);
        Due.same("run", x.run(9), 5);
        Due.same("register(15)", x.register(15), 65535);
        for (int k : new int[] {-1, 16, 17, Integer.MIN_VALUE, Integer.MAX_VALUE}) {
            Due.same("register " + k, x.register(k), 0);
        }
        for (int address : new int[] {512, 513, 542, 543}) {
            Due.same("memory " + address, x.memory(address), 65535);
        }
        for (int address : new int[] {1024, 1025, 1278, 1279}) {
            Due.same("memory " + address, full.memory(address), 65535);
        }
        int[] nowhere = {-1, 0, 16, 17, 18, 19, 20, 21, 510, 511, 544, 545, 1022, 1023, 1280, 1281, 65535,
            65536 + 512, 65536 + 1024, 512 - 65536, Integer.MIN_VALUE, Integer.MAX_VALUE};
        for (int address : nowhere) {
            Due.same("memory " + address, x.memory(address), 0);
            Due.same("memory " + address, full.memory(address), 0);
        }
        Due.same("fram 127", full.fram(127), 65535);
        for (int k : new int[] {-1, 128, Integer.MIN_VALUE, Integer.MAX_VALUE}) {
            Due.same("fram " + k, full.fram(k), 0);
        }
        Due.same("radio(-1)", x.radio(-1), 1);
        Due.same("radio(0)", x.radio(0), 65535);
        for (int k : new int[] {-2, 1, 199, 200, 201, Integer.MIN_VALUE, Integer.MAX_VALUE}) {
            Due.same("radio " + k, x.radio(k), 0);
        }
    }

    private static int[] halt() {
        return new int[] {Asm.toAbsolute(Asm.MOV, 3), Asm.HALT};
    }

    private static int sensorTo(int register) {
        return Asm.fromAbsolute(Asm.MOV, register);
    }
}
