/** What a failure of the power leaves, and what booting makes of it (promises 5 to 10 and 15 to 18). */
public final class FailureTest {
    private static final int[] PROGRAM = {
        Asm.fromAbsolute(Asm.MOV, 4), Asm.SENSOR,
        Asm.toAbsolute(Asm.ADD, 4), 1200,
        Asm.toAbsolute(Asm.MOV, 4), Asm.RADIO,
        Asm.toAbsolute(Asm.MOV, 3), Asm.HALT};

    public static void main(String[] args) {
        theExampleOfTheReadme();
        everyWriteOfOneCheckpoint();
        everyWriteOfBooting();
        recordsSentBeforeAFailureAreNotSentAgain();
        whatIsLost();
        whatStays();
        failureBeforeAStep();
        stepsAreCountedOverRuns();
        aFailureClearsBoth();
        aFailureCanBeTakenBack();
        aFailureIsReplaced();
        toldInWhateverState();
        countedFromTheTelling();
        aWriteOfTheProgramFails();
        theSensorsWritesFail();
        secondSensorLoadAfterAFailure();
        haltThatFails();
        stepWithACheckpointThatFails();
        sramAndRegistersOfTheCheckpoint();
        retiredWhileOff();
        bootWritesNothingWhenFinished();
        Due.end();
    }

    private static void theExampleOfTheReadme() {
        BrownoutCore x = Asm.loaded(0x4216, 16, 0x4682, 18, 0x4392, 20);
        x.start(1024);
        x.sample(77);
        x.failWrite(10);
        Due.same("run", x.run(200), 2);
        Due.same("state", x.state(), 2);
        Due.yes("boot", x.boot());
        Due.same("run", x.run(200), 3);
        Due.same("state", x.state(), 3);
        Due.same("radio", x.radio(0), 77);
    }

    /**
     * WRITES: 1, 2 the log; 3 to 41 what is kept aside (36 + 2 + 1); 42 the FLIP; 43 the word; 44, 45 the
     * record; 46 the log; 47 one more.
     */
    private static void everyWriteOfOneCheckpoint() {
        for (int n = 1; n <= 48; n++) {
            BrownoutCore x = Asm.started(PROGRAM);
            x.sample(70);
            x.sample(80);
            x.failWrite(n);
            String at = "failWrite(" + n + "): ";
            boolean fails = n <= 47;
            boolean flipped = n > 42;
            Due.same(at + "run", x.run(9), n <= 2 ? 0 : fails ? 3 : 4);
            Due.same(at + "state", x.state(), fails ? 2 : 3);
            Due.same(at + "writes", x.writes(), n - 1);
            Due.same(at + "waiting", x.waiting(), 1);
            Due.same(at + "flips", x.flips(), flipped ? 1 : 0);
            Due.same(at + "retired", x.retired(), flipped ? 4 : 0);
            Due.same(at + "fram", x.fram(88), n > 43 ? 70 : 0);
            Due.same(at + "memory", x.memory(1200), n > 43 ? 70 : 0);
            Due.same(at + "radio(-1)", x.radio(-1), n > 45 ? 1 : 0);
            Due.same(at + "radio(0)", x.radio(0), n > 45 ? 70 : 0);
            Due.same(at + "section", x.section(), n > 2 && n <= 46 ? 2048 : 0);
            Due.same(at + "register", x.register(4), fails ? 0 : 70);
            if (fails) {
                bootAndGoOn(x, n, at);
            }
        }
    }

    private static void bootAndGoOn(BrownoutCore x, int n, String at) {
        boolean flipped = n > 42;
        int[] writesOfBooting = {5, 5, 5, 3, 3};
        int writes = x.writes() + (flipped ? writesOfBooting[n - 43] : 0);
        Due.yes(at + "boot", x.boot());
        Due.same(at + "state after boot", x.state(), flipped ? 3 : 1);
        Due.same(at + "writes after boot", x.writes(), writes);
        Due.same(at + "section after boot", x.section(), n > 2 && !flipped ? 2048 : 0);
        Due.same(at + "retired after boot", x.retired(), flipped ? 4 : 0);
        Due.same(at + "PC after boot", x.register(0), flipped ? 1040 : 1024);
        Due.same(at + "R4 after boot", x.register(4), flipped ? 70 : 0);
        Due.same(at + "run after boot", x.run(9), flipped ? -1 : 4);
        // The sample whose WRITES were not done is lost: the next one is taken.
        int due = n <= 2 ? 80 : 70;
        Due.same(at + "state at the end", x.state(), 3);
        Due.same(at + "fram at the end", x.fram(88), due);
        Due.same(at + "records at the end", x.radio(-1), 1);
        Due.same(at + "record at the end", x.radio(0), due);
        Due.same(at + "section at the end", x.section(), 0);
        Due.same(at + "retired at the end", x.retired(), 4);
        Due.same(at + "waiting at the end", x.waiting(), n <= 2 ? 0 : 1);
        Due.same(at + "flips at the end", x.flips(), 1);
    }

    private static void everyWriteOfBooting() {
        for (int n = 1; n <= 6; n++) {
            BrownoutCore x = Asm.started(PROGRAM);
            x.sample(70);
            x.failWrite(43);
            x.run(9);
            String at = "failing boot " + n + ": ";
            x.failWrite(n);
            Due.same(at + "boot", x.boot() ? 1 : 0, n <= 5 ? 0 : 1);
            Due.same(at + "state", x.state(), n <= 5 ? 2 : 3);
            Due.same(at + "writes", x.writes(), 42 + n - 1);
            Due.same(at + "fram", x.fram(88), n > 1 ? 70 : 0);
            Due.same(at + "records", x.radio(-1), n > 3 ? 1 : 0);
            Due.same(at + "section", x.section(), n > 4 ? 0 : 2048);
            Due.same(at + "register", x.register(4), n <= 5 ? 0 : 70);
            Due.same(at + "retired", x.retired(), 4);
            Due.same(at + "boot again", x.boot() ? 1 : 0, n <= 5 ? 1 : 0);
            Due.same(at + "state", x.state(), 3);
            Due.same(at + "fram", x.fram(88), 70);
            Due.same(at + "records", x.radio(-1), 1);
            Due.same(at + "flips", x.flips(), 1);
        }
    }

    /** Three records in the queue: 36 + 3, the FLIP, then the records with WRITES 41 to 46. */
    private static void recordsSentBeforeAFailureAreNotSentAgain() {
        int[] program = {
            Asm.two(Asm.MOV, 3, 1, 2, 1), Asm.RADIO,
            Asm.two(Asm.MOV, 3, 2, 2, 1), Asm.RADIO,
            Asm.two(Asm.MOV, 2, 2, 2, 1), Asm.RADIO,
            Asm.toAbsolute(Asm.MOV, 3), Asm.HALT};
        for (int n = 41; n <= 48; n++) {
            BrownoutCore x = Asm.started(program);
            x.failWrite(n);
            x.run(9);
            int sent = (n - 41) / 2;
            Due.same("sent before WRITE " + n, x.radio(-1), sent);
            Due.same("the record behind those sent", x.radio(sent), 0);
            x.failWrite(3);
            boolean booted = x.boot();
            int left = 3 - sent;
            Due.same("boot", booted ? 1 : 0, left == 0 ? 1 : 0);
            Due.same("sent then", x.radio(-1), left == 0 ? 3 : sent + 1);
            x.boot();
            Due.same("sent in the end", x.radio(-1), 3);
            Due.same("record 0", x.radio(0), 1);
            Due.same("record 1", x.radio(1), 2);
            Due.same("record 2", x.radio(2), 4);
            int secondBoot = left == 0 ? 0 : 2 * (left - 1) + 2;
            Due.same("writes", x.writes(), n - 1 + 2 + secondBoot);
        }
    }

    private static void whatIsLost() {
        BrownoutCore x = Asm.started(
                Asm.constantTo(Asm.MOV, 4), 1234,
                Asm.toAbsolute(Asm.MOV, 4), 512,
                Asm.toAbsolute(Asm.ADD, 4), 1200,
                Asm.toAbsolute(Asm.MOV, 4), Asm.RADIO,
                Asm.two(Asm.MOV, 3, 3, 2, 0),
                Asm.jump(7, -1));
        x.run(5);
        Due.same("section before", x.section(), 10 + 32 + 256);
        x.failStep(1);
        x.run(1);
        for (int k = 0; k < 16; k++) {
            Due.same("register " + k + " while off", x.register(k), 0);
        }
        Due.same("SRAM while off", x.memory(512), 0);
        Due.same("the buffer while off", x.memory(1200), 0);
        Due.same("section while off", x.section(), 0);
        Due.same("records while off", x.radio(-1), 0);
        Due.yes("boot", x.boot());
        Due.same("PC", x.register(0), 1024);
        for (int k = 1; k < 16; k++) {
            Due.same("register " + k + " at the start again", x.register(k), 0);
        }
        Due.same("SRAM at the start again", x.memory(512), 0);
        Due.same("the buffer", x.memory(1200), 0);
        Due.same("section", x.section(), 0);
    }

    private static void whatStays() {
        BrownoutCore x = Asm.started(
                Asm.two(Asm.MOV, 3, 2, 2, 1), 1200,
                Asm.fromAbsolute(Asm.MOV, 5), Asm.SENSOR,
                Asm.jump(7, -1));
        x.sample(1);
        x.sample(2);
        x.run(2);
        x.failStep(1);
        x.run(1);
        Due.same("FRAM written in the section", x.fram(88), 2);
        Due.same("memory while off", x.memory(1200), 2);
        Due.same("memory while off, odd address", x.memory(1201), 2);
        Due.same("the log", x.section(), 2048);
        Due.same("samples", x.waiting(), 1);
        Due.same("writes", x.writes(), 3);
        x.boot();
        x.run(2);
        Due.same("written again", x.writes(), 4);
        Due.same("the logged value again", x.register(5), 1);
        Due.same("samples", x.waiting(), 1);
        Due.same("retired", x.retired(), 2);
    }

    private static void failureBeforeAStep() {
        for (int n = 1; n <= 5; n++) {
            BrownoutCore x = Asm.started(Asm.two(Asm.ADD, 3, 1, 5, 0), Asm.jump(7, -2));
            x.failStep(n);
            Due.same("run to step " + n, x.run(200), n - 1);
            Due.same("state", x.state(), 2);
            Due.same("retired", x.retired(), 0);
            Due.same("writes", x.writes(), 0);
        }
        BrownoutCore far = Asm.started(Asm.jump(7, -1));
        far.failStep(1000);
        for (int i = 0; i < 4; i++) {
            Due.same("run", far.run(200), 200);
        }
        Due.same("the 1000th step fails", far.run(200), 199);
        Due.same("state", far.state(), 2);
    }

    private static void stepsAreCountedOverRuns() {
        BrownoutCore x = Asm.started(Asm.jump(7, -1));
        x.failStep(5);
        Due.same("run", x.run(2), 2);
        Due.same("run", x.run(2), 2);
        Due.same("state", x.state(), 1);
        Due.same("run", x.run(2), 0);
        Due.same("state", x.state(), 2);
        x.boot();
        Due.same("run after it", x.run(200), 200);
    }

    private static void aFailureClearsBoth() {
        BrownoutCore x = Asm.started(PROGRAM);
        x.failWrite(1);
        x.failStep(2);
        Due.same("run", x.run(9), 0);
        x.boot();
        Due.same("no failing step is left", x.run(9), 4);
        BrownoutCore y = Asm.started(PROGRAM);
        y.failWrite(3);
        y.failStep(2);
        Due.same("run", y.run(9), 1);
        y.boot();
        Due.same("no failing WRITE is left", y.run(9), 4);
        BrownoutCore z = Asm.started(PROGRAM);
        z.failWrite(43);
        z.run(9);
        z.failWrite(1);
        z.failStep(1);
        Due.no("boot fails", z.boot());
        Due.yes("then it doesn't", z.boot());
        BrownoutCore w = Asm.started(Asm.jump(7, -1));
        w.failStep(1);
        w.run(1);
        w.failStep(2);
        Due.yes("boot makes no step", w.boot());
        Due.same("run", w.run(5), 1);
    }

    private static void aFailureCanBeTakenBack() {
        BrownoutCore x = Asm.started(PROGRAM);
        x.failWrite(3);
        x.failStep(2);
        Due.yes("failWrite(0)", x.failWrite(0));
        Due.yes("failStep(0)", x.failStep(0));
        Due.same("run", x.run(9), 4);
        BrownoutCore y = Asm.started(PROGRAM);
        y.failWrite(3);
        y.failStep(4);
        y.failWrite(0);
        Due.same("the step still fails", y.run(9), 3);
        BrownoutCore z = Asm.started(PROGRAM);
        z.failWrite(3);
        z.failStep(2);
        z.failStep(0);
        Due.same("the WRITE still fails", z.run(9), 3);
        Due.same("writes", z.writes(), 2);
    }

    private static void aFailureIsReplaced() {
        BrownoutCore x = Asm.started(PROGRAM);
        x.failWrite(1);
        x.failWrite(40);
        x.run(9);
        Due.same("the later telling", x.writes(), 39);
        BrownoutCore y = Asm.started(PROGRAM);
        y.failStep(4);
        y.failStep(2);
        Due.same("the later telling", y.run(9), 1);
    }

    private static void toldInWhateverState() {
        BrownoutCore x = Asm.loaded(PROGRAM);
        Due.yes("while new", x.failWrite(45));
        x.start(1024);
        Due.same("run", x.run(9), 3);
        Due.same("writes", x.writes(), 44);
        Due.yes("while off", x.failWrite(2));
        Due.no("boot", x.boot());
        Due.same("writes", x.writes(), 45);
        Due.yes("boot", x.boot());
        Due.same("state", x.state(), 3);
        Due.yes("when halted", x.failWrite(1));
        Due.yes("when halted", x.failStep(1));
        Due.same("nothing fails any more", x.state(), 3);
        BrownoutCore y = Asm.loaded(PROGRAM);
        Due.yes("while new", y.failStep(3));
        y.start(1024);
        Due.same("run", y.run(9), 2);
    }

    private static void countedFromTheTelling() {
        BrownoutCore x = Asm.started(PROGRAM);
        x.run(1);
        Due.same("writes", x.writes(), 2);
        x.failWrite(2);
        x.run(9);
        Due.same("writes", x.writes(), 3);
        BrownoutCore far = Asm.started(Asm.two(Asm.MOV, 3, 1, 2, 1), 1200, Asm.jump(7, -3));
        far.failWrite(1000);
        int steps = 0;
        for (int i = 0; i < 20 && far.state() == 1; i++) {
            steps += far.run(200);
        }
        Due.same("999 WRITES were done", far.writes(), 999);
        Due.same("two steps for each", steps, 2 * 999);
        Due.same("state", far.state(), 2);
    }

    private static void aWriteOfTheProgramFails() {
        BrownoutCore x = Asm.started(
                Asm.constantTo(Asm.MOV, 1), 1280,
                Asm.one(Asm.CALL, 0, 3), 1100);
        x.failWrite(1);
        Due.same("run", x.run(9), 1);
        Due.same("state", x.state(), 2);
        Due.same("nothing was stored", x.fram(127), 0);
        Due.same("writes", x.writes(), 0);
        Due.same("retired", x.retired(), 0);
        Due.same("PC", x.register(0), 0);
        x.boot();
        Due.same("retired", x.retired(), 0);
        Due.same("run", x.run(2), 2);
        Due.same("stored", x.fram(127), 1032);
    }

    private static void theSensorsWritesFail() {
        for (int n = 1; n <= 3; n++) {
            BrownoutCore x = Asm.started(Asm.two(Asm.MOV, 2, 1, 2, 1), Asm.SENSOR, 1200);
            x.sample(5);
            x.sample(6);
            x.failWrite(n);
            Due.same("run", x.run(1), 0);
            Due.same("writes", x.writes(), n - 1);
            Due.same("the sample was taken", x.waiting(), 1);
            Due.same("the log", x.section(), n == 3 ? 2048 : 0);
            Due.same("the store after it was not done", x.fram(88), 0);
            x.boot();
            x.run(1);
            Due.same("value after boot", x.fram(88), n == 3 ? 5 : 6);
            Due.same("waiting", x.waiting(), n == 3 ? 1 : 0);
        }
    }

    private static void secondSensorLoadAfterAFailure() {
        for (int n = 1; n <= 4; n++) {
            BrownoutCore x = Asm.started(Asm.two(Asm.CMP, 2, 1, 2, 1), Asm.SENSOR, Asm.SENSOR);
            x.sample(5);
            x.sample(6);
            x.sample(7);
            x.failWrite(n);
            x.run(1);
            Due.same("only what came before is taken", x.waiting(), n <= 2 ? 2 : 1);
            Due.same("log", x.section(), n <= 2 ? 0 : 2048);
            Due.same("writes", x.writes(), n - 1);
        }
    }

    private static void haltThatFails() {
        BrownoutCore x = Asm.started(Asm.toAbsolute(Asm.MOV, 3), Asm.HALT);
        x.failWrite(37);
        Due.same("run", x.run(9), 0);
        Due.same("state", x.state(), 2);
        Due.same("flips", x.flips(), 0);
        Due.yes("boot", x.boot());
        Due.same("not halted: there was no FLIP", x.state(), 1);
        Due.same("PC", x.register(0), 1024);
        Due.same("retired", x.retired(), 0);
        x.failWrite(38);
        Due.same("run", x.run(9), 0);
        Due.same("state", x.state(), 2);
        Due.same("retired", x.retired(), 1);
        x.failWrite(1);
        Due.no("boot", x.boot());
        Due.same("state", x.state(), 2);
        Due.yes("boot", x.boot());
        Due.same("halted by booting", x.state(), 3);
        Due.same("writes", x.writes(), 36 + 37 + 2);
        Due.same("PC", x.register(0), 1028);
    }

    private static void stepWithACheckpointThatFails() {
        int[] words = new int[16];
        java.util.Arrays.fill(words, Asm.two(Asm.ADD, 3, 1, 6, 0));
        for (int n = 1; n <= 39; n++) {
            BrownoutCore x = Asm.started(words);
            x.failWrite(n);
            Due.same("run", x.run(20), 12);
            Due.same("retired", x.retired(), n > 37 ? 12 : 0);
            x.boot();
            Due.same("R6", x.register(6), n > 37 ? 12 : 0);
            Due.same("retired", x.retired(), n > 37 ? 12 : 0);
            Due.same("run", x.run(n > 37 ? 1 : 13), n > 37 ? 1 : 13);
            Due.same("R6", x.register(6), 13);
            Due.same("retired", x.retired(), 13);
            Due.same("flips", x.flips(), 1);
        }
    }

    private static void sramAndRegistersOfTheCheckpoint() {
        int[] words = new int[40];
        java.util.Arrays.fill(words, Asm.two(Asm.ADD, 3, 1, 6, 0));
        words[0] = Asm.two(Asm.MOV, 3, 2, 2, 1);
        words[1] = 542;
        words[2] = Asm.two(Asm.MOV, 3, 3, 2, 0);
        words[14] = Asm.two(Asm.MOV, 2, 2, 2, 1);
        words[15] = 542;
        BrownoutCore x = Asm.started(words);
        Due.same("run", x.run(11), 11);
        Due.same("flips", x.flips(), 0);
        Due.same("run", x.run(4), 4);
        Due.same("flips", x.flips(), 1);
        Due.same("SRAM changed since", x.memory(542), 4);
        Due.same("R6", x.register(6), 12);
        x.failStep(1);
        x.run(1);
        Due.same("SRAM while off", x.memory(542), 0);
        Due.yes("boot", x.boot());
        Due.same("SRAM as at the checkpoint", x.memory(542), 2);
        Due.same("R6 as at the checkpoint", x.register(6), 9);
        Due.same("PC as at the checkpoint", x.register(0), 1024 + 24);
        Due.same("SR as at the checkpoint", x.register(2), 0);
        Due.same("retired", x.retired(), 11);
        Due.same("section", x.section(), 0);
        Due.same("writes of booting", x.writes(), 39);
    }

    private static void retiredWhileOff() {
        int[] words = new int[40];
        java.util.Arrays.fill(words, Asm.two(Asm.ADD, 3, 1, 6, 0));
        BrownoutCore x = Asm.started(words);
        x.run(15);
        Due.same("retired", x.retired(), 15);
        x.failStep(1);
        x.run(1);
        Due.same("up to the FLIP", x.retired(), 12);
        x.boot();
        Due.same("up to the FLIP", x.retired(), 12);
        x.run(2);
        Due.same("and two", x.retired(), 14);
        x.run(11);
        Due.same("over the next checkpoint", x.retired(), 25);
        Due.same("flips", x.flips(), 2);
    }

    private static void bootWritesNothingWhenFinished() {
        BrownoutCore x = Asm.started(Asm.jump(7, -1));
        x.failStep(1);
        x.run(1);
        x.failWrite(1);
        Due.yes("boot", x.boot());
        Due.same("writes", x.writes(), 0);
        Due.same("state", x.state(), 1);
    }
}
