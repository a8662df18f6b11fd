import java.util.ArrayList;
import java.util.LinkedHashMap;
import java.util.List;
import java.util.Map;
import java.util.function.ToIntFunction;

/**
 * The edges that promises 1 to 18 name, in the document's order: each test quotes the sentence that it holds
 * to. Edges that have a test of their own in CallsTest and FailureTest are not tested again.
 */
public final class PromiseEdgeTest {
    private static final int[] WIDE = {
        0, 1, 65535, 65536, 65537, 131071, -1, -2, -65535, -65536, -65537, Integer.MIN_VALUE, Integer.MAX_VALUE};

    /** Comes to hold a value in each place, and halts with its seventh step. */
    private static final int[] PROGRAM = {
        Asm.fromAbsolute(Asm.MOV, 4), Asm.SENSOR,
        Asm.toAbsolute(Asm.ADD, 4), 1200,
        Asm.toAbsolute(Asm.MOV, 4), Asm.RADIO,
        Asm.toAbsolute(Asm.MOV, 4), 512,
        0,
        0,
        Asm.toAbsolute(Asm.MOV, 3), Asm.HALT};
    /** The state in each stage of the life that advance leads through. */
    private static final int[] STATES = {0, 1, 1, 2, 1, 2, 2, 3};
    private static final int STAGES = STATES.length;

    public static void main(String[] args) {
        loadTakesSixteenBits();
        startTakesSixteenBits();
        sampleTakesSixteenBits();
        sampleWhenSixteenWait();
        refusedCallsChangeNothing();
        failWriteAtItsEnds();
        failWriteCountsThoseOfBooting();
        failStepAtItsEnds();
        failStepCountsNoBoot();
        runEndsWithTheStepThatHalts();
        runEndsBeforeTheStepThatFails();
        runOfNoSteps();
        bootOfAHaltedProgram();
        stateThroughALife();
        registerWhileOff();
        memoryTracksAndTakesNothing();
        memoryOfTheBuffer();
        framWithoutTheBuffer();
        radioBehindTheLast();
        waitingFromNoneToSixteen();
        whatIsNoWrite();
        flipsByTheFlipAlone();
        retiredAtTheFlip();
        sectionOfAllFour();
        Due.end();
    }

    // ---- promise 2: "Word k (0 .. 127) of FRAM becomes the lowest 16 bits of w"

    private static void loadTakesSixteenBits() {
        for (int w : WIDE) {
            BrownoutCore x = new BrownoutCore();
            for (int k : new int[] {0, 127}) {
                Due.yes("load(" + k + ", " + w + ")", x.load(k, w));
                Due.same("fram after load of " + w, x.fram(k), w & 65535);
            }
            Due.same("the word behind", x.fram(1), 0);
            Due.same("the word before", x.fram(126), 0);
        }
    }

    // ---- promise 3: "PC becomes pc (its lowest 16 bits, without the lowest)"

    private static void startTakesSixteenBits() {
        for (int pc : WIDE) {
            BrownoutCore x = new BrownoutCore();
            Due.yes("start " + pc, x.start(pc));
            Due.same("PC after start " + pc, x.register(0), pc & 65534);
            x.failStep(1);
            x.run(1);
            x.boot();
            Due.same("PC booted after start " + pc, x.register(0), pc & 65534);
        }
    }

    // ---- promise 4: "The lowest 16 bits of v wait as a sample behind the others; false, changing nothing, when
    // 16 wait."

    private static void sampleTakesSixteenBits() {
        BrownoutCore x = sensing();
        for (int v : WIDE) {
            Due.yes("sample " + v, x.sample(v));
        }
        for (int v : WIDE) {
            x.run(2);
            Due.same("loaded of " + v, x.register(4), v & 65535);
        }
    }

    private static void sampleWhenSixteenWait() {
        BrownoutCore x = sensing();
        for (int k = 0; k < 16; k++) {
            Due.yes("sample", x.sample(k));
        }
        for (int k = 0; k < 3; k++) {
            Due.no("a 17th sample", x.sample(99));
        }
        x.run(2);
        Due.yes("a sample in place of the one taken", x.sample(16));
        Due.no("a 17th sample", x.sample(99));
        for (int k = 1; k <= 16; k++) {
            x.run(2);
            Due.same("sample " + k, x.register(4), k);
        }
        Due.same("none waits", x.waiting(), 0);
        x.run(2);
        Due.same("none of those refused", x.register(4), 65535);
        Due.yes("a sample when none waits", x.sample(17));
        x.run(2);
        Due.same("loaded", x.register(4), 17);
    }

    private static BrownoutCore sensing() {
        return Asm.started(Asm.fromAbsolute(Asm.MOV, 4), Asm.SENSOR, Asm.jump(7, -3));
    }

    // ---- promises 2 to 8: "false, changing nothing", "False, changing nothing", "-1, changing nothing"

    /** Two machines live the same life; one of them is given a call in one stage that has to be refused. */
    private static void refusedCallsChangeNothing() {
        for (int stage = 0; stage < STAGES; stage++) {
            for (Map.Entry<String, ToIntFunction<BrownoutCore>> call : refused(stage).entrySet()) {
                BrownoutCore plain = new BrownoutCore();
                BrownoutCore asked = new BrownoutCore();
                for (int i = 0; i <= stage; i++) {
                    advance(plain, i);
                    advance(asked, i);
                }
                String what = call.getKey() + " in stage " + stage;
                int due = call.getKey().startsWith("run") ? -1 : 0;
                Due.same(what, call.getValue().applyAsInt(asked), due);
                Due.text("all after " + what, all(asked), all(plain));
                for (int i = stage + 1; i < STAGES; i++) {
                    advance(plain, i);
                    advance(asked, i);
                }
                Due.text("the end after " + what, all(asked), all(plain));
                Due.same("state in the end", asked.state(), 3);
            }
        }
    }

    /** Failures are told ahead, so that a refused call that takes one away or uses it up is seen. */
    private static void advance(BrownoutCore x, int stage) {
        switch (stage) {
            case 0 -> {
                for (int k = 0; k < PROGRAM.length; k++) {
                    x.load(k, PROGRAM[k]);
                }
                for (int k = 0; k < 16; k++) {
                    x.sample(70 + k);
                }
                x.failStep(6);
                x.failWrite(800);
            }
            case 1 -> x.start(1024);
            case 2 -> x.run(4);
            case 3 -> x.run(5);
            case 4 -> {
                x.failWrite(36 + 3 + 1 + 2);
                x.boot();
            }
            case 5 -> {
                x.run(200);
                x.failWrite(2);
            }
            default -> x.boot();
        }
    }

    private static Map<String, ToIntFunction<BrownoutCore>> refused(int stage) {
        Map<String, ToIntFunction<BrownoutCore>> calls = new LinkedHashMap<>();
        for (int n : new int[] {-1, 1001, Integer.MIN_VALUE, Integer.MAX_VALUE}) {
            calls.put("failWrite(" + n + ")", x -> x.failWrite(n) ? 1 : 0);
            calls.put("failStep(" + n + ")", x -> x.failStep(n) ? 1 : 0);
        }
        for (int n : new int[] {-1, 201, Integer.MIN_VALUE, Integer.MAX_VALUE}) {
            calls.put("run(" + n + ")", x -> x.run(n));
        }
        for (int k : new int[] {-1, 128, Integer.MIN_VALUE, Integer.MAX_VALUE}) {
            calls.put("load(" + k + ", 5)", x -> x.load(k, 5) ? 1 : 0);
        }
        if (STATES[stage] != 0) {
            calls.put("load(0, 5)", x -> x.load(0, 5) ? 1 : 0);
            calls.put("load(127, 5)", x -> x.load(127, 5) ? 1 : 0);
            calls.put("start(1030)", x -> x.start(1030) ? 1 : 0);
        }
        if (STATES[stage] != 1) {
            calls.put("run(0)", x -> x.run(0));
            calls.put("run(1)", x -> x.run(1));
            calls.put("run(200)", x -> x.run(200));
        }
        if (STATES[stage] != 2) {
            calls.put("boot()", x -> x.boot() ? 1 : 0);
        }
        if (stage <= 1) {
            calls.put("sample(5)", x -> x.sample(5) ? 1 : 0);
        }
        return calls;
    }

    private static String all(BrownoutCore x) {
        List<Integer> all = new ArrayList<>(List.of(x.state(), x.waiting(), x.writes(), x.flips(), x.retired(), x.section()));
        for (int k = 0; k < 16; k++) {
            all.add(x.register(k));
            all.add(x.memory(512 + 2 * k));
        }
        for (int k = 0; k < 128; k++) {
            all.add(x.fram(k));
        }
        all.add(x.memory(1200));
        all.add(x.radio(-1));
        all.add(x.radio(0));
        return all.toString();
    }

    // ---- promise 5: "Tells a failure before the n-th WRITE from now on [..], n 1 .. 1000, or none for n = 0"

    private static void failWriteAtItsEnds() {
        BrownoutCore first = writing();
        first.failWrite(1);
        Due.same("run to the first WRITE", first.run(3), 0);
        Due.same("writes", first.writes(), 0);
        BrownoutCore second = writing();
        second.failWrite(2);
        Due.same("run to the second WRITE", second.run(3), 2);
        Due.same("writes", second.writes(), 1);
        for (int n = 999; n <= 1000; n++) {
            BrownoutCore last = writing();
            last.failWrite(n);
            int steps = 0;
            for (int i = 0; i < 11; i++) {
                steps += Math.max(0, last.run(200));
            }
            Due.same("steps before WRITE " + n, steps, 2 * (n - 1));
            Due.same("WRITES before WRITE " + n, last.writes(), n - 1);
            Due.same("state", last.state(), 2);
        }
        BrownoutCore none = writing();
        none.failWrite(1);
        none.failWrite(0);
        Due.same("run without a failure", none.run(200), 200);
    }

    /** One WRITE in each second step, and no checkpoint. */
    private static BrownoutCore writing() {
        return Asm.started(Asm.two(Asm.MOV, 3, 1, 2, 1), 1200, Asm.jump(7, -3));
    }

    // ---- promise 5: "(in whatever state; those of booting count, too)"

    private static void failWriteCountsThoseOfBooting() {
        // A program that goes on after its checkpoint: 39 WRITES, the last two of them to be done by booting.
        int[] words = new int[20];
        words[12] = Asm.two(Asm.MOV, 3, 1, 2, 1);
        words[13] = 1200;
        for (int n = 1; n <= 4; n++) {
            BrownoutCore x = Asm.started(words);
            x.failWrite(38);
            Due.same("run", x.run(20), 12);
            Due.yes("told while off", x.failWrite(n));
            Due.same("boot with failWrite " + n, x.boot() ? 1 : 0, n <= 2 ? 0 : 1);
            if (n > 2) {
                Due.same("run with failWrite " + n, x.run(1), n == 3 ? 0 : 1);
            }
            Due.same("writes with failWrite " + n, x.writes(), 37 + Math.min(n - 1, 3));
        }
    }

    // ---- promise 6: "Tells a failure before the n-th step from now on, n 1 .. 1000, or none for n = 0"

    private static void failStepAtItsEnds() {
        for (int n : new int[] {1, 2, 199, 200, 201, 999, 1000}) {
            BrownoutCore x = Asm.started(Asm.jump(7, -1));
            x.failStep(n);
            int steps = 0;
            for (int i = 0; i < 6; i++) {
                steps += Math.max(0, x.run(200));
            }
            Due.same("steps before step " + n, steps, n - 1);
            Due.same("state", x.state(), 2);
        }
        BrownoutCore none = Asm.started(Asm.jump(7, -1));
        none.failStep(1);
        none.failStep(0);
        Due.same("run without a failure", none.run(200), 200);
    }

    private static void failStepCountsNoBoot() {
        BrownoutCore x = Asm.started(Asm.jump(7, -1));
        x.failStep(1);
        x.run(1);
        x.failStep(1);
        Due.yes("boot is no step", x.boot());
        Due.same("the first step behind it fails", x.run(1), 0);
        Due.same("state", x.state(), 2);
    }

    // ---- promise 7: "Makes n steps (0 .. 200), or fewer: it ends when the power fails and when the machine has
    // halted. Answers how many were completed"

    private static void runEndsWithTheStepThatHalts() {
        for (int n = 6; n <= 8; n++) {
            BrownoutCore x = Asm.started(PROGRAM);
            Due.same("run " + n, x.run(n), Math.min(n, 7));
            Due.same("state after run " + n, x.state(), n < 7 ? 1 : 3);
        }
        int[] words = new int[128];
        words[0] = Asm.jump(7, 0);
        words[1] = Asm.two(Asm.ADD, 3, 1, 6, 0);
        words[2] = Asm.constantTo(Asm.CMP, 6);
        words[3] = 66;
        words[4] = Asm.jump(0, -4);
        words[5] = Asm.toAbsolute(Asm.MOV, 3);
        words[6] = Asm.HALT;
        BrownoutCore late = Asm.started(words);
        Due.same("the 200th step halts", late.run(200), 200);
        Due.same("state", late.state(), 3);
    }

    private static void runEndsBeforeTheStepThatFails() {
        for (int n = 4; n <= 6; n++) {
            BrownoutCore x = Asm.started(PROGRAM);
            x.failStep(6);
            Due.same("run " + n + " with failStep 6", x.run(n), Math.min(n, 5));
            Due.same("state after run " + n, x.state(), n < 6 ? 1 : 2);
        }
    }

    private static void runOfNoSteps() {
        BrownoutCore x = Asm.started(PROGRAM);
        x.failStep(1);
        x.failWrite(1);
        for (int i = 0; i < 3; i++) {
            Due.same("run(0)", x.run(0), 0);
        }
        Due.same("state", x.state(), 1);
        Due.same("retired", x.retired(), 0);
        Due.same("the step that was told still fails", x.run(1), 0);
        BrownoutCore full = Asm.ran(12, new int[20]);
        Due.same("run(0)", full.run(0), 0);
        Due.same("no checkpoint without a step", full.writes(), 0);
    }

    // ---- promise 8: "True when it is on, or has halted, then; false when it is not off, or the power failed again."

    private static void bootOfAHaltedProgram() {
        BrownoutCore x = Asm.started(Asm.toAbsolute(Asm.MOV, 3), Asm.HALT);
        x.failWrite(39);
        Due.same("run", x.run(1), 0);
        for (int i = 0; i < 3; i++) {
            x.failWrite(2);
            Due.no("the power failed again", x.boot());
            Due.same("state", x.state(), 2);
        }
        Due.yes("has halted then", x.boot());
        Due.same("state", x.state(), 3);
        Due.no("it is not off", x.boot());
        Due.same("writes", x.writes(), 38 + 3 + 2);
    }

    // ---- promise 9: "0 new, 1 on, 2 off, 3 halted: a checkpoint after an instruction that halts was finished
    // (also by booting)"

    private static void stateThroughALife() {
        BrownoutCore x = new BrownoutCore();
        for (int stage = 0; stage < STAGES; stage++) {
            advance(x, stage);
            Due.same("state in stage " + stage, x.state(), STATES[stage]);
        }
        BrownoutCore full = Asm.ran(12, new int[20]);
        full.run(1);
        Due.same("a checkpoint that no instruction asked for", full.flips(), 1);
        Due.same("does not halt", full.state(), 1);
    }

    // ---- promise 10: "Register k; 0 when there is none, or while the machine is off."

    private static void registerWhileOff() {
        int[] words = new int[30];
        for (int k = 0; k < 12; k++) {
            words[2 * k] = Asm.constantTo(Asm.MOV, 4 + k);
            words[2 * k + 1] = 1000 + k;
        }
        BrownoutCore x = Asm.ran(12, words);
        for (int k = 4; k < 16; k++) {
            Due.same("register " + k, x.register(k), 1000 + k - 4);
        }
        Due.same("register 16", x.register(16), 0);
        Due.same("register -1", x.register(-1), 0);
        x.failStep(1);
        x.run(1);
        for (int k = -1; k <= 16; k++) {
            Due.same("register " + k + " while off", x.register(k), 0);
        }
        x.boot();
        Due.same("booted: of the latest checkpoint", x.register(9), 1005);
        Due.same("booted: put after it", x.register(10), 0);
    }

    // ---- promise 11: "The word at an address of SRAM or FRAM as a load would give it (nothing is tracked by this;
    // while the machine is off SRAM is 0); 0 for any other address."

    private static void memoryTracksAndTakesNothing() {
        BrownoutCore x = writing();
        x.sample(5);
        for (int address = 1198; address <= 1203; address++) {
            x.memory(address);
        }
        for (int address = 14; address <= 22; address++) {
            Due.same("memory of " + address, x.memory(address), 0);
        }
        Due.same("no sample is taken", x.waiting(), 1);
        Due.same("nothing halts", x.state(), 1);
        Due.same("nothing is tracked, queued or logged", x.section(), 0);
        x.run(1);
        Due.same("the word was not READ", x.fram(88), 1);
        Due.same("it was a WRITE", x.writes(), 1);
    }

    private static void memoryOfTheBuffer() {
        BrownoutCore x = Asm.started(Asm.two(Asm.SUB, 3, 1, 2, 1), 1278, Asm.two(Asm.MOV, 3, 2, 2, 1), 542);
        x.run(2);
        for (int address : new int[] {1278, 1279}) {
            Due.same("memory of " + address, x.memory(address), 65535);
        }
        for (int address : new int[] {542, 543}) {
            Due.same("memory of " + address, x.memory(address), 2);
        }
        for (int address : new int[] {541, 544, 1277, 1280}) {
            Due.same("memory of " + address, x.memory(address), 0);
        }
        x.failStep(1);
        x.run(1);
        for (int address : new int[] {542, 543, 1278, 1279}) {
            Due.same("memory while off of " + address, x.memory(address), 0);
        }
    }

    // ---- promise 12: "Word k (0 .. 127) of FRAM itself, without the buffer; 0 when there is none."

    private static void framWithoutTheBuffer() {
        BrownoutCore x = Asm.loaded(Asm.two(Asm.ADD, 3, 1, 2, 1), 1278, Asm.toAbsolute(Asm.MOV, 3), Asm.HALT);
        x.load(127, 7);
        x.start(1024);
        x.run(1);
        Due.same("fram", x.fram(127), 7);
        Due.same("memory", x.memory(1278), 8);
        for (int k : new int[] {-1, 128, 127 + 65536, 127 - 256, Integer.MIN_VALUE, Integer.MAX_VALUE}) {
            Due.same("fram " + k, x.fram(k), 0);
        }
        x.run(1);
        Due.same("fram behind the checkpoint", x.fram(127), 8);
    }

    // ---- promise 13: "Record k (0 ..) of those SENT; 0 when there is none; k = -1: how many."

    private static void radioBehindTheLast() {
        int record = Asm.two(Asm.MOV, 3, 3, 2, 1);
        BrownoutCore x = Asm.started(record, Asm.RADIO, record, Asm.RADIO, Asm.toAbsolute(Asm.MOV, 3), Asm.HALT);
        // 36 + 2, the FLIP, the first record, and the first WRITE of the second one
        x.failWrite(39 + 2 + 2);
        x.run(3);
        Due.same("how many", x.radio(-1), 1);
        Due.same("the last of those SENT", x.radio(0), 65535);
        Due.same("put behind it, but not SENT", x.radio(1), 0);
        x.boot();
        Due.same("how many", x.radio(-1), 2);
        Due.same("the last of those SENT", x.radio(1), 65535);
        for (int k : new int[] {-2, 2, 200, Integer.MIN_VALUE, Integer.MAX_VALUE}) {
            Due.same("radio " + k, x.radio(k), 0);
        }
    }

    // ---- promise 14: "How many samples wait."

    private static void waitingFromNoneToSixteen() {
        BrownoutCore x = sensing();
        Due.same("none waits", x.waiting(), 0);
        x.run(1);
        Due.same("a load when none waits", x.waiting(), 0);
        for (int k = 1; k <= 17; k++) {
            x.sample(k);
            Due.same("waiting after sample " + k, x.waiting(), Math.min(k, 16));
        }
        for (int left = 15; left >= -1; left--) {
            x.run(2);
            Due.same("waiting after a load", x.waiting(), Math.max(left, 0));
        }
    }

    // ---- promise 15: "How many WRITES were done."

    private static void whatIsNoWrite() {
        BrownoutCore x = Asm.loaded(
                Asm.two(Asm.MOV, 3, 1, 2, 1), 512,
                Asm.two(Asm.MOV, 3, 1, 2, 1), Asm.RADIO,
                Asm.two(Asm.MOV, 3, 1, 2, 1), Asm.SENSOR,
                Asm.two(Asm.ADD, 3, 1, 2, 1), 1200,
                Asm.two(Asm.MOV, 3, 1, 2, 1), 1202);
        x.start(1024);
        x.sample(1);
        int[] writes = {0, 0, 0, 0, 1};
        for (int i = 0; i < writes.length; i++) {
            x.run(1);
            Due.same("writes after step " + (i + 1), x.writes(), writes[i]);
        }
        BrownoutCore failed = writing();
        failed.failWrite(1);
        failed.run(1);
        Due.same("a WRITE that was not done", failed.writes(), 0);
        failed.boot();
        failed.run(1);
        Due.same("done the second time", failed.writes(), 1);
    }

    // ---- promise 16: "How many FLIPS were done."

    private static void flipsByTheFlipAlone() {
        BrownoutCore x = Asm.ran(12, new int[30]);
        x.failWrite(37);
        x.run(1);
        Due.same("the FLIP was not done", x.flips(), 0);
        x.boot();
        x.run(12);
        x.failWrite(38);
        x.run(1);
        Due.same("the FLIP was done, the checkpoint not finished", x.flips(), 1);
        x.failWrite(1);
        x.boot();
        Due.same("booting does no FLIP", x.flips(), 1);
        x.boot();
        Due.same("finishing does no FLIP", x.flips(), 1);
        x.run(13);
        Due.same("the next checkpoint", x.flips(), 2);
    }

    // ---- promise 17: "those up to the latest FLIP, plus those completed since in this section (none of these while
    // off)"

    private static void retiredAtTheFlip() {
        BrownoutCore x = Asm.ran(12, new int[60]);
        Due.same("before the first FLIP", x.retired(), 12);
        x.failWrite(37);
        x.run(1);
        Due.same("off, no FLIP", x.retired(), 0);
        x.boot();
        Due.same("booted, no FLIP", x.retired(), 0);
        x.run(12);
        x.failWrite(38);
        x.run(1);
        Due.same("off, behind the FLIP", x.retired(), 12);
        x.boot();
        Due.same("booted, behind the FLIP", x.retired(), 12);
        x.run(3);
        Due.same("three more", x.retired(), 15);
        x.failStep(1);
        x.run(1);
        Due.same("off again", x.retired(), 12);
    }

    // ---- promise 18: "Words tracked, plus 32 times the words in the buffer, plus 256 times the records in the
    // queue, plus 2048 times the values in the log; while the machine is off the first three are 0."

    private static void sectionOfAllFour() {
        BrownoutCore x = new BrownoutCore();
        int[] due = {0, 0, 9 + 32 + 256 + 2048, 2048, 2048, 2048, 2048, 0};
        for (int stage = 0; stage < STAGES; stage++) {
            advance(x, stage);
            Due.same("section in stage " + stage, x.section(), due[stage]);
        }
        BrownoutCore most = Asm.ran(2 + 7,
                Asm.two(Asm.CMP, 2, 1, 2, 1), Asm.SENSOR, Asm.SENSOR,
                Asm.two(Asm.ADD, 3, 1, 2, 1), 1200,
                Asm.toAbsolute(Asm.MOV, 3), Asm.RADIO,
                Asm.jump(7, -3));
        Due.same("a full queue and two values", most.section(), 9 + 32 + 4 * 256 + 2 * 2048);
    }
}
