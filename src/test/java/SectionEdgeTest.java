import java.util.Arrays;

/**
 * The edges that the Terms name for sections, devices, checkpoints, failures and booting, in the document's
 * order: each test quotes the sentence that it holds to. Edges that have a test of their own in SectionTest
 * and FailureTest are not tested again.
 */
public final class SectionEdgeTest {
    private static final int BUFFERED = 32;
    private static final int QUEUED = 256;
    private static final int LOGGED = 2048;
    /** The WRITES of a checkpoint with nothing held. */
    private static final int EMPTY = 39;

    public static void main(String[] args) {
        readFirstOrWrittenFirst();
        aStoredByteOfAWrittenWord();
        inPlaceOfWhatTheBufferHas();
        aFetchOfAWordInTheBuffer();
        theLogHasMoreThanKValues();
        theLogHasAllValues();
        theLastSampleThatWaits();
        theTwoHundredthRecord();
        twoHundredRecordsByBooting();
        everyStoreToHalt();
        whatIsNoStoreToHalt();
        aHaltingInstructionIsDoneFirst();
        fiveWordsByOneInstruction();
        writtenWordsCountAsTracked();
        sensorLoadsBelowThree();
        sensorLoadsAboveThree();
        sensorLoadsFromTheLogCount();
        writesOfEveryCheckpoint();
        everyWriteOfAFullBuffer();
        everyWriteOfAFullQueue();
        aStepThatFailsBeforeItsCheckpoint();
        everyWriteOfAStepWithTwoCheckpoints();
        theLatestFlipOfTwo();
        Due.end();
    }

    // ---- "A word of FRAM that the section loaded, fetched or stored is TRACKED, as READ when it was loaded or
    // fetched first, otherwise as WRITTEN"

    private static void readFirstOrWrittenFirst() {
        int store = Asm.two(Asm.MOV, 3, 1, 2, 1);
        BrownoutCore loaded = Asm.ran(2, Asm.fromAbsolute(Asm.MOV, 6), 1200, store, 1200);
        Due.same("loaded, then stored", loaded.section(), 5 + BUFFERED);
        Due.same("no WRITE", loaded.writes(), 0);
        BrownoutCore stored = Asm.ran(3, store, 1200, Asm.fromAbsolute(Asm.MOV, 6), 1200, store, 1200);
        Due.same("stored, then loaded, then stored", stored.section(), 7);
        Due.same("two WRITES", stored.writes(), 2);
        BrownoutCore first = Asm.ran(1, store, 1024);
        Due.same("its own first word was fetched", first.section(), 2 + BUFFERED);
        BrownoutCore second = Asm.ran(1, store, 1026);
        Due.same("its own second word was fetched", second.section(), 2 + BUFFERED);
        BrownoutCore next = Asm.ran(1, store, 1028);
        Due.same("the next instruction was not fetched yet", next.section(), 3);
        Due.same("it is WRITTEN", next.fram(2), 1);
    }

    // ---- "a store of a byte counts as a load of the word before it"

    private static void aStoredByteOfAWrittenWord() {
        int storeByte = Asm.bytes(Asm.two(Asm.MOV, 3, 3, 2, 1));
        for (int address = 1200; address <= 1201; address++) {
            BrownoutCore first = Asm.ran(1, storeByte, address);
            Due.same("a byte first: READ", first.section(), 3 + BUFFERED);
            Due.same("no WRITE", first.writes(), 0);
            BrownoutCore later = Asm.ran(2, Asm.two(Asm.MOV, 0, 3, 2, 1), 0x1234, 1200, storeByte, address);
            Due.same("a byte of a WRITTEN word", later.section(), 6);
            Due.same("is a WRITE", later.writes(), 2);
            Due.same("of that word", later.fram(88), address == 1200 ? 0x12ff : 0xff34);
        }
        BrownoutCore pushed = Asm.ran(2, Asm.constantTo(Asm.MOV, 1), 1202, Asm.bytes(Asm.one(Asm.PUSH, 3, 3)));
        Due.same("a byte pushed", pushed.section(), 4 + BUFFERED);
    }

    // ---- "A store to a READ word goes into the BUFFER (in place of what the buffer has for it), and loads and
    // fetches see it there"

    private static void inPlaceOfWhatTheBufferHas() {
        int add = Asm.two(Asm.ADD, 3, 1, 2, 1);
        BrownoutCore x = Asm.ran(4 * 21, add, 1200, add, 1202, add, 1204, Asm.jump(7, -7));
        Due.same("three words in the buffer, stored to 21 times each", x.section(), 10 + 3 * BUFFERED);
        Due.same("no checkpoint", x.flips(), 0);
        for (int k = 0; k < 3; k++) {
            Due.same("loads see it", x.memory(1200 + 2 * k), 21);
            Due.same("it is not in FRAM", x.fram(88 + k), 0);
        }
    }

    private static void aFetchOfAWordInTheBuffer() {
        int toR6 = Asm.constantTo(Asm.MOV, 6);
        BrownoutCore x = Asm.ran(4, toR6, 5, Asm.two(Asm.ADD, 3, 1, 2, 1), 1026, Asm.jump(7, -5));
        Due.same("the constant that the buffer has", x.register(6), 6);
        Due.same("FRAM has the old one", x.fram(1), 5);
        x.failStep(1);
        x.run(1);
        x.boot();
        x.run(1);
        Due.same("the buffer is lost", x.register(6), 5);
    }

    // ---- "A load from SENSOR is the number k (0, 1, ..) of the section: if the LOG has more than k values, it
    // gives value k; otherwise the first sample that waits is taken"

    private static void theLogHasMoreThanKValues() {
        int[] samples = {10, 20, 30, 40, 30, 50};
        int[] flags = {4, 4, 4, 3};
        for (int logged = 0; logged <= 3; logged++) {
            for (int write = 1; write <= 2; write++) {
                BrownoutCore x = fourLoads(samples);
                x.failWrite(2 * logged + write);
                x.run(3);
                Due.same("values in the log", x.section(), logged * LOGGED);
                Due.same("one more sample was taken", x.waiting(), 5 - logged);
                x.boot();
                Due.same("run", x.run(3), 3);
                Due.same("four values", x.section() / LOGGED, 4);
                Due.same("the log's values took no samples", x.waiting(), 1);
                Due.same("load 0", x.register(4), logged == 0 ? 20 : 10);
                Due.same("load 1", x.register(5), logged <= 1 ? 30 : 20);
                Due.same("loads 2 and 3 compared", x.register(2), flags[logged]);
            }
        }
    }

    private static void theLogHasAllValues() {
        BrownoutCore x = fourLoads(10, 20, 30, 40, 30, 50);
        x.run(3);
        x.failStep(1);
        x.run(1);
        x.boot();
        Due.same("run", x.run(3), 3);
        Due.same("no WRITE more", x.writes(), 8);
        Due.same("waiting", x.waiting(), 2);
        Due.same("load 0", x.register(4), 10);
        Due.same("load 1", x.register(5), 20);
        Due.same("loads 2 and 3 compared", x.register(2), 1);
    }

    private static BrownoutCore fourLoads(int... samples) {
        BrownoutCore x = Asm.started(
                Asm.fromAbsolute(Asm.MOV, 4), Asm.SENSOR,
                Asm.fromAbsolute(Asm.MOV, 5), Asm.SENSOR,
                Asm.two(Asm.CMP, 2, 1, 2, 1), Asm.SENSOR, Asm.SENSOR);
        for (int v : samples) {
            x.sample(v);
        }
        return x;
    }

    // ---- "(65535 if none waits)"

    private static void theLastSampleThatWaits() {
        for (int waiting = 0; waiting <= 2; waiting++) {
            BrownoutCore x = Asm.started(
                    Asm.fromAbsolute(Asm.MOV, 4), Asm.SENSOR,
                    Asm.bytes(Asm.fromAbsolute(Asm.MOV, 5)), 17);
            for (int k = 0; k < waiting; k++) {
                x.sample(0x0100 * (k + 1));
            }
            Due.same("run", x.run(2), 2);
            Due.same("the first of " + waiting, x.register(4), waiting == 0 ? 65535 : 0x0100);
            Due.same("a byte of the second of " + waiting, x.register(5), waiting <= 1 ? 255 : 2);
            Due.same("waiting", x.waiting(), 0);
            Due.same("two values are logged", x.section(), 4 + 2 * LOGGED);
            Due.same("two WRITES each", x.writes(), 4);
        }
    }

    // ---- "is ignored when the records sent and the queue together are 200"

    /** Three records go first, so that 199 are sent before the one that fills up the 200. */
    private static void theTwoHundredthRecord() {
        int record = Asm.two(Asm.MOV, 3, 1, 2, 1);
        BrownoutCore x = Asm.started(
                record, Asm.RADIO, record, Asm.RADIO, record, Asm.RADIO,
                Asm.fromAbsolute(Asm.MOV, 4), Asm.SENSOR,
                Asm.two(Asm.CMP, 2, 1, 2, 1), Asm.SENSOR, Asm.SENSOR,
                Asm.two(Asm.ADD, 3, 1, 5, 0),
                Asm.toAbsolute(Asm.MOV, 5), Asm.RADIO,
                Asm.jump(7, -4));
        x.run(5 + 99);
        for (int i = 0; i < 3; i++) {
            x.run(163);
        }
        Due.same("three and 196 were sent", x.radio(-1), 199);
        Due.same("none is queued", x.section() / QUEUED, 0);
        Due.same("run to the next record", x.run(2), 2);
        Due.same("the 200th is queued", x.section(), 4 + QUEUED);
        Due.same("run", x.run(150), 150);
        Due.same("no other is", x.section(), 4 + QUEUED);
        Due.same("it is not sent yet", x.radio(-1), 199);
        Due.same("the last of those sent", x.radio(198), 196);
        Due.same("the 200th", x.radio(199), 0);
    }

    private static void twoHundredRecordsByBooting() {
        BrownoutCore x = Asm.started(
                Asm.two(Asm.ADD, 3, 1, 5, 0),
                Asm.toAbsolute(Asm.MOV, 5), Asm.RADIO,
                Asm.jump(7, -4));
        for (int i = 0; i < 3; i++) {
            x.run(198);
        }
        x.run(5);
        Due.same("196 are sent", x.radio(-1), 196);
        Due.same("four are queued", x.section(), 4 + 4 * QUEUED);
        // 36 + 4, the FLIP, two records, and the first WRITE of the third
        x.failWrite(41 + 4 + 2);
        Due.same("run", x.run(1), 0);
        Due.same("198 are sent", x.radio(-1), 198);
        Due.yes("boot", x.boot());
        Due.same("200 are sent", x.radio(-1), 200);
        Due.same("run", x.run(200), 200);
        Due.same("no other is queued", x.section(), 4);
        for (int k = 195; k <= 200; k++) {
            Due.same("record " + k, x.radio(k), k == 200 ? 0 : k + 1);
        }
    }

    // ---- "A store to HALT halts after the instruction."

    private static void everyStoreToHalt() {
        for (int address = 20; address <= 21; address++) {
            for (int bytes = 0; bytes <= 64; bytes += 64) {
                for (int op = Asm.MOV; op <= Asm.AND; op++) {
                    boolean puts = op != Asm.CMP && op != Asm.BIT;
                    BrownoutCore x = Asm.started(Asm.toAbsolute(op, 3) | bytes, address);
                    Due.same("run", x.run(1), 1);
                    Due.same("state after op " + op, x.state(), puts ? 3 : 1);
                }
                for (int op = Asm.RRC; op <= Asm.SXT; op++) {
                    BrownoutCore x = Asm.started(Asm.one(op, 2, 1) | bytes, address);
                    Due.same("run", x.run(1), 1);
                    Due.same("state after one operand " + op, x.state(), 3);
                }
            }
        }
        for (int word : new int[] {Asm.one(Asm.PUSH, 3, 0), Asm.bytes(Asm.one(Asm.PUSH, 3, 0)), Asm.one(Asm.CALL, 3, 0)}) {
            BrownoutCore x = Asm.started(Asm.constantTo(Asm.MOV, 1), 22, word);
            Due.same("run", x.run(9), 2);
            Due.same("state after " + word, x.state(), 3);
        }
    }

    private static void whatIsNoStoreToHalt() {
        int[][] programs = {
            {Asm.fromAbsolute(Asm.ADD, 6), Asm.HALT, 0},
            {Asm.toAbsolute(Asm.MOV, 3), 19, 0},
            {Asm.toAbsolute(Asm.MOV, 3), 22, 0},
            {Asm.one(Asm.PUSH, 2, 1), Asm.HALT, 0},
            {Asm.constantTo(Asm.MOV, 0), Asm.HALT, 0},
            {Asm.constantTo(Asm.MOV, 1), Asm.HALT, Asm.one(Asm.RETI, 0, 0)},
            {Asm.constantTo(Asm.MOV, 1), Asm.HALT, Asm.one(Asm.PUSH, 3, 3)}};
        for (int[] program : programs) {
            BrownoutCore x = Asm.started(program);
            Due.same("run", x.run(2), 2);
            Due.same("state after " + Arrays.toString(program), x.state(), 1);
        }
    }

    private static void aHaltingInstructionIsDoneFirst() {
        BrownoutCore call = Asm.started(Asm.constantTo(Asm.MOV, 1), 22, Asm.one(Asm.CALL, 0, 3), 1101);
        Due.same("run", call.run(9), 2);
        Due.same("PC after a CALL that halts", call.register(0), 1100);
        Due.same("SP", call.register(1), 20);
        BrownoutCore sub = Asm.started(Asm.two(Asm.SUB, 3, 1, 2, 1), Asm.HALT);
        Due.same("run", sub.run(9), 1);
        Due.same("flags of 0 - 1", sub.register(2), 4);
        BrownoutCore twice = Asm.started(Asm.toAbsolute(Asm.MOV, 3), Asm.HALT, Asm.toAbsolute(Asm.MOV, 3), Asm.HALT);
        Due.same("run", twice.run(9), 1);
        Due.same("halted at the first", twice.register(0), 1028);
        Due.same("one checkpoint", twice.writes(), EMPTY);
    }

    // ---- "A STEP: if more than 11 words are tracked, or the buffer has 4 words, or the queue 4 records, or the
    // section loaded from SENSOR 3 times or more, a CHECKPOINT"

    private static void fiveWordsByOneInstruction() {
        int[] words = new int[20];
        words[11] = Asm.two(Asm.ADD, 2, 1, 2, 1);
        words[12] = 1200;
        words[13] = 1202;
        BrownoutCore x = Asm.ran(11, words);
        Due.same("eleven words", x.section(), 11);
        x.run(1);
        Due.same("sixteen words, one of them in the buffer", x.section(), 16 + BUFFERED);
        Due.same("no checkpoint before it", x.writes(), 0);
        x.run(1);
        Due.same("a checkpoint behind it", x.section(), 1);
        Due.same("its WRITES", x.writes(), EMPTY + 3);
    }

    private static void writtenWordsCountAsTracked() {
        BrownoutCore x = Asm.ran(1 + 5 * 3,
                Asm.constantTo(Asm.MOV, 7), 1200,
                Asm.two(Asm.MOV, 3, 1, 7, 1), 0,
                Asm.two(Asm.ADD, 3, 2, 7, 0),
                Asm.jump(7, -4));
        Due.same("six words of code and five WRITTEN", x.section(), 11);
        Due.same("writes", x.writes(), 5);
        x.run(1);
        Due.same("six WRITTEN", x.section(), 12);
        Due.same("no checkpoint yet", x.flips(), 0);
        x.run(1);
        Due.same("a checkpoint", x.flips(), 1);
        Due.same("writes", x.writes(), 6 + EMPTY);
        Due.same("section", x.section(), 1);
    }

    private static void sensorLoadsBelowThree() {
        BrownoutCore x = Asm.ran(199,
                Asm.two(Asm.CMP, 2, 1, 2, 1), Asm.SENSOR, Asm.SENSOR,
                Asm.jump(7, -1));
        Due.same("two loads", x.section(), 4 + 2 * LOGGED);
        Due.same("make no checkpoint", x.flips(), 0);
        Due.same("writes", x.writes(), 4);
    }

    private static void sensorLoadsAboveThree() {
        BrownoutCore x = fourLoads(1, 2, 3, 4);
        x.run(3);
        Due.same("four loads", x.section(), 7 + 4 * LOGGED);
        Due.same("no checkpoint yet", x.flips(), 0);
        x.run(1);
        Due.same("a checkpoint", x.flips(), 1);
        Due.same("that makes the log empty", x.section(), 1);
        Due.same("writes", x.writes(), 8 + EMPTY);
        x.run(2);
        Due.same("no other", x.flips(), 1);
    }

    /** After a failure the loads are repeated out of the log, and count for the checkpoint again. */
    private static void sensorLoadsFromTheLogCount() {
        BrownoutCore x = fourLoads(1, 2, 3, 4);
        x.run(3);
        x.failStep(1);
        x.run(1);
        x.boot();
        Due.same("run", x.run(2), 2);
        Due.same("two loads", x.flips(), 0);
        Due.same("run", x.run(1), 1);
        Due.same("the log as it was", x.section(), 7 + 4 * LOGGED);
        Due.same("run", x.run(1), 1);
        Due.same("a checkpoint", x.flips(), 1);
        Due.same("writes", x.writes(), 8 + EMPTY);
        Due.same("the log is empty", x.section(), 1);
    }

    // ---- "A CHECKPOINT with b words in the buffer and q records in the queue: 36 + 2b + q WRITES [..]; one
    // WRITE, the FLIP [..]; a WRITE for each word of the buffer [..], for each record of the queue in order two
    // WRITES [..], a WRITE that makes the log empty, and one more."

    private static void writesOfEveryCheckpoint() {
        for (int b = 0; b <= 4; b++) {
            for (int q = 0; q <= 4; q++) {
                if (b < 4 || q < 4) {
                    aCheckpointWith(b, q);
                }
            }
        }
    }

    /** A buffer or queue that is full makes its checkpoint at once, so what is not full goes first. */
    private static void aCheckpointWith(int b, int q) {
        int[] words = new int[30];
        setUp(words, 7, 1200, 8, Asm.RADIO, 9, Asm.HALT);
        int at = 12;
        for (int i = 0; i < b + q; i++) {
            boolean record = q == 4 ? i >= b : i < q;
            words[at++] = Asm.one(Asm.SWPB, record ? 8 : 7, record ? 2 : 3);
        }
        words[at] = Asm.one(Asm.SWPB, 9, 2);
        BrownoutCore x = Asm.ran(9 + b + q, words);
        String with = "with " + b + " words and " + q + " records: ";
        int tracked = b + q == 0 ? 12 : 2 * b + q;
        Due.same(with + "section", x.section(), tracked + BUFFERED * b + QUEUED * q);
        Due.same(with + "writes before", x.writes(), b + q == 0 ? 0 : EMPTY);
        Due.same(with + "run", x.run(1), 1);
        Due.same(with + "state", x.state(), 3);
        boolean full = b == 4 || q == 4;
        int asideAndFlip = 36 + 2 * b + q + 1;
        int finish = b + 2 * q + 2;
        Due.same(with + "writes", x.writes(), EMPTY + asideAndFlip + finish + (full ? EMPTY : 0));
        Due.same(with + "flips", x.flips(), full ? 3 : 2);
        Due.same(with + "sent", x.radio(-1), q);
    }

    // ---- "POWER FAILS before the WRITE [..]: that WRITE is not done, nor anything after it." "if that one was not
    // finished, it is finished, from its first word on, but without the records that were SENT already: the same
    // WRITES for the others"

    private static void everyWriteOfAFullBuffer() {
        int[] words = new int[30];
        setUp(words, 1, 20, 7, 1200, 4, 11, 5, 12, 6, 13);
        int[] rest = {
            Asm.one(Asm.PUSH, 4, 0), Asm.two(Asm.ADD, 3, 2, 1, 0),
            Asm.one(Asm.PUSH, 5, 0), Asm.two(Asm.ADD, 3, 2, 1, 0),
            Asm.one(Asm.PUSH, 6, 0),
            Asm.one(Asm.SWPB, 7, 3), Asm.one(Asm.SWPB, 7, 3), Asm.one(Asm.SWPB, 7, 3), Asm.one(Asm.SWPB, 7, 3),
            Asm.jump(7, -1)};
        System.arraycopy(rest, 0, words, 12, rest.length);
        for (int n = 1; n <= 60; n++) {
            failingBefore(n, words, 7, 7 + 5 + 4, 4, 3);
        }
    }

    private static void everyWriteOfAFullQueue() {
        int[] words = new int[30];
        setUp(words, 1, 20, 7, 1200, 4, 11);
        int[] rest = {
            Asm.one(Asm.SWPB, 7, 3), Asm.one(Asm.SWPB, 7, 3), Asm.one(Asm.SWPB, 7, 3),
            Asm.one(Asm.PUSH, 4, 0), Asm.two(Asm.ADD, 3, 2, 1, 0), Asm.two(Asm.ADD, 3, 1, 4, 0), Asm.jump(7, -4)};
        System.arraycopy(rest, 0, words, 12, rest.length);
        for (int n = 1; n <= 60; n++) {
            failingBefore(n, words, 9, 9 + 3 + 3 * 4 + 1, 3, 4);
        }
    }

    /** An empty checkpoint stands behind the first steps; the failure comes before WRITE n of the next one. */
    private static void failingBefore(int n, int[] program, int first, int steps, int b, int q) {
        BrownoutCore x = Asm.loaded(program);
        for (int k = 0; k < 4; k++) {
            x.load(88 + k, k + 1);
        }
        x.start(1024);
        x.failWrite(EMPTY + n);
        String at = "b " + b + ", q " + q + ", WRITE " + n + ": ";
        Due.same(at + "run", x.run(200), steps);
        Due.same(at + "state", x.state(), 2);
        int flip = 36 + 2 * b + q + 1;
        boolean flipped = n > flip;
        int done = Math.max(0, n - 1 - flip);
        int words = Math.min(b, done);
        int records = Math.min(q, Math.max(0, done - b) / 2);
        Due.same(at + "flips", x.flips(), flipped ? 2 : 1);
        Due.same(at + "writes", x.writes(), EMPTY + n - 1);
        held(x, at, words, records);
        Due.yes(at + "boot", x.boot());
        Due.same(at + "writes of booting", x.writes() - EMPTY - n + 1, flipped ? b + 2 * (q - records) + 2 : 0);
        held(x, at + "booted, ", flipped ? b : 0, flipped ? q : 0);
        Due.same(at + "section", x.section(), 0);
        Due.same(at + "retired", x.retired(), flipped ? steps : first);
        Due.same(at + "run to the FLIP again", x.run(steps - x.retired()), flipped ? 0 : steps - first);
        Due.same(at + "run over it", x.run(1), 1);
        held(x, at + "in the end, ", b, q);
    }

    private static void held(BrownoutCore x, String at, int words, int records) {
        for (int k = 0; k < 4; k++) {
            Due.same(at + "word " + k, x.fram(88 + k), k < words ? k + 1 << 8 : k + 1);
            Due.same(at + "record " + k, x.radio(k), k < records ? 11 + k : 0);
        }
        Due.same(at + "records", x.radio(-1), records);
    }

    /** Registers are given their values, and words that do nothing follow, so that twelve words are tracked. */
    private static void setUp(int[] words, int... registersAndValues) {
        for (int i = 0; i < registersAndValues.length; i += 2) {
            words[i] = Asm.constantTo(Asm.MOV, registersAndValues[i]);
            words[i + 1] = registersAndValues[i + 1];
        }
    }

    // ---- "POWER FAILS before the WRITE or the step for which it was told to"

    private static void aStepThatFailsBeforeItsCheckpoint() {
        BrownoutCore x = Asm.ran(12, counting(20));
        x.failStep(1);
        Due.same("run", x.run(1), 0);
        Due.same("the checkpoint of that step is not begun", x.writes(), 0);
        Due.same("flips", x.flips(), 0);
        Due.same("retired", x.retired(), 0);
        x.boot();
        Due.same("run", x.run(13), 13);
        Due.same("the checkpoint is made", x.flips(), 1);
    }

    // ---- "POWER FAILS [..] (an unfinished instruction does not count)", "how many were completed (with all that
    // belongs to them)"

    private static void everyWriteOfAStepWithTwoCheckpoints() {
        int[] words = counting(12);
        words = Arrays.copyOf(words, 14);
        words[12] = Asm.toAbsolute(Asm.MOV, 3);
        words[13] = Asm.HALT;
        for (int n = 1; n <= 2 * EMPTY; n++) {
            BrownoutCore x = Asm.started(words);
            x.failWrite(n);
            int flips = n <= 37 ? 0 : n <= EMPTY + 37 ? 1 : 2;
            String at = "WRITE " + n + " of a step with two checkpoints: ";
            Due.same(at + "run", x.run(20), 12);
            Due.same(at + "flips", x.flips(), flips);
            Due.same(at + "retired while off", x.retired(), flips == 0 ? 0 : 11 + flips);
            Due.yes(at + "boot", x.boot());
            Due.same(at + "state", x.state(), flips == 2 ? 3 : 1);
            Due.same(at + "R6", x.register(6), flips == 0 ? 0 : 12);
            Due.same(at + "PC", x.register(0), flips == 0 ? 1024 : flips == 1 ? 1048 : 1052);
            Due.same(at + "run on", x.run(20), flips == 0 ? 13 : flips == 1 ? 1 : -1);
            Due.same(at + "state in the end", x.state(), 3);
            Due.same(at + "retired in the end", x.retired(), 13);
        }
    }

    // ---- "BOOTING takes registers and SRAM as they were at the checkpoint whose FLIP was done latest (at the start,
    // if there was none) and begins a section"

    private static void theLatestFlipOfTwo() {
        for (int n = 1; n <= 2 * EMPTY; n++) {
            BrownoutCore x = Asm.started(counting(40));
            x.failWrite(n);
            int flips = n <= 37 ? 0 : n <= EMPTY + 37 ? 1 : 2;
            String at = "WRITE " + n + " of two checkpoints: ";
            Due.same(at + "run", x.run(40), n <= EMPTY ? 12 : 24);
            Due.yes(at + "boot", x.boot());
            Due.same(at + "flips", x.flips(), flips);
            Due.same(at + "R6", x.register(6), 12 * flips);
            Due.same(at + "PC", x.register(0), 1024 + 24 * flips);
            Due.same(at + "retired", x.retired(), 12 * flips);
            Due.same(at + "section", x.section(), 0);
            Due.same(at + "run on", x.run(12), 12);
            Due.same(at + "a section of twelve steps", x.section(), 12);
        }
    }

    /** Instructions of one word, each of which adds 1 to R6. */
    private static int[] counting(int many) {
        int[] words = new int[many];
        Arrays.fill(words, Asm.two(Asm.ADD, 3, 1, 6, 0));
        return words;
    }
}
