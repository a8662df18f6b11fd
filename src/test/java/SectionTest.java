/** Tracking, buffer, queue, log and checkpoints without failures (Terms; promises 7, 11 to 18). */
public final class SectionTest {
    private static final int BUFFERED = 32;
    private static final int QUEUED = 256;
    private static final int LOGGED = 2048;

    public static void main(String[] args) {
        loadsAndFetchesAreTracked();
        anUntrackedWordIsWrittenAtOnce();
        aReadWordIsHeldBack();
        aWrittenWordStaysWritten();
        aByteStoreReadsFirst();
        theBufferIsSeenByFetches();
        checkpointBeyondElevenWords();
        checkpointAtFourBufferedWords();
        sameWordTakesOnePlaceInTheBuffer();
        bufferIsWrittenInItsOrder();
        checkpointAtFourRecords();
        checkpointAtThreeSensorLoads();
        fourValuesInTheLog();
        anEmptySensorGivesAllOnes();
        bytesOfTheSensor();
        recordsOfBytes();
        haltByWordAndByte();
        haltWithWhatIsHeld();
        checkpointAndHaltInOneStep();
        twoHundredRecords();
        sentAndQueuedTogetherAreTwoHundred();
        memoryTracksNothing();
        Due.end();
    }

    private static void loadsAndFetchesAreTracked() {
        BrownoutCore x = Asm.started(
                Asm.fromAbsolute(Asm.MOV, 6), 1200,
                Asm.fromAbsolute(Asm.MOV, 6), 1201,
                Asm.fromAbsolute(Asm.MOV, 6), 512,
                Asm.bytes(Asm.fromAbsolute(Asm.MOV, 6)), 1203,
                Asm.jump(7, -9));
        int[] due = {3, 5, 7, 10, 11, 11, 11};
        for (int i = 0; i < due.length; i++) {
            Due.same("run(1)", x.run(1), 1);
            Due.same("tracked after step " + (i + 1), x.section(), due[i]);
            Due.same("retired after step " + (i + 1), x.retired(), i + 1);
        }
        Due.same("loads are no WRITES", x.writes(), 0);
    }

    private static void anUntrackedWordIsWrittenAtOnce() {
        BrownoutCore x = Asm.ran(2, Asm.constantTo(Asm.MOV, 5), 1234, Asm.toAbsolute(Asm.MOV, 5), 1201);
        Due.same("fram", x.fram(88), 1234);
        Due.same("memory", x.memory(1200), 1234);
        Due.same("writes", x.writes(), 1);
        Due.same("tracked, not buffered", x.section(), 5);
        Due.same("flips", x.flips(), 0);
    }

    private static void aReadWordIsHeldBack() {
        BrownoutCore x = Asm.loaded(
                Asm.fromAbsolute(Asm.MOV, 5), 1200,
                Asm.two(Asm.MOV, 3, 1, 2, 1), 1200,
                Asm.fromAbsolute(Asm.MOV, 6), 1200);
        x.load(88, 7);
        x.start(1024);
        x.run(3);
        Due.same("loaded before", x.register(5), 7);
        Due.same("loads see the buffer", x.register(6), 1);
        Due.same("memory sees the buffer", x.memory(1200), 1);
        Due.same("memory sees it at the odd address", x.memory(1201), 1);
        Due.same("fram does not", x.fram(88), 7);
        Due.same("writes", x.writes(), 0);
        Due.same("section", x.section(), 7 + BUFFERED);
    }

    private static void aWrittenWordStaysWritten() {
        BrownoutCore x = Asm.ran(4,
                Asm.two(Asm.MOV, 3, 1, 2, 1), 1200,
                Asm.fromAbsolute(Asm.MOV, 6), 1200,
                Asm.two(Asm.ADD, 3, 2, 2, 1), 1200,
                Asm.bytes(Asm.two(Asm.MOV, 3, 3, 2, 1)), 1201);
        Due.same("loaded", x.register(6), 1);
        Due.same("written three times", x.writes(), 3);
        Due.same("fram", x.fram(88), 0xff03);
        Due.same("section", x.section(), 9);
    }

    private static void aByteStoreReadsFirst() {
        BrownoutCore x = Asm.loaded(
                Asm.bytes(Asm.two(Asm.MOV, 3, 1, 2, 1)), 1200,
                Asm.two(Asm.MOV, 3, 2, 2, 1), 1200);
        x.load(88, 0x1234);
        x.start(1024);
        x.run(1);
        Due.same("section", x.section(), 3 + BUFFERED);
        Due.same("fram", x.fram(88), 0x1234);
        Due.same("memory", x.memory(1200), 0x1201);
        x.run(1);
        Due.same("a word in place of it", x.memory(1200), 2);
        Due.same("section", x.section(), 5 + BUFFERED);
        Due.same("writes", x.writes(), 0);
    }

    /** The program changes an instruction that lies ahead and was read. */
    private static void theBufferIsSeenByFetches() {
        int ahead = Asm.addressOf(6);
        BrownoutCore x = Asm.ran(4,
                Asm.fromAbsolute(Asm.MOV, 5), ahead,
                Asm.two(Asm.MOV, 0, 3, 2, 1), Asm.two(Asm.MOV, 3, 2, 6, 0), ahead,
                Asm.jump(7, 0),
                Asm.two(Asm.MOV, 3, 1, 6, 0));
        Due.same("the changed instruction is carried out", x.register(6), 2);
        Due.same("FRAM has the old one", x.fram(6), Asm.two(Asm.MOV, 3, 1, 6, 0));
        Due.same("section", x.section(), 7 + BUFFERED);
    }

    private static void checkpointBeyondElevenWords() {
        int[] words = new int[20];
        java.util.Arrays.fill(words, Asm.two(Asm.ADD, 3, 1, 6, 0));
        BrownoutCore x = Asm.ran(12, words);
        Due.same("twelve words are tracked", x.section(), 12);
        Due.same("flips", x.flips(), 0);
        Due.same("writes", x.writes(), 0);
        x.run(1);
        Due.same("one word after the checkpoint", x.section(), 1);
        Due.same("flips", x.flips(), 1);
        Due.same("writes of a checkpoint without anything held", x.writes(), 39);
        Due.same("retired", x.retired(), 13);
        Due.same("R6", x.register(6), 13);

        BrownoutCore eleven = Asm.started(words);
        eleven.run(11);
        Due.same("eleven", eleven.section(), 11);
        eleven.run(1);
        Due.same("eleven are not too many", eleven.flips(), 0);
    }

    private static void checkpointAtFourBufferedWords() {
        BrownoutCore x = Asm.loaded(
                Asm.constantTo(Asm.MOV, 7), 1200,
                Asm.two(Asm.ADD, 3, 1, 7, 1), 0,
                Asm.two(Asm.ADD, 3, 2, 7, 0),
                Asm.jump(7, -4));
        for (int k = 0; k < 5; k++) {
            x.load(88 + k, 500 + k);
        }
        x.start(1024);
        int[] buffered = {0, 1, 1, 1, 2, 2, 2, 3, 3, 3, 4};
        for (int i = 0; i < buffered.length; i++) {
            x.run(1);
            Due.same("buffered after step " + (i + 1), x.section() / BUFFERED, buffered[i]);
        }
        Due.same("ten words are tracked", x.section() % BUFFERED, 10);
        Due.same("no checkpoint yet", x.writes(), 0);
        x.run(1);
        Due.same("after the checkpoint", x.section(), 1);
        Due.same("36 + 8, the FLIP, 4 words, 2", x.writes(), 51);
        Due.same("flips", x.flips(), 1);
        for (int k = 0; k < 5; k++) {
            Due.same("word " + k, x.fram(88 + k), k < 4 ? 501 + k : 504);
        }
    }

    private static void sameWordTakesOnePlaceInTheBuffer() {
        BrownoutCore x = Asm.ran(41, Asm.two(Asm.ADD, 3, 1, 2, 1), 1200, Asm.jump(7, -3));
        Due.same("twenty-one times 1", x.memory(1200), 21);
        Due.same("section", x.section(), 4 + BUFFERED);
        Due.same("writes", x.writes(), 0);
        Due.same("fram", x.fram(88), 0);
    }

    /** A failure between the WRITES of two words shows which came in first. */
    private static void bufferIsWrittenInItsOrder() {
        int[] program = {
            Asm.two(Asm.ADD, 3, 1, 2, 1), 1202,
            Asm.two(Asm.ADD, 3, 2, 2, 1), 1200,
            Asm.two(Asm.ADD, 2, 2, 2, 1), 1202,
            Asm.toAbsolute(Asm.MOV, 3), Asm.HALT};
        BrownoutCore x = Asm.started(program);
        x.failWrite(36 + 4 + 1 + 2);
        Due.same("three steps", x.run(9), 3);
        Due.same("the word that came in first, with its last value", x.fram(89), 5);
        Due.same("the other", x.fram(88), 0);
        Due.yes("boot", x.boot());
        Due.same("both", x.fram(88), 2);
        Due.same("both", x.fram(89), 5);
        Due.same("state", x.state(), 3);
    }

    private static void checkpointAtFourRecords() {
        BrownoutCore x = Asm.started(
                Asm.two(Asm.ADD, 3, 1, 5, 0),
                Asm.toAbsolute(Asm.MOV, 5), Asm.RADIO,
                Asm.jump(7, -4));
        x.run(11);
        Due.same("four records wait", x.section(), 4 + 4 * QUEUED);
        Due.same("none was sent", x.radio(-1), 0);
        Due.same("none can be seen", x.radio(0), 0);
        Due.same("writes", x.writes(), 0);
        x.run(1);
        Due.same("after the checkpoint", x.section(), 1);
        Due.same("sent", x.radio(-1), 4);
        for (int k = 0; k < 4; k++) {
            Due.same("record " + k, x.radio(k), k + 1);
        }
        Due.same("36 + 4, the FLIP, 8, 2", x.writes(), 51);
    }

    private static void checkpointAtThreeSensorLoads() {
        BrownoutCore x = Asm.started(Asm.fromAbsolute(Asm.ADD, 5), Asm.SENSOR, Asm.jump(7, -3));
        for (int k = 1; k <= 5; k++) {
            x.sample(k);
        }
        x.run(5);
        Due.same("three values", x.section(), 3 + 3 * LOGGED);
        Due.same("two WRITES each", x.writes(), 6);
        Due.same("waiting", x.waiting(), 2);
        Due.same("sum", x.register(5), 6);
        x.run(1);
        Due.same("the log is empty", x.section(), 1);
        Due.same("writes", x.writes(), 6 + 39);
        x.run(1);
        Due.same("the next section's first value", x.section(), 3 + LOGGED);
        Due.same("sum", x.register(5), 10);
    }

    private static void fourValuesInTheLog() {
        BrownoutCore x = Asm.started(
                Asm.two(Asm.ADD, 2, 1, 2, 1), Asm.SENSOR, Asm.SENSOR,
                Asm.two(Asm.CMP, 2, 1, 2, 1), Asm.SENSOR, Asm.SENSOR,
                Asm.toAbsolute(Asm.MOV, 3), Asm.HALT);
        for (int k = 1; k <= 4; k++) {
            x.sample(k == 4 ? 3 : k);
        }
        x.run(2);
        Due.same("four values", x.section(), 6 + 4 * LOGGED);
        Due.same("3 - 3", x.register(2), 3);
        Due.same("eight WRITES", x.writes(), 8);
        x.failStep(1);
        x.run(1);
        Due.same("off, the log stays", x.section(), 4 * LOGGED);
        x.boot();
        Due.same("booted, the log stays", x.section(), 4 * LOGGED);
        x.run(2);
        Due.same("the same values again", x.register(2), 3);
        Due.same("no more WRITES", x.writes(), 8);
        Due.same("section", x.section(), 6 + 4 * LOGGED);
    }

    private static void anEmptySensorGivesAllOnes() {
        BrownoutCore x = Asm.ran(1, Asm.fromAbsolute(Asm.MOV, 5), Asm.SENSOR);
        Due.same("R5", x.register(5), 65535);
        Due.same("it is logged", x.section(), 2 + LOGGED);
        Due.same("writes", x.writes(), 2);
        x.sample(9);
        x.failStep(1);
        x.run(1);
        x.boot();
        x.run(1);
        Due.same("the log says 65535 again", x.register(5), 65535);
        Due.same("the sample still waits", x.waiting(), 1);
    }

    private static void bytesOfTheSensor() {
        BrownoutCore x = Asm.started(
                Asm.bytes(Asm.fromAbsolute(Asm.MOV, 5)), 17,
                Asm.bytes(Asm.fromAbsolute(Asm.MOV, 6)), 16,
                Asm.fromAbsolute(Asm.MOV, 7), 17);
        x.sample(0x1234);
        x.sample(0x5678);
        x.sample(0x9abc);
        x.run(3);
        Due.same("high byte", x.register(5), 0x12);
        Due.same("low byte of the next", x.register(6), 0x78);
        Due.same("a word at 17", x.register(7), 0x9abc);
        Due.same("each was a load", x.section(), 6 + 3 * LOGGED);
    }

    private static void recordsOfBytes() {
        BrownoutCore x = Asm.ran(6,
                Asm.constantTo(Asm.MOV, 5), 0x1234,
                Asm.toAbsolute(Asm.MOV, 5), 19,
                Asm.bytes(Asm.toAbsolute(Asm.MOV, 5)), 18,
                Asm.bytes(Asm.toAbsolute(Asm.MOV, 5)), 19,
                Asm.toAbsolute(Asm.ADD, 5), 18,
                Asm.bytes(Asm.toAbsolute(Asm.MOV, 3)), 21);
        int[] due = {0x1234, 0x34, 0x34, 0x1234};
        Due.same("records", x.radio(-1), 4);
        for (int k = 0; k < due.length; k++) {
            Due.same("record " + k, x.radio(k), due[k]);
        }
        BrownoutCore pushed = Asm.ran(2, Asm.constantTo(Asm.MOV, 1), 20, Asm.one(Asm.PUSH, 3, 3));
        Due.same("a PUSH to RADIO", pushed.section(), 3 + QUEUED);
    }

    private static void haltByWordAndByte() {
        int[] stores = {Asm.toAbsolute(Asm.MOV, 3), Asm.bytes(Asm.toAbsolute(Asm.MOV, 3)), Asm.toAbsolute(Asm.XOR, 3)};
        for (int store : stores) {
            for (int address = 20; address <= 21; address++) {
                BrownoutCore x = Asm.started(store, address, Asm.two(Asm.MOV, 3, 1, 6, 0));
                Due.same("run", x.run(50), 1);
                Due.same("state", x.state(), 3);
                Due.same("retired", x.retired(), 1);
                Due.same("flips", x.flips(), 1);
                Due.same("writes", x.writes(), 39);
                Due.same("section", x.section(), 0);
                Due.same("PC", x.register(0), 1028);
                Due.same("the next instruction is not done", x.register(6), 0);
            }
        }
        BrownoutCore loads = Asm.ran(1, Asm.two(Asm.CMP, 3, 1, 2, 1), Asm.HALT);
        Due.same("a load from HALT does not halt", loads.state(), 1);
    }

    private static void haltWithWhatIsHeld() {
        BrownoutCore x = Asm.started(
                Asm.fromAbsolute(Asm.MOV, 4), Asm.SENSOR,
                Asm.toAbsolute(Asm.ADD, 4), 1200,
                Asm.toAbsolute(Asm.MOV, 4), Asm.RADIO,
                Asm.toAbsolute(Asm.MOV, 4), 512,
                Asm.toAbsolute(Asm.MOV, 3), Asm.HALT);
        x.sample(70);
        Due.same("run", x.run(200), 5);
        Due.same("state", x.state(), 3);
        Due.same("fram", x.fram(88), 70);
        Due.same("memory", x.memory(1200), 70);
        Due.same("SRAM stays", x.memory(512), 70);
        Due.same("registers stay", x.register(4), 70);
        Due.same("radio", x.radio(0), 70);
        Due.same("section", x.section(), 0);
        Due.same("2, 36 + 3, the FLIP, 1, 2, 2", x.writes(), 47);
        Due.same("retired", x.retired(), 5);
    }

    private static void checkpointAndHaltInOneStep() {
        int[] words = new int[14];
        java.util.Arrays.fill(words, Asm.two(Asm.ADD, 3, 1, 6, 0));
        words[12] = Asm.toAbsolute(Asm.MOV, 3);
        words[13] = Asm.HALT;
        BrownoutCore x = Asm.ran(12, words);
        Due.same("run", x.run(5), 1);
        Due.same("two checkpoints", x.flips(), 2);
        Due.same("writes", x.writes(), 78);
        Due.same("retired", x.retired(), 13);
        Due.same("state", x.state(), 3);
    }

    private static void twoHundredRecords() {
        BrownoutCore x = Asm.started(
                Asm.two(Asm.ADD, 3, 1, 5, 0),
                Asm.toAbsolute(Asm.MOV, 5), Asm.RADIO,
                Asm.jump(7, -4));
        for (int i = 0; i < 3; i++) {
            x.run(198);
        }
        Due.same("sent of 198", x.radio(-1), 196);
        Due.same("queued of 198", x.section(), 4 + 2 * QUEUED);
        x.run(5);
        Due.same("sent of 200", x.radio(-1), 196);
        Due.same("queued of 200", x.section(), 4 + 4 * QUEUED);
        x.run(1);
        Due.same("200 are sent", x.radio(-1), 200);
        Due.same("fifty checkpoints", x.writes(), 50 * 51);
        x.run(200);
        Due.same("no more are queued", x.section(), 4);
        Due.same("no more are sent", x.radio(-1), 200);
        Due.same("no more checkpoints", x.writes(), 50 * 51);
        for (int k = 0; k < 200; k++) {
            Due.same("record " + k, x.radio(k), k + 1);
        }
        Due.same("record 200", x.radio(200), 0);
    }

    /** Two records go first, so that 198 are sent when two more fill up the 200. */
    private static void sentAndQueuedTogetherAreTwoHundred() {
        BrownoutCore x = Asm.started(
                Asm.two(Asm.MOV, 3, 1, 2, 1), Asm.RADIO,
                Asm.two(Asm.MOV, 3, 1, 2, 1), Asm.RADIO,
                Asm.fromAbsolute(Asm.MOV, 4), Asm.SENSOR,
                Asm.two(Asm.CMP, 2, 1, 2, 1), Asm.SENSOR, Asm.SENSOR,
                Asm.two(Asm.ADD, 3, 1, 5, 0),
                Asm.toAbsolute(Asm.MOV, 5), Asm.RADIO,
                Asm.jump(7, -4));
        x.run(5);
        Due.same("two were sent", x.radio(-1), 2);
        for (int i = 0; i < 4; i++) {
            x.run(150);
        }
        Due.same("198 were sent", x.radio(-1), 198);
        Due.same("and two are queued", x.section(), 4 + 2 * QUEUED);
        x.failStep(1);
        x.run(1);
        x.boot();
        Due.same("the queue is lost", x.section(), 0);
        x.run(30);
        Due.same("two are queued again, and no more", x.section(), 4 + 2 * QUEUED);
        Due.same("198 were sent", x.radio(-1), 198);
    }

    private static void memoryTracksNothing() {
        BrownoutCore x = Asm.ran(1, Asm.jump(7, -1));
        for (int address = 1024; address < 1280; address += 2) {
            x.memory(address);
        }
        x.memory(16);
        x.fram(5);
        Due.same("section", x.section(), 1);
        Due.same("writes", x.writes(), 0);
    }
}
