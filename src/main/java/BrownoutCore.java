import java.util.Arrays;

/**
 * A small computer whose power may go away before any instruction and before any write to its
 * lasting memory. The words WRITE, FLIP, SENT, section and checkpoint are those of the document.
 */
public final class BrownoutCore {
    private static final int NEW = 0;
    private static final int ON = 1;
    private static final int OFF = 2;
    private static final int HALTED = 3;

    private static final int WORD = 65535;
    private static final int EVEN = 65534;
    private static final int FRAM_WORDS = 128;
    private static final int SRAM_WORDS = 16;
    private static final int REGISTERS = 16;
    private static final int PC = 0;
    private static final int MOST_STEPS = 200;

    private final Power power;
    private final Lasting lasting;
    private final Samples samples;
    private final Section current;
    private final Bus bus;
    private final Processor processor;
    private final Keeper keeper;
    private int phase;

    public BrownoutCore() {
        power = new Power();
        lasting = new Lasting();
        samples = new Samples();
        current = new Section();
        bus = new Bus(power, lasting, samples, current);
        processor = new Processor(bus);
        keeper = new Keeper(power, lasting, current, processor.registers, bus.sram);
        phase = NEW;
    }

    public boolean load(int k, int w) {
        if (phase != NEW || !isFramWord(k)) {
            return false;
        }
        lasting.framWords[k] = w & WORD;
        return true;
    }

    public boolean start(int pc) {
        if (phase != NEW) {
            return false;
        }
        processor.registers[PC] = pc & EVEN;
        keeper.keepVolatile();
        power.present = true;
        phase = ON;
        return true;
    }

    public boolean sample(int v) {
        return samples.append(v & WORD);
    }

    public boolean failWrite(int n) {
        return power.tell(Power.WRITE, n);
    }

    public boolean failStep(int n) {
        return power.tell(Power.STEP, n);
    }

    public int run(int n) {
        if (phase != ON || n < 0 || n > MOST_STEPS) {
            return -1;
        }
        int completed = 0;
        for (int i = 0; i < n && phase == ON; i++) {
            if (beginStep()) {
                processor.execute();
            }
            if (endStep()) {
                completed++;
            }
        }
        return completed;
    }

    public boolean boot() {
        if (phase != OFF) {
            return false;
        }
        power.present = true;
        if (!keeper.recover()) {
            return false;
        }
        phase = keeper.kept.halted ? HALTED : ON;
        return true;
    }

    public int state() {
        return phase;
    }

    public int register(int k) {
        return k < 0 || k >= REGISTERS ? 0 : processor.registers[k];
    }

    public int memory(int address) {
        return bus.peek(address);
    }

    public int fram(int k) {
        return isFramWord(k) ? lasting.framWords[k] : 0;
    }

    public int radio(int k) {
        if (k == -1) {
            return lasting.sentCount;
        }
        return k < 0 || k >= lasting.sentCount ? 0 : lasting.sent[k];
    }

    public int waiting() {
        return samples.count;
    }

    public int writes() {
        return power.writesDone;
    }

    public int flips() {
        return keeper.flipsDone;
    }

    public int retired() {
        return keeper.kept.instructions + current.instructions;
    }

    public int section() {
        return current.tracked
                + 32 * current.held.wordCount
                + 256 * current.held.recordCount
                + 2048 * lasting.logLength;
    }

    private static boolean isFramWord(int k) {
        return k >= 0 && k < FRAM_WORDS;
    }

    private boolean beginStep() {
        if (!power.allows(Power.STEP)) {
            return false;
        }
        return !current.isFull() || keeper.checkpoint(false);
    }

    /** Whether the step that now ends was completed, with the checkpoint that a halt asks for. */
    private boolean endStep() {
        boolean halting = bus.takeHalt();
        if (power.present) {
            current.instructions++;
            if (halting && keeper.checkpoint(true)) {
                phase = HALTED;
            }
        }
        if (!power.present) {
            forget();
        }
        return power.present;
    }

    /** What doesn't last is wiped at once, so that every answer given while off is the due one. */
    private void forget() {
        Arrays.fill(processor.registers, 0);
        Arrays.fill(bus.sram, 0);
        current.begin();
        phase = OFF;
    }

    /** Whether there is power, and how far off the failures are that were told. */
    private static final class Power {
        static final int WRITE = 0;
        static final int STEP = 1;
        private static final int FARTHEST = 1000;

        boolean present;
        int writesDone;
        // For WRITES and for steps: the failure comes before the one of this number, 0 for none.
        private final int[] told = new int[2];

        boolean tell(int event, int n) {
            if (n < 0 || n > FARTHEST) {
                return false;
            }
            told[event] = n;
            return true;
        }

        /** To be asked before each WRITE and each step: false means that it must not be done. */
        boolean allows(int event) {
            if (present && told[event] == 1) {
                present = false;
                told[WRITE] = 0;
                told[STEP] = 0;
            }
            if (!present) {
                return false;
            }
            if (told[event] > 0) {
                told[event]--;
            }
            if (event == WRITE) {
                writesDone++;
            }
            return true;
        }
    }

    /** What stays without power, but for what a checkpoint keeps aside. */
    private static final class Lasting {
        private static final int MOST_RECORDS = 200;
        // A section's last instruction may load twice after two loads: four values at most.
        private static final int LOG_VALUES = 4;

        final int[] framWords = new int[FRAM_WORDS];
        final int[] log = new int[LOG_VALUES];
        final int[] sent = new int[MOST_RECORDS];
        int logLength;
        int sentCount;

        boolean hasRoomFor(int queued) {
            return sentCount + queued < MOST_RECORDS;
        }

        void placeLogged(int value) {
            if (logLength < LOG_VALUES) {
                log[logLength] = value;
            }
        }

        void lengthenLog() {
            if (logLength < LOG_VALUES) {
                logLength++;
            }
        }

        void placeRecord(int record) {
            if (sentCount < MOST_RECORDS) {
                sent[sentCount] = record;
            }
        }

        void countRecord() {
            if (sentCount < MOST_RECORDS) {
                sentCount++;
            }
        }
    }

    /** The samples that wait, in a ring. */
    private static final class Samples {
        private static final int MOST = 16;
        private static final int NONE_WAITS = 65535;

        private final int[] ring = new int[MOST];
        private int first;
        int count;

        boolean append(int value) {
            if (count >= MOST) {
                return false;
            }
            ring[(first + count) % MOST] = value;
            count++;
            return true;
        }

        int take() {
            if (count == 0) {
                return NONE_WAITS;
            }
            int value = ring[first];
            first = (first + 1) % MOST;
            count--;
            return value;
        }
    }

    /** The buffer of stores held back and the queue of records, both in the order they came in. */
    private static final class Held {
        // A step begins below four of each, and an instruction stores once.
        static final int MOST = 4;

        final int[] words = new int[MOST];
        final int[] values = new int[MOST];
        final int[] records = new int[MOST];
        int wordCount;
        int recordCount;

        void clear() {
            wordCount = 0;
            recordCount = 0;
        }

        void copyFrom(Held other) {
            System.arraycopy(other.words, 0, words, 0, MOST);
            System.arraycopy(other.values, 0, values, 0, MOST);
            System.arraycopy(other.records, 0, records, 0, MOST);
            wordCount = other.wordCount;
            recordCount = other.recordCount;
        }

        int valueOf(int word, int otherwise) {
            for (int i = 0; i < wordCount; i++) {
                if (words[i] == word) {
                    return values[i];
                }
            }
            return otherwise;
        }

        void holdWord(int word, int value) {
            int slot = 0;
            while (slot < wordCount && words[slot] != word) {
                slot++;
            }
            if (slot < MOST) {
                words[slot] = word;
                values[slot] = value;
                wordCount = Math.max(wordCount, slot + 1);
            }
        }

        void holdRecord(int record) {
            if (recordCount < MOST) {
                records[recordCount] = record;
                recordCount++;
            }
        }
    }

    /** What happened since the latest checkpoint or boot. */
    private static final class Section {
        private static final int UNTRACKED = 0;
        private static final int READ = 1;
        private static final int WRITTEN = 2;
        private static final int MOST_TRACKED = 11;
        private static final int SENSOR_LOADS = 3;

        private final int[] marks = new int[FRAM_WORDS];
        final Held held = new Held();
        int tracked;
        int sensorLoads;
        int instructions;

        void begin() {
            Arrays.fill(marks, UNTRACKED);
            held.clear();
            tracked = 0;
            sensorLoads = 0;
            instructions = 0;
        }

        boolean isFull() {
            return tracked > MOST_TRACKED
                    || held.wordCount >= Held.MOST
                    || held.recordCount >= Held.MOST
                    || sensorLoads >= SENSOR_LOADS;
        }

        void noteLoad(int word) {
            if (marks[word] == UNTRACKED) {
                marks[word] = READ;
                tracked++;
            }
        }

        /** Whether the store has to be held back: done at once, it would change a load that is repeated. */
        boolean noteStore(int word) {
            if (marks[word] == UNTRACKED) {
                marks[word] = WRITTEN;
                tracked++;
            }
            return marks[word] == READ;
        }
    }

    /** Leads each load, fetch and store to the memory or device that has the address. */
    private static final class Bus {
        private static final int SENSOR = 16;
        private static final int RADIO = 18;
        private static final int HALT = 20;
        private static final int SRAM = 512;
        private static final int FRAM = 1024;

        final int[] sram = new int[SRAM_WORDS];
        private final Power power;
        private final Lasting lasting;
        private final Samples samples;
        private final Section section;
        private boolean halting;

        Bus(Power power, Lasting lasting, Samples samples, Section section) {
            this.power = power;
            this.lasting = lasting;
            this.samples = samples;
            this.section = section;
        }

        /** Whether the instruction stored to HALT; asking makes ready for the next instruction. */
        boolean takeHalt() {
            boolean was = halting;
            halting = false;
            return was;
        }

        int fetchWord(int address) {
            if (!inFram(address)) {
                return inSram(address) ? sram[sramWord(address)] : 0;
            }
            int word = framWord(address);
            section.noteLoad(word);
            return section.held.valueOf(word, lasting.framWords[word]);
        }

        int read(int address, boolean bytes) {
            int word = (address & EVEN) == SENSOR ? loadSensor() : fetchWord(address);
            if (!bytes) {
                return word;
            }
            return (address & 1) == 1 ? word >> 8 : word & 255;
        }

        void write(int address, int value, boolean bytes) {
            int whole = bytes ? withByte(peek(address), address, value) : value;
            if (inSram(address)) {
                sram[sramWord(address)] = whole;
            } else if (inFram(address)) {
                if (bytes) {
                    section.noteLoad(framWord(address));
                }
                storeFram(framWord(address), whole);
            } else {
                storeDevice(address & EVEN, value);
            }
        }

        /** What a load would give, without its being noted. */
        int peek(int address) {
            if (!inFram(address)) {
                return inSram(address) ? sram[sramWord(address)] : 0;
            }
            int word = framWord(address);
            return section.held.valueOf(word, lasting.framWords[word]);
        }

        private int loadSensor() {
            int number = section.sensorLoads;
            section.sensorLoads++;
            if (number < lasting.logLength && number < lasting.log.length) {
                return lasting.log[number];
            }
            // The rest of an instruction in which the power failed must not use up a sample.
            if (!power.present) {
                return 0;
            }
            int value = samples.take();
            if (power.allows(Power.WRITE)) {
                lasting.placeLogged(value);
            }
            if (power.allows(Power.WRITE)) {
                lasting.lengthenLog();
            }
            return value;
        }

        private void storeFram(int word, int value) {
            if (section.noteStore(word)) {
                section.held.holdWord(word, value);
            } else if (power.allows(Power.WRITE)) {
                lasting.framWords[word] = value;
            }
        }

        private void storeDevice(int place, int value) {
            if (place == RADIO && lasting.hasRoomFor(section.held.recordCount)) {
                section.held.holdRecord(value);
            } else if (place == HALT) {
                halting = true;
            }
        }

        private static int withByte(int word, int address, int value) {
            return (address & 1) == 1 ? word & 255 | value << 8 : word & 65280 | value;
        }

        private static boolean inSram(int address) {
            return address >= SRAM && address < SRAM + 2 * SRAM_WORDS;
        }

        private static boolean inFram(int address) {
            return address >= FRAM && address < FRAM + 2 * FRAM_WORDS;
        }

        private static int sramWord(int address) {
            return address - SRAM >> 1;
        }

        private static int framWord(int address) {
            return address - FRAM >> 1;
        }
    }

    /** Carries out instructions. When the power fails within one, its registers are wiped afterwards. */
    private static final class Processor {
        private static final int SP = 1;
        private static final int SR = 2;
        private static final int ZERO = 3;
        private static final int C = 1;
        private static final int Z = 2;
        private static final int N = 4;
        private static final int V = 256;

        private static final int MOV = 4;
        private static final int CMP = 9;
        private static final int BIT = 11;
        private static final int PUSH = 4;
        private static final int CALL = 5;
        private static final int RETI = 6;

        private static final int IN_CONSTANT = 0;
        private static final int IN_REGISTER = 1;
        private static final int IN_MEMORY = 2;

        final int[] registers = new int[REGISTERS];
        private final Bus bus;
        private boolean bytes;
        // The operand found last: a constant, a register's number, or an address.
        private int kind;
        private int place;
        // The flags that the instruction asks for; only meant while flagsAsked.
        private int flags;
        private boolean flagsAsked;

        Processor(Bus bus) {
            this.bus = bus;
        }

        void execute() {
            int w = nextWord();
            flagsAsked = false;
            if (w >> 12 >= 4) {
                twoOperands(w);
            } else if (w >> 12 >= 2) {
                jump(w);
            } else if (w >> 10 == 4) {
                oneOperand(w);
            }
        }

        private void twoOperands(int w) {
            int op = w >> 12;
            bytes = (w >> 6 & 1) == 1;
            findSource(w >> 8 & 15, w >> 4 & 3);
            int source = operand();
            findDestination(w & 15, w >> 7 & 1);
            int destination = op == MOV ? 0 : operand();
            int result = combined(op, destination, source);
            if (op == CMP || op == BIT) {
                setFlags();
            } else {
                deliver(result);
            }
        }

        private void oneOperand(int w) {
            int op = w >> 7 & 7;
            if (op == RETI) {
                setRegister(SR, pop());
                setRegister(PC, pop());
            }
            if (op >= RETI) {
                return;
            }
            bytes = (w >> 6 & 1) == 1 && (op == 0 || op == 2 || op == PUSH);
            findSource(w & 15, w >> 4 & 3);
            int value = operand();
            if (op == PUSH) {
                push(value);
            } else if (op == CALL) {
                push(registers[PC]);
                setRegister(PC, value);
            } else {
                deliver(changed(op, value));
            }
        }

        private void jump(int w) {
            if (holds(w >> 10 & 7)) {
                int words = (w & 1023) - ((w & 512) << 1);
                setRegister(PC, registers[PC] + 2 * words);
            }
        }

        private boolean holds(int condition) {
            boolean negative = isSet(N);
            switch (condition) {
                case 0:
                    return !isSet(Z);
                case 1:
                    return isSet(Z);
                case 2:
                    return !isSet(C);
                case 3:
                    return isSet(C);
                case 4:
                    return negative;
                case 5:
                    return negative == isSet(V);
                case 6:
                    return negative != isSet(V);
                default:
                    return true;
            }
        }

        private int combined(int op, int destination, int source) {
            int inverted = ~source & mask();
            switch (op) {
                case 5:
                    return sum(destination, source, 0);
                case 6:
                    return sum(destination, source, carry());
                case 7:
                    return sum(destination, inverted, carry());
                case 8:
                case CMP:
                    return sum(destination, inverted, 1);
                case 10:
                    return decimalSum(destination, source);
                case BIT:
                case 15:
                    return logical(destination & source, false);
                case 12:
                    return destination & inverted;
                case 13:
                    return destination | source;
                case 14:
                    return logical(destination ^ source, (destination & source & highest()) != 0);
                default:
                    return source;
            }
        }

        private int changed(int op, int operand) {
            switch (op) {
                case 0:
                    return askFlags(operand >> 1 | carry() * highest(), (operand & 1) == 1, false);
                case 1:
                    return operand >> 8 | (operand & 255) << 8;
                case 2:
                    return askFlags(operand >> 1 | operand & highest(), (operand & 1) == 1, false);
                default:
                    return logical((byte) operand & WORD, false);
            }
        }

        private int sum(int a, int b, int added) {
            int total = a + b + added;
            int signedTotal = signed(a) + signed(b) + added;
            boolean overflow = signedTotal < -highest() || signedTotal >= highest();
            return askFlags(total & mask(), total > mask(), overflow);
        }

        private int decimalSum(int a, int b) {
            int digits = bytes ? 2 : 4;
            int carried = carry();
            int result = 0;
            for (int i = 0; i < digits; i++) {
                int t = (a >> 4 * i & 15) + (b >> 4 * i & 15) + carried;
                carried = t >= 10 ? 1 : 0;
                result |= (t + 6 * carried & 15) << 4 * i;
            }
            return askFlags(result, carried == 1, false);
        }

        private int logical(int result, boolean overflow) {
            return askFlags(result, result != 0, overflow);
        }

        private int askFlags(int result, boolean carry, boolean overflow) {
            flags = (carry ? C : 0) | (result == 0 ? Z : 0)
                    | ((result & highest()) != 0 ? N : 0) | (overflow ? V : 0);
            flagsAsked = true;
            return result;
        }

        private void setFlags() {
            if (flagsAsked) {
                registers[SR] = flags;
            }
        }

        /** Puts a result where the operand was found. */
        private void deliver(int result) {
            if (kind == IN_MEMORY) {
                bus.write(place, result, bytes);
            } else if (kind == IN_REGISTER) {
                setRegister(place, result);
            }
            if (kind != IN_REGISTER || place != SR) {
                setFlags();
            }
        }

        private void findSource(int r, int m) {
            if (r == ZERO) {
                find(IN_CONSTANT, m == 3 ? WORD : m);
            } else if (r == SR && m >= 2) {
                find(IN_CONSTANT, m == 2 ? 4 : 8);
            } else if (m == 0) {
                find(IN_REGISTER, r);
            } else if (m == 1) {
                find(IN_MEMORY, base(r) + nextWord() & WORD);
            } else if (r == PC && m == 3) {
                find(IN_CONSTANT, nextWord());
            } else {
                find(IN_MEMORY, registers[r]);
                if (m == 3) {
                    setRegister(r, registers[r] + (bytes && r != SP ? 1 : 2));
                }
            }
        }

        private void findDestination(int d, int f) {
            if (f == 0) {
                find(IN_REGISTER, d);
            } else {
                find(IN_MEMORY, base(d) + nextWord() & WORD);
            }
        }

        private void find(int newKind, int newPlace) {
            kind = newKind;
            place = newPlace;
        }

        /** What x is added to; asked before x is fetched, so that for PC it is the address of x. */
        private int base(int r) {
            return r == SR ? 0 : registers[r];
        }

        private int operand() {
            if (kind == IN_MEMORY) {
                return bus.read(place, bytes);
            }
            return (kind == IN_REGISTER ? registers[place] : place) & mask();
        }

        private int nextWord() {
            int word = bus.fetchWord(registers[PC]);
            setRegister(PC, registers[PC] + 2);
            return word;
        }

        private void push(int value) {
            setRegister(SP, registers[SP] - 2);
            bus.write(registers[SP], value, bytes);
        }

        private int pop() {
            int word = bus.read(registers[SP], false);
            setRegister(SP, registers[SP] + 2);
            return word;
        }

        private void setRegister(int r, int value) {
            if (r == PC || r == SP) {
                registers[r] = value & EVEN;
            } else if (r == SR) {
                registers[r] = value & (C | Z | N | V);
            } else if (r != ZERO) {
                registers[r] = value & WORD;
            }
        }

        private boolean isSet(int flag) {
            return (registers[SR] & flag) != 0;
        }

        private int carry() {
            return registers[SR] & C;
        }

        private int mask() {
            return bytes ? 255 : WORD;
        }

        private int highest() {
            return bytes ? 128 : 32768;
        }

        private int signed(int value) {
            return (value & highest()) != 0 ? value - 2 * highest() : value;
        }
    }

    /** What a checkpoint keeps aside, from its FLIP to the next one. */
    private static final class Kept {
        final int[] registers = new int[REGISTERS];
        final int[] sram = new int[SRAM_WORDS];
        final Held held = new Held();
        int instructions;
        int recordsSent;
        boolean halted;
        boolean finished = true;
    }

    /** Makes checkpoints, finishes them, and goes back to the latest one. */
    private static final class Keeper {
        private static final int FIXED_WRITES = 36;

        final Kept kept = new Kept();
        int flipsDone;
        private final Power power;
        private final Lasting lasting;
        private final Section section;
        private final int[] registers;
        private final int[] sram;

        Keeper(Power power, Lasting lasting, Section section, int[] registers, int[] sram) {
            this.power = power;
            this.lasting = lasting;
            this.section = section;
            this.registers = registers;
            this.sram = sram;
        }

        void keepVolatile() {
            System.arraycopy(registers, 0, kept.registers, 0, REGISTERS);
            System.arraycopy(sram, 0, kept.sram, 0, SRAM_WORDS);
        }

        /** False when the power failed. */
        boolean checkpoint(boolean halting) {
            int asideWrites = FIXED_WRITES + 2 * section.held.wordCount + section.held.recordCount;
            // What is kept aside has no effect before the FLIP, so it is copied all at once there.
            for (int i = 0; i < asideWrites; i++) {
                if (!power.allows(Power.WRITE)) {
                    return false;
                }
            }
            if (!power.allows(Power.WRITE)) {
                return false;
            }
            flip(halting);
            if (!finish()) {
                return false;
            }
            section.begin();
            return true;
        }

        /** False when the power failed again. */
        boolean recover() {
            if (!kept.finished && !finish()) {
                return false;
            }
            System.arraycopy(kept.registers, 0, registers, 0, REGISTERS);
            System.arraycopy(kept.sram, 0, sram, 0, SRAM_WORDS);
            section.begin();
            return true;
        }

        private void flip(boolean halting) {
            keepVolatile();
            kept.held.copyFrom(section.held);
            kept.instructions += section.instructions;
            kept.recordsSent = 0;
            kept.halted = halting;
            kept.finished = false;
            flipsDone++;
        }

        private boolean finish() {
            return writeHeldWords() && sendHeldRecords() && close();
        }

        private boolean writeHeldWords() {
            for (int i = 0; i < kept.held.wordCount; i++) {
                if (!power.allows(Power.WRITE)) {
                    return false;
                }
                lasting.framWords[kept.held.words[i]] = kept.held.values[i];
            }
            return true;
        }

        private boolean sendHeldRecords() {
            for (int i = kept.recordsSent; i < kept.held.recordCount; i++) {
                if (!power.allows(Power.WRITE)) {
                    return false;
                }
                lasting.placeRecord(kept.held.records[i]);
                if (!power.allows(Power.WRITE)) {
                    return false;
                }
                lasting.countRecord();
                kept.recordsSent++;
            }
            return true;
        }

        private boolean close() {
            if (!power.allows(Power.WRITE)) {
                return false;
            }
            lasting.logLength = 0;
            if (!power.allows(Power.WRITE)) {
                return false;
            }
            kept.finished = true;
            return true;
        }
    }
}
