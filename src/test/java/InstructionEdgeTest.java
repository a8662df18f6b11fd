/**
 * The edges that the Terms name for numbers, registers, addresses and instructions, in the document's
 * order: each test quotes the sentence that it holds to. Whole ranges are gone through where they can be.
 */
public final class InstructionEdgeTest {
    private static final int ALL = 263;
    private static final int B = 64;
    private static final int[] CORNERS = {
        0, 1, 2, 126, 127, 128, 129, 254, 255, 256, 257, 0x5555, 0x7ffe, 0x7fff, 0x8000, 0x8001, 0x80ff, 0xff7f,
        0xfffe, 0xffff};

    public static void main(String[] args) {
        registersWrap();
        memoryWraps();
        theProgramCounterWraps();
        theStackPointerWraps();
        growingRegistersWrap();
        indexedAddressesWrap();
        spLosesItsLowestBit();
        pcLosesItsLowestBit();
        srKeepsFourBits();
        r3IsAlwaysZero();
        wordsAtOddAddresses();
        bytesOfTheFirstAndLastWords();
        everyAddressByWord();
        everyAddressByByte();
        fetchesEverywhereOutside();
        aWordBehindTheLastOfSram();
        aWordBehindTheLastOfFram();
        sumsThatFitAndDoNot();
        bitsAtTheEdges();
        everyDecimalDigit();
        shiftsAtTheEdges();
        everyByteExtended();
        everyOtherWordDoesNothing();
        everyWordWithoutAnOperand();
        everyJumpDistance();
        Due.end();
    }

    // ---- "All numbers in the machine have 16 bits (0 .. 65535) and wrap."

    private static void registersWrap() {
        Due.same("65535 + 1", withR6(65535, Asm.two(Asm.ADD, 3, 1, 6, 0)).register(6), 0);
        Due.same("65535 + 2", withR6(65535, Asm.two(Asm.ADD, 3, 2, 6, 0)).register(6), 1);
        Due.same("0 - 1", withR6(0, Asm.two(Asm.SUB, 3, 1, 6, 0)).register(6), 65535);
        Due.same("1 - 2", withR6(1, Asm.two(Asm.SUB, 3, 2, 6, 0)).register(6), 65535);
        Due.same("255 + 1 as bytes", withR6(255, Asm.bytes(Asm.two(Asm.ADD, 3, 1, 6, 0))).register(6), 0);
        Due.same("0 - 1 as bytes", withR6(0, Asm.bytes(Asm.two(Asm.SUB, 3, 1, 6, 0))).register(6), 255);
    }

    private static void memoryWraps() {
        BrownoutCore x = Asm.ran(3,
                Asm.two(Asm.MOV, 3, 3, 2, 1), 512,
                Asm.two(Asm.ADD, 3, 2, 2, 1), 512,
                Asm.two(Asm.SUB, 3, 1, 2, 1), 514);
        Due.same("65535 + 2 in SRAM", x.memory(512), 1);
        Due.same("0 - 1 in SRAM", x.memory(514), 65535);
        BrownoutCore fram = Asm.ran(1, Asm.two(Asm.SUB, 3, 1, 2, 1), 1200);
        Due.same("0 - 1 in FRAM", fram.memory(1200), 65535);
        BrownoutCore bytes = Asm.ran(2,
                Asm.bytes(Asm.two(Asm.SUB, 3, 1, 2, 1)), 512,
                Asm.bytes(Asm.two(Asm.ADD, 3, 2, 2, 1)), 512);
        Due.same("a byte wraps into no other byte", bytes.memory(512), 1);
    }

    private static void theProgramCounterWraps() {
        BrownoutCore x = new BrownoutCore();
        x.start(65534);
        Due.same("run", x.run(1), 1);
        Due.same("PC grown from 65534", x.register(0), 0);
        Due.same("run", x.run(1), 1);
        Due.same("PC grown from 0", x.register(0), 2);
        BrownoutCore added = Asm.ran(1, Asm.constantTo(Asm.ADD, 0), 65536 - 1028);
        Due.same("PC added to up to 65536", added.register(0), 0);
        BrownoutCore subtracted = Asm.ran(1, Asm.constantTo(Asm.SUB, 0), 1030);
        Due.same("PC below 0", subtracted.register(0), 65534);
    }

    private static void theStackPointerWraps() {
        Due.same("PUSH at 0", Asm.ran(1, Asm.one(Asm.PUSH, 3, 1)).register(1), 65534);
        BrownoutCore call = Asm.ran(1, Asm.one(Asm.CALL, 0, 3), 1100);
        Due.same("CALL at 0", call.register(1), 65534);
        Due.same("it is carried out", call.register(0), 1100);
        BrownoutCore pop = Asm.ran(2, Asm.constantTo(Asm.MOV, 1), 65534, Asm.two(Asm.MOV, 1, 3, 6, 0));
        Due.same("@SP+ at 65534", pop.register(1), 0);
        BrownoutCore reti = Asm.ran(2, Asm.constantTo(Asm.MOV, 1), 65534, Asm.one(Asm.RETI, 0, 0));
        Due.same("RETI at 65534", reti.register(1), 2);
        Due.same("nothing stands there", reti.register(0), 0);
        BrownoutCore last = Asm.ran(2, Asm.constantTo(Asm.MOV, 1), 65532, Asm.one(Asm.RETI, 0, 0));
        Due.same("RETI at 65532", last.register(1), 0);
    }

    private static void growingRegistersWrap() {
        int[][] beforeBytesAfter = {{65535, B, 0}, {65534, 0, 0}, {65535, 0, 1}, {65534, B, 65535}};
        for (int[] row : beforeBytesAfter) {
            BrownoutCore x = Asm.ran(2, Asm.constantTo(Asm.MOV, 7), row[0], Asm.two(Asm.MOV, 7, 3, 6, 0) | row[1]);
            Due.same("R7 grown from " + row[0], x.register(7), row[2]);
            Due.same("what was loaded there", x.register(6), 0);
        }
    }

    private static void indexedAddressesWrap() {
        int fromX = Asm.two(Asm.MOV, 0, 1, 6, 0);
        Due.same("x(PC) backwards", Asm.ran(1, fromX, 65534).register(6), fromX);
        int toX = Asm.two(Asm.MOV, 3, 1, 0, 1);
        Due.same("to x(PC) backwards", Asm.ran(1, toX, 65534).memory(1024), 1);
        int[][] registerAndX = {{65535, 1201}, {1, 1199}, {1200, 0}, {0, 1200}, {32768, 32768 + 1200}, {1201, 65535}};
        for (int[] row : registerAndX) {
            BrownoutCore x = Asm.loaded(
                    Asm.constantTo(Asm.MOV, 7), row[0],
                    Asm.two(Asm.MOV, 7, 1, 6, 0), row[1],
                    Asm.two(Asm.MOV, 3, 2, 7, 1), row[1] + 2 & 65535);
            x.load(88, 4321);
            x.start(1024);
            x.run(3);
            Due.same("loaded at " + row[1] + " and " + row[0], x.register(6), 4321);
            Due.same("stored at 2 more", x.fram(89), 2);
        }
        BrownoutCore end = Asm.ran(2, Asm.constantTo(Asm.MOV, 7), 65535, Asm.two(Asm.MOV, 7, 1, 6, 0), 65535);
        Due.same("65535 + 65535 is an address where nothing is", end.register(6), 0);
        BrownoutCore sensor = Asm.started(Asm.constantTo(Asm.MOV, 7), 65535, Asm.two(Asm.MOV, 7, 1, 6, 0), 17);
        sensor.sample(99);
        sensor.run(2);
        Due.same("65535 + 17 is SENSOR", sensor.register(6), 99);
    }

    // ---- "what is put into R0 or R1 loses its lowest bit"

    private static void spLosesItsLowestBit() {
        int[][] wordNextDue = {
            {Asm.constantTo(Asm.MOV, 1), 0x1235, 0x1234},
            {Asm.constantTo(Asm.MOV, 1), 1, 0},
            {Asm.constantTo(Asm.MOV, 1), 0xffff, 0xfffe},
            {Asm.constantTo(Asm.ADD, 1), 3, 0x0284},
            {Asm.constantTo(Asm.SUB, 1), 1, 0x0280},
            {Asm.constantTo(Asm.XOR, 1), 0xffff, 0xfd7c},
            {Asm.constantTo(Asm.BIS, 1), 5, 0x0286},
            {Asm.bytes(Asm.constantTo(Asm.MOV, 1)), 0x12ff, 0xfe},
            {Asm.bytes(Asm.constantTo(Asm.ADD, 1)), 1, 0x82},
            {Asm.one(Asm.RRA, 1, 0), 0, 0x0140},
            {Asm.one(Asm.RRC, 1, 0), 0, 0x0140},
            {Asm.one(Asm.SWPB, 1, 0), 0, 0x8202},
            {Asm.one(Asm.SXT, 1, 0), 0, 0xff82}};
        for (int[] row : wordNextDue) {
            BrownoutCore x = Asm.ran(2, Asm.constantTo(Asm.MOV, 1), 0x0283, row[0], row[1]);
            Due.same("SP after " + row[0] + ", " + row[1], x.register(1), row[2]);
        }
        BrownoutCore swapped = Asm.ran(2, Asm.constantTo(Asm.MOV, 1), 0x0302, Asm.one(Asm.SWPB, 1, 0));
        Due.same("SWPB of 0x0302 is 0x0203", swapped.register(1), 0x0202);
    }

    private static void pcLosesItsLowestBit() {
        int[][] wordNextDue = {
            {Asm.constantTo(Asm.MOV, 0), 2001, 2000},
            {Asm.constantTo(Asm.MOV, 0), 1, 0},
            {Asm.constantTo(Asm.MOV, 0), 65535, 65534},
            {Asm.constantTo(Asm.ADD, 0), 3, 1030},
            {Asm.constantTo(Asm.BIS, 0), 65535, 65534},
            {Asm.bytes(Asm.constantTo(Asm.MOV, 0)), 0x1237, 0x36},
            {Asm.one(Asm.RRA, 0, 0), 0, 512},
            {Asm.one(Asm.RRC, 0, 0), 0, 512},
            {Asm.one(Asm.SWPB, 0, 0), 0, 0x0204},
            {Asm.one(Asm.SXT, 0, 0), 0, 2},
            {Asm.one(Asm.CALL, 3, 3), 0, 65534},
            {Asm.one(Asm.CALL, 0, 3), 1031, 1030}};
        for (int[] row : wordNextDue) {
            BrownoutCore x = Asm.ran(1, row[0], row[1]);
            Due.same("PC after " + row[0] + ", " + row[1], x.register(0), row[2]);
        }
        BrownoutCore reti = Asm.ran(3, Asm.constantTo(Asm.MOV, 1), 542, Asm.two(Asm.MOV, 3, 3, 2, 1), 542,
                Asm.two(Asm.MOV, 1, 3, 0, 0));
        Due.same("PC from @SP+", reti.register(0), 65534);
    }

    // ---- "R2 keeps the bits C 1, Z 2, N 4, V 256 alone, R3 is always 0"

    private static void srKeepsFourBits() {
        for (int bit = 0; bit < 16; bit++) {
            int one = 1 << bit;
            BrownoutCore x = Asm.ran(1, Asm.constantTo(Asm.MOV, 2), one);
            Due.same("R2 from " + one, x.register(2), one & ALL);
            BrownoutCore without = Asm.ran(1, Asm.constantTo(Asm.MOV, 2), 65535 - one);
            Due.same("R2 from all but " + one, without.register(2), ALL & ~one);
            BrownoutCore reti = Asm.ran(3,
                    Asm.constantTo(Asm.MOV, 1), 512,
                    Asm.two(Asm.MOV, 0, 3, 2, 1), one, 512,
                    Asm.one(Asm.RETI, 0, 0));
            Due.same("R2 by RETI from " + one, reti.register(2), one & ALL);
        }
        BrownoutCore bytes = Asm.ran(2, Asm.constantTo(Asm.MOV, 2), 256, Asm.bytes(Asm.two(Asm.MOV, 3, 3, 2, 0)));
        Due.same("a byte put into R2 takes V away", bytes.register(2), 7);
        BrownoutCore swapped = Asm.ran(2, Asm.constantTo(Asm.MOV, 2), 5, Asm.one(Asm.SWPB, 2, 0));
        Due.same("SWPB of C and N", swapped.register(2), 256);
        BrownoutCore added = Asm.ran(2, Asm.constantTo(Asm.MOV, 2), ALL, Asm.two(Asm.ADD, 3, 1, 2, 0));
        Due.same("263 + 1", added.register(2), 256);
    }

    private static void r3IsAlwaysZero() {
        for (int op = Asm.MOV; op <= Asm.AND; op++) {
            for (int bytes = 0; bytes <= B; bytes += B) {
                BrownoutCore x = Asm.ran(3,
                        Asm.constantTo(Asm.MOV, 6), 0xffff,
                        Asm.two(op, 6, 0, 3, 0) | bytes,
                        Asm.two(Asm.MOV, 3, 0, 6, 0));
                Due.same("R3 after op " + op, x.register(3), 0);
                Due.same("R3 as a source after op " + op, x.register(6), 0);
            }
        }
        for (int op = Asm.RRC; op <= Asm.SXT; op++) {
            for (int m = 0; m < 4; m++) {
                BrownoutCore x = Asm.ran(2, Asm.constantTo(Asm.MOV, 2), 1, Asm.one(op, 3, m));
                Due.same("R3 after " + op + " in mode " + m, x.register(3), 0);
            }
        }
    }

    // ---- "the word at an address is that of the address without its lowest bit; the byte at an even
    // address is the low one of the word."

    private static void wordsAtOddAddresses() {
        for (int address : new int[] {512, 542, 1024, 1278}) {
            BrownoutCore x = behind(
                    Asm.constantTo(Asm.MOV, 5), 0x1234,
                    Asm.toAbsolute(Asm.MOV, 5), address + 1,
                    Asm.fromAbsolute(Asm.MOV, 6), address,
                    Asm.fromAbsolute(Asm.MOV, 7), address + 1);
            Due.same("run", x.run(4), 4);
            Due.same("loaded at " + address, x.register(6), 0x1234);
            Due.same("loaded at the odd address behind", x.register(7), 0x1234);
            Due.same("memory of the odd address", x.memory(address + 1), 0x1234);
            Due.same("the word behind", x.memory(address + 2), 0);
        }
    }

    private static void bytesOfTheFirstAndLastWords() {
        for (int address : new int[] {512, 542, 1024, 1278}) {
            BrownoutCore x = behind(
                    Asm.two(Asm.MOV, 0, 3, 2, 1), 0x1234, address,
                    Asm.bytes(Asm.fromAbsolute(Asm.MOV, 6)), address,
                    Asm.bytes(Asm.fromAbsolute(Asm.MOV, 7)), address + 1,
                    Asm.bytes(Asm.two(Asm.MOV, 0, 3, 2, 1)), 0xff56, address);
            Due.same("run", x.run(3), 3);
            Due.same("the byte at " + address, x.register(6), 0x34);
            Due.same("the byte at the odd address behind", x.register(7), 0x12);
            Due.same("run", x.run(1), 1);
            Due.same("the low byte stored", x.memory(address), 0x1256);
            BrownoutCore high = behind(
                    Asm.two(Asm.MOV, 0, 3, 2, 1), 0x1234, address,
                    Asm.bytes(Asm.two(Asm.MOV, 0, 3, 2, 1)), 0xff78, address + 1);
            Due.same("run", high.run(2), 2);
            Due.same("the high byte stored", high.memory(address), 0x7834);
            Due.same("the word behind", high.memory(address + 2), 0);
        }
    }

    // ---- "SRAM has the addresses 512 .. 543 (16 words), FRAM 1024 .. 1279 (128 words); SENSOR is 16, 17,
    // RADIO 18, 19, HALT 20, 21. A LOAD elsewhere and from RADIO and HALT gives 0, a STORE elsewhere and to
    // SENSOR does nothing."

    private static void everyAddressByWord() {
        for (int address = 0; address < 65536; address++) {
            int loaded = isMemory(address) ? 0xa55a : address / 2 == 8 ? 65535 : 0;
            storeAndLoad(address, 0, loaded, isMemory(address) ? 0xa55a : 0);
        }
    }

    private static void everyAddressByByte() {
        for (int address = 0; address < 65536; address++) {
            int loaded = isMemory(address) ? 0x5a : address / 2 == 8 ? 255 : 0;
            storeAndLoad(address, B, loaded, !isMemory(address) ? 0 : address % 2 == 0 ? 0x5a : 0x5a00);
        }
    }

    /** The code is laid where the address is not. */
    private static void storeAndLoad(int address, int bytes, int loaded, int word) {
        int[] code = {
            Asm.constantTo(Asm.MOV, 7), address,
            Asm.constantTo(Asm.MOV, 5), 0xa55a,
            Asm.two(Asm.MOV, 5, 0, 7, 1) | bytes, 0,
            Asm.two(Asm.MOV, 7, 2, 6, 0) | bytes};
        BrownoutCore x = address < 1152 ? behind(code) : Asm.started(code);
        boolean halts = address / 2 == 10;
        String at = (bytes == 0 ? "word at " : "byte at ") + address + ": ";
        Due.same(at + "run", x.run(4), halts ? 3 : 4);
        Due.same(at + "state", x.state(), halts ? 3 : 1);
        Due.same(at + "loaded", x.register(6), loaded);
        Due.same(at + "memory", x.memory(address), word);
        Due.same(at + "section", x.section(), halts ? 0 : 7 + sectionOf(address, bytes));
        Due.same(at + "writes", x.writes(), halts ? 39 : writesOf(address, bytes));
    }

    private static int sectionOf(int address, int bytes) {
        if (isFram(address)) {
            return bytes == 0 ? 1 : 1 + 32;
        }
        return address / 2 == 9 ? 256 : address / 2 == 8 ? 2048 : 0;
    }

    private static int writesOf(int address, int bytes) {
        return address / 2 == 8 ? 2 : isFram(address) && bytes == 0 ? 1 : 0;
    }

    private static boolean isMemory(int address) {
        return isFram(address) || address >= 512 && address <= 543;
    }

    private static boolean isFram(int address) {
        return address >= 1024 && address <= 1279;
    }

    // ---- "Instruction words and the words after them are FETCHED: as loads, but 0 outside SRAM and FRAM."

    private static void fetchesEverywhereOutside() {
        for (int pc = 0; pc < 65536; pc += 2) {
            if (!isMemory(pc)) {
                BrownoutCore x = new BrownoutCore();
                x.load(0, Asm.two(Asm.MOV, 3, 3, 6, 0));
                x.load(127, Asm.two(Asm.MOV, 3, 3, 6, 0));
                x.sample(Asm.two(Asm.MOV, 3, 3, 6, 0));
                x.start(pc);
                Due.same("run at " + pc, x.run(1), 1);
                Due.same("PC after " + pc, x.register(0), pc + 2 & 65535);
                Due.same("R6 after " + pc, x.register(6), 0);
                Due.same("section after " + pc, x.section(), 0);
                Due.same("waiting after " + pc, x.waiting(), 1);
            }
        }
        BrownoutCore into = new BrownoutCore();
        into.load(0, Asm.two(Asm.MOV, 3, 3, 6, 0));
        into.start(1022);
        Due.same("run into FRAM", into.run(2), 2);
        Due.same("its first word was carried out", into.register(6), 65535);
    }

    private static void aWordBehindTheLastOfSram() {
        int[][] wordAndDue = {
            {Asm.constantTo(Asm.MOV, 6), 0},
            {Asm.two(Asm.MOV, 7, 1, 6, 0), 4321},
            {Asm.two(Asm.MOV, 2, 1, 6, 0), 0},
            {Asm.two(Asm.MOV, 0, 1, 6, 0), 0}};
        for (int[] row : wordAndDue) {
            BrownoutCore x = Asm.loaded(
                    Asm.two(Asm.MOV, 0, 3, 2, 1), row[0], 542,
                    Asm.constantTo(Asm.MOV, 6), 9,
                    Asm.constantTo(Asm.MOV, 7), 1200,
                    Asm.constantTo(Asm.MOV, 0), 542);
            x.load(88, 4321);
            x.start(1024);
            Due.same("run", x.run(5), 5);
            Due.same("R6 after " + row[0] + " at 542", x.register(6), row[1]);
            Due.same("PC", x.register(0), 546);
        }
    }

    private static void aWordBehindTheLastOfFram() {
        BrownoutCore source = new BrownoutCore();
        source.load(127, Asm.constantTo(Asm.BIS, 6));
        source.start(1278);
        Due.same("run", source.run(1), 1);
        Due.same("the constant at 1280", source.register(6), 0);
        Due.same("PC", source.register(0), 1282);
        Due.same("only the last word is tracked", source.section(), 1);
        BrownoutCore stores = new BrownoutCore();
        stores.load(127, Asm.two(Asm.MOV, 3, 3, 6, 1));
        stores.start(1278);
        Due.same("run", stores.run(1), 1);
        Due.same("x is 0, and nothing is stored at 0", stores.section(), 1);
        Due.same("writes", stores.writes(), 0);
        BrownoutCore both = new BrownoutCore();
        both.load(126, Asm.two(Asm.MOV, 0, 3, 6, 1));
        both.load(127, 1234);
        both.start(1276);
        Due.same("run", both.run(1), 1);
        Due.same("PC behind both words", both.register(0), 1282);
        Due.same("both words of FRAM are tracked", both.section(), 2);
    }

    // ---- "these set C when the sum does not fit, V when the sum of the two as signed numbers (and what is
    // added) does not fit."

    private static void sumsThatFitAndDoNot() {
        for (int op = Asm.ADD; op <= Asm.CMP; op++) {
            for (int bytes = 0; bytes <= B; bytes += B) {
                for (int carry = 0; carry <= 1; carry++) {
                    for (int a : CORNERS) {
                        for (int b : CORNERS) {
                            aSum(op, bytes, carry, a, b);
                        }
                    }
                }
            }
        }
    }

    private static void aSum(int op, int bytes, int carry, int destination, int source) {
        int size = bytes == 0 ? 65536 : 256;
        int a = destination % size;
        int b = op >= Asm.SUBC ? size - 1 - source % size : source % size;
        int added = op == Asm.ADD ? 0 : op == Asm.SUB || op == Asm.CMP ? 1 : carry;
        int result = (a + b + added) % size;
        int asSigned = asSigned(a, size) + asSigned(b, size) + added;
        boolean fits = asSigned >= -size / 2 && asSigned < size / 2;
        int flags = (a + b + added >= size ? 1 : 0) + zeroAndSign(result, size) + (fits ? 0 : 256);
        afterTwo(op | bytes, destination, source, carry, op == Asm.CMP ? destination : result, flags);
    }

    // ---- "BIT and AND destination & source, C when it is not 0, V 0. XOR, C when it is not 0, V when both
    // have their highest bit."

    private static void bitsAtTheEdges() {
        for (int bytes = 0; bytes <= B; bytes += B) {
            int size = bytes == 0 ? 65536 : 256;
            for (int a : CORNERS) {
                for (int b : CORNERS) {
                    int both = (a & b) % size;
                    int one = (a ^ b) % size;
                    int flagsOfBoth = (both == 0 ? 0 : 1) + zeroAndSign(both, size);
                    int flagsOfOne = (one == 0 ? 0 : 1) + zeroAndSign(one, size) + (both >= size / 2 ? 256 : 0);
                    afterTwo(Asm.AND | bytes, a, b, ALL, both, flagsOfBoth);
                    afterTwo(Asm.BIT | bytes, a, b, ALL, a, flagsOfBoth);
                    afterTwo(Asm.XOR | bytes, a, b, ALL, one, flagsOfOne);
                    afterTwo(Asm.BIC | bytes, a, b, ALL, a % size - both, ALL);
                    afterTwo(Asm.BIS | bytes, a, b, 0, one + both, 0);
                }
            }
        }
    }

    // ---- "when t is 10 or more the digit is t + 6 (4 bits) and the carry 1, otherwise t and 0; C is the
    // last carry, V is 0."

    private static void everyDecimalDigit() {
        for (int carry = 0; carry <= 1; carry++) {
            for (int a = 0; a < 16; a++) {
                for (int b = 0; b < 16; b++) {
                    int t = a + b + carry;
                    int lowest = t >= 10 ? 16 + (t + 6) % 16 : t;
                    afterTwo(Asm.DADD, a, b, carry, lowest, lowest == 0 ? 2 : 0);
                    afterTwo(Asm.DADD | B, a, b, carry, lowest, lowest == 0 ? 2 : 0);
                    int top = a + b >= 10 ? (a + b + 6) % 16 : a + b;
                    int last = a + b >= 10 ? 1 : 0;
                    afterTwo(Asm.DADD, a << 12, b << 12, 256, top << 12, last + zeroAndSign(top, 16));
                    afterTwo(Asm.DADD | B, a << 4, b << 4, 256, top << 4, last + zeroAndSign(top, 16));
                }
            }
        }
        afterTwo(Asm.DADD, 0x9999, 0, 1, 0, 3);
        afterTwo(Asm.DADD | B, 0x1299, 0, 1, 0, 3);
        afterTwo(Asm.DADD, 0x0999, 1, 0, 0x1000, 0);
    }

    // ---- "C is the bit that fell out, V 0." "All that set C and V set Z when the result is 0, N to its
    // highest bit."

    private static void shiftsAtTheEdges() {
        for (int bytes = 0; bytes <= B; bytes += B) {
            int size = bytes == 0 ? 65536 : 256;
            for (int value : CORNERS) {
                int half = value % size / 2;
                int out = value % 2;
                int top = value % size >= size / 2 ? size / 2 : 0;
                afterOne(Asm.RRC | bytes, value, ALL - 1, half, out + zeroAndSign(half, size));
                afterOne(Asm.RRC | bytes, value, ALL, half + size / 2, out + 4);
                afterOne(Asm.RRA | bytes, value, ALL, half + top, out + zeroAndSign(half + top, size));
                afterOne(Asm.SWPB | bytes, value, ALL, value % 256 * 256 + value / 256, ALL);
            }
        }
    }

    // ---- "SXT the low byte as a signed number; C when the result is not 0, V 0."

    private static void everyByteExtended() {
        for (int value = 0; value < 256; value++) {
            int result = value < 128 ? value : value + 0xff00;
            int flags = (value == 0 ? 0 : 1) + zeroAndSign(result, 65536);
            afterOne(Asm.SXT, 0x5500 + value, ALL, result, flags);
            afterOne(Asm.SXT | B, 0xaa00 + value, 0, result, flags);
        }
    }

    // ---- "Other words: nothing."

    private static void everyOtherWordDoesNothing() {
        for (int word = 0; word < 0x2000; word++) {
            if (word >> 10 != 4) {
                doesNothing(word);
            }
        }
    }

    // ---- "6 RETI and 7 nothing (both without an operand)"

    private static void everyWordWithoutAnOperand() {
        for (int low = 0; low < 128; low++) {
            doesNothing(Asm.one(7, 0, 0) | low);
            BrownoutCore x = Asm.loaded(Asm.constantTo(Asm.MOV, 1), 1200, Asm.one(Asm.RETI, 0, 0) | low);
            x.load(88, 0x0f05);
            x.load(89, 1101);
            x.start(1024);
            Due.same("run", x.run(2), 2);
            Due.same("SR of RETI " + low, x.register(2), 0x0105);
            Due.same("PC of RETI " + low, x.register(0), 1100);
            Due.same("SP of RETI " + low, x.register(1), 1204);
            Due.same("no word behind RETI " + low + " is fetched", x.section(), 5);
        }
    }

    private static void doesNothing(int word) {
        BrownoutCore x = Asm.ran(3,
                Asm.constantTo(Asm.MOV, 2), ALL,
                Asm.constantTo(Asm.MOV, 1), 540,
                word, 1200);
        Due.same("PC after " + word, x.register(0), 1034);
        Due.same("SP after " + word, x.register(1), 540);
        Due.same("SR after " + word, x.register(2), ALL);
        Due.same("section after " + word, x.section(), 5);
        Due.same("it was an instruction", x.retired(), 3);
        for (int k = 3; k < 16; k++) {
            Due.same("register " + k + " after " + word, x.register(k), 0);
        }
    }

    // ---- "PC grows by twice the lowest ten bits of w as a signed number."

    private static void everyJumpDistance() {
        for (int words = -512; words <= 511; words++) {
            Due.same("jump by " + words, Asm.ran(1, Asm.jump(7, words)).register(0), 1026 + 2 * words);
            Due.same("no jump by " + words, Asm.ran(1, Asm.jump(1, words)).register(0), 1026);
        }
    }

    // ---- helpers

    /** The machine starts at word 100 of FRAM, where the code lies. */
    private static BrownoutCore behind(int... code) {
        BrownoutCore x = new BrownoutCore();
        for (int i = 0; i < code.length; i++) {
            x.load(100 + i, code[i]);
        }
        x.start(Asm.addressOf(100));
        return x;
    }

    private static BrownoutCore withR6(int value, int word) {
        return Asm.ran(2, Asm.constantTo(Asm.MOV, 6), value, word);
    }

    private static void afterTwo(int op, int destination, int source, int sr, int result, int flags) {
        BrownoutCore x = Asm.ran(4,
                Asm.constantTo(Asm.MOV, 5), source,
                Asm.constantTo(Asm.MOV, 6), destination,
                Asm.constantTo(Asm.MOV, 2), sr,
                Asm.two(op & 15, 5, 0, 6, 0) | op & B);
        String what = "op " + op + " of " + destination + ", " + source + " with SR " + sr;
        Due.same(what, x.register(6), result);
        Due.same(what + ": flags", x.register(2), flags);
    }

    private static void afterOne(int op, int value, int sr, int result, int flags) {
        BrownoutCore x = withR6AndSr(value, sr, Asm.one(op & 7, 6, 0) | op & B);
        String what = "one operand " + op + " of " + value + " with SR " + sr;
        Due.same(what, x.register(6), result);
        Due.same(what + ": flags", x.register(2), flags);
    }

    private static BrownoutCore withR6AndSr(int value, int sr, int word) {
        return Asm.ran(3, Asm.constantTo(Asm.MOV, 6), value, Asm.constantTo(Asm.MOV, 2), sr, word);
    }

    private static int zeroAndSign(int result, int size) {
        return (result == 0 ? 2 : 0) + (result >= size / 2 ? 4 : 0);
    }

    private static int asSigned(int value, int size) {
        return value >= size / 2 ? value - size : value;
    }
}
