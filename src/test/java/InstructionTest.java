/** What each instruction does to registers and memory (the Terms on instructions, promises 7, 10, 11). */
public final class InstructionTest {
    private static final int ALL = 263;
    private static final int B = 64;

    // op (with 64 for bytes), source, destination, SR before, destination after, SR after
    private static final int[][] TWO = {
        {Asm.MOV, 0x1234, 0x5678, ALL, 0x1234, ALL},
        {Asm.MOV, 0x0000, 0x5678, 0, 0x0000, 0},
        {Asm.MOV | B, 0x1234, 0x5678, ALL, 0x0034, ALL},
        {Asm.ADD, 6, 5, ALL, 11, 0},
        {Asm.ADD, 1, 0x7fff, 0, 0x8000, 260},
        {Asm.ADD, 1, 0xffff, 0, 0, 3},
        {Asm.ADD, 0x8000, 0x8000, 0, 0, 259},
        {Asm.ADD, 0xffff, 0xffff, 0, 0xfffe, 5},
        {Asm.ADD, 0x8000, 0x7fff, 1, 0xffff, 4},
        {Asm.ADD, 0xffff, 0x8000, 0, 0x7fff, 257},
        {Asm.ADD | B, 0x3401, 0x12ff, 0, 0, 3},
        {Asm.ADD | B, 0x0001, 0x127f, 0, 0x80, 260},
        {Asm.ADD | B, 0xff80, 0xff80, 0, 0, 259},
        {Asm.ADD | B, 0x0f10, 0x0f20, ALL, 0x30, 0},
        {Asm.ADDC, 1, 1, 0, 2, 0},
        {Asm.ADDC, 1, 1, 1, 3, 0},
        {Asm.ADDC, 0, 0x7fff, 1, 0x8000, 260},
        {Asm.ADDC, 0x8000, 0x7fff, 1, 0, 3},
        {Asm.ADDC, 0xffff, 0xffff, 1, 0xffff, 5},
        {Asm.ADDC, 0x8000, 0xffff, 1, 0x8000, 5},
        {Asm.ADDC | B, 0x00ff, 0x12ff, 1, 0xff, 5},
        {Asm.ADDC | B, 0x0000, 0x00ff, 1, 0, 3},
        {Asm.SUB, 3, 5, ALL, 2, 1},
        {Asm.SUB, 5, 3, ALL, 0xfffe, 4},
        {Asm.SUB, 5, 5, 0, 0, 3},
        {Asm.SUB, 0, 0, 0, 0, 3},
        {Asm.SUB, 1, 0x8000, 0, 0x7fff, 257},
        {Asm.SUB, 0xffff, 0x7fff, 0, 0x8000, 260},
        {Asm.SUB, 0x8000, 0, 0, 0x8000, 260},
        {Asm.SUB, 0x8000, 0x8000, 0, 0, 3},
        {Asm.SUB | B, 0x1201, 0x3480, 0, 0x7f, 257},
        {Asm.SUB | B, 0x0005, 0x3403, 1, 0xfe, 4},
        {Asm.SUB | B, 0x1203, 0x3403, 0, 0, 3},
        {Asm.SUBC, 3, 5, 0, 1, 1},
        {Asm.SUBC, 3, 5, 1, 2, 1},
        {Asm.SUBC, 0, 0, 0, 0xffff, 4},
        {Asm.SUBC, 0, 0, 1, 0, 3},
        {Asm.SUBC, 0, 0x8000, 0, 0x7fff, 257},
        {Asm.SUBC, 0xffff, 0x7fff, 0, 0x7fff, 0},
        {Asm.SUBC | B, 0x0000, 0x1280, 0, 0x7f, 257},
        {Asm.CMP, 3, 5, ALL, 5, 1},
        {Asm.CMP, 5, 3, 0, 3, 4},
        {Asm.CMP, 5, 5, 0, 5, 3},
        {Asm.CMP, 1, 0x8000, 0, 0x8000, 257},
        {Asm.CMP | B, 0x1205, 0x3405, 0, 0x3405, 3},
        {Asm.DADD, 0x5678, 0x1234, 0, 0x6912, 0},
        {Asm.DADD, 0x5678, 0x1234, ALL, 0x6913, 0},
        {Asm.DADD, 0x0001, 0x9999, 0, 0, 3},
        {Asm.DADD, 0x9999, 0x9999, 1, 0x9999, 5},
        {Asm.DADD, 0x1000, 0x7000, 256, 0x8000, 4},
        {Asm.DADD, 0x000f, 0x000f, 0, 0x0014, 0},
        {Asm.DADD, 0x000f, 0x000f, 1, 0x0015, 0},
        {Asm.DADD, 0x000a, 0x0000, 0, 0x0010, 0},
        {Asm.DADD, 0x0000, 0x0009, 1, 0x0010, 0},
        {Asm.DADD, 0xf000, 0xf000, 0, 0x4000, 1},
        {Asm.DADD | B, 0x1201, 0x3499, 0, 0, 3},
        {Asm.DADD | B, 0x0045, 0x1245, 1, 0x91, 4},
        {Asm.BIT, 0x0f0f, 0xf0f0, ALL, 0xf0f0, 2},
        {Asm.BIT, 0x8000, 0x8001, ALL, 0x8001, 5},
        {Asm.BIT, 0x0003, 0x8001, 0, 0x8001, 1},
        {Asm.BIT | B, 0x1200, 0x12ff, 0, 0x12ff, 2},
        {Asm.BIT | B, 0x0080, 0x12ff, 0, 0x12ff, 5},
        {Asm.AND, 0x0f0f, 0xf0f0, ALL, 0, 2},
        {Asm.AND, 0xff00, 0x8181, ALL, 0x8100, 5},
        {Asm.AND, 0x0ff0, 0x8181, 0, 0x0180, 1},
        {Asm.AND | B, 0xffff, 0x8181, 0, 0x81, 5},
        {Asm.XOR, 0x8000, 0x8000, 0, 0, 258},
        {Asm.XOR, 0x8000, 0x8001, 0, 1, 257},
        {Asm.XOR, 0x0f0f, 0x00ff, ALL, 0x0ff0, 1},
        {Asm.XOR, 0x0001, 0x8000, ALL, 0x8001, 5},
        {Asm.XOR | B, 0x8080, 0x0081, 0, 1, 257},
        {Asm.XOR | B, 0x8001, 0x8081, 0, 0x80, 5},
        {Asm.BIC, 0x0f0f, 0xffff, ALL, 0xf0f0, ALL},
        {Asm.BIC, 0xffff, 0xffff, 0, 0, 0},
        {Asm.BIC | B, 0x000f, 0x12ff, 0, 0xf0, 0},
        {Asm.BIS, 0x0f00, 0x00f0, ALL, 0x0ff0, ALL},
        {Asm.BIS, 0, 0, 0, 0, 0},
        {Asm.BIS | B, 0x0f80, 0x1201, 0, 0x81, 0},
    };

    // op (with 64 for bytes), operand, SR before, operand after, SR after
    private static final int[][] ONE = {
        {Asm.RRC, 0x0003, 0, 0x0001, 1},
        {Asm.RRC, 0x0002, ALL, 0x8001, 4},
        {Asm.RRC, 0x0001, 262, 0, 3},
        {Asm.RRC, 0x0000, ALL, 0x8000, 4},
        {Asm.RRC, 0xffff, 0, 0x7fff, 1},
        {Asm.RRC | B, 0x1201, 1, 0x80, 5},
        {Asm.RRC | B, 0xff02, 0, 0x01, 0},
        {Asm.RRA, 0x8001, ALL, 0xc000, 5},
        {Asm.RRA, 0x0001, 1, 0, 3},
        {Asm.RRA, 0x4002, 1, 0x2001, 0},
        {Asm.RRA | B, 0x1281, 0, 0xc0, 5},
        {Asm.RRA | B, 0x8142, ALL, 0x21, 0},
        {Asm.SWPB, 0x1234, ALL, 0x3412, ALL},
        {Asm.SWPB, 0xfe01, 0, 0x01fe, 0},
        {Asm.SWPB, 0x0000, 0, 0, 0},
        {Asm.SWPB | B, 0x1234, 0, 0x3412, 0},
        {Asm.SXT, 0x1280, ALL, 0xff80, 5},
        {Asm.SXT, 0x127f, ALL, 0x007f, 1},
        {Asm.SXT, 0x1200, ALL, 0, 2},
        {Asm.SXT | B, 0x12ff, 0, 0xffff, 5},
    };

    public static void main(String[] args) {
        twoOperandResults();
        twoOperandResultsInMemory();
        oneOperandResults();
        oneOperandResultsInMemory();
        jumpsByFlags();
        jumpDistances();
        wordsThatDoNothing();
        constantsOfR3AndR2();
        constantsAsBytes();
        constantsOfOneOperand();
        sourceModes();
        sourceAtPc();
        growingRegisters();
        destinationModes();
        destinationAfterSource();
        bytesInMemory();
        specialRegisters();
        resultsToR2();
        flagsThatStay();
        pushAndCall();
        pushOfSp();
        pushOfAByte();
        callWithB();
        returnFromInterrupt();
        oneOperandThatGrows();
        addressesWrap();
        codeInSram();
        fetchesOutside();
        devicesGiveZero();
        Due.end();
    }

    private static void twoOperandResults() {
        for (int[] row : TWO) {
            int word = Asm.two(row[0] & 15, 5, 0, 6, 0) | row[0] & B;
            BrownoutCore x = Asm.ran(4,
                    Asm.constantTo(Asm.MOV, 5), row[1],
                    Asm.constantTo(Asm.MOV, 6), row[2],
                    Asm.constantTo(Asm.MOV, 2), row[3],
                    word);
            String what = name(row);
            Due.same(what + " result", x.register(6), row[4]);
            Due.same(what + " flags", x.register(2), row[5]);
            Due.same(what + " source", x.register(5), row[1]);
            Due.same(what + " PC", x.register(0), 1024 + 14);
            Due.same(what + " retired", x.retired(), 4);
        }
    }

    /** In memory a byte leaves the other byte of its word as it was. */
    private static void twoOperandResultsInMemory() {
        for (int[] row : TWO) {
            int word = Asm.two(row[0] & 15, 5, 0, 2, 1) | row[0] & B;
            BrownoutCore x = Asm.ran(5,
                    Asm.constantTo(Asm.MOV, 5), row[1],
                    Asm.constantTo(Asm.MOV, 6), row[2],
                    Asm.toAbsolute(Asm.MOV, 6), 520,
                    Asm.constantTo(Asm.MOV, 2), row[3],
                    word, 520);
            int due = (row[0] & B) == 0 ? row[4] : row[2] & 0xff00 | row[4] & 0xff;
            Due.same(name(row) + " in memory", x.memory(520), due);
            Due.same(name(row) + " flags", x.register(2), row[5]);
        }
    }

    private static void oneOperandResults() {
        for (int[] row : ONE) {
            int word = Asm.one(row[0] & 7, 6, 0) | row[0] & B;
            BrownoutCore x = Asm.ran(3,
                    Asm.constantTo(Asm.MOV, 6), row[1],
                    Asm.constantTo(Asm.MOV, 2), row[2],
                    word);
            Due.same("one " + name(row), x.register(6), row[3]);
            Due.same("one " + name(row) + " flags", x.register(2), row[4]);
        }
    }

    private static void oneOperandResultsInMemory() {
        for (int[] row : ONE) {
            boolean bytes = (row[0] & B) != 0 && (row[0] & 7) != Asm.SWPB && (row[0] & 7) != Asm.SXT;
            int word = Asm.one(row[0] & 7, 7, 2) | row[0] & B;
            BrownoutCore x = Asm.ran(5,
                    Asm.constantTo(Asm.MOV, 6), row[1],
                    Asm.toAbsolute(Asm.MOV, 6), 522,
                    Asm.constantTo(Asm.MOV, 7), 522,
                    Asm.constantTo(Asm.MOV, 2), row[2],
                    word);
            int due = bytes ? row[1] & 0xff00 | row[3] : row[3];
            Due.same("one in memory " + name(row), x.memory(522), due);
            Due.same("one in memory " + name(row) + " flags", x.register(2), row[4]);
        }
    }

    private static void jumpsByFlags() {
        for (int bits = 0; bits < 16; bits++) {
            boolean c = (bits & 1) != 0;
            boolean z = (bits & 2) != 0;
            boolean n = (bits & 4) != 0;
            boolean v = (bits & 8) != 0;
            int sr = bits & 7 | (v ? 256 : 0);
            boolean[] taken = {!z, z, !c, c, n, n == v, n != v, true};
            for (int condition = 0; condition < 8; condition++) {
                BrownoutCore x = Asm.ran(2, Asm.constantTo(Asm.MOV, 2), sr, Asm.jump(condition, 3));
                Due.same("jump " + condition + " with SR " + sr, x.register(0), taken[condition] ? 1036 : 1030);
                Due.same("a jump leaves SR", x.register(2), sr);
            }
        }
    }

    private static void jumpDistances() {
        int[][] wordsAndPc = {{0, 1026}, {1, 1028}, {511, 1026 + 1022}, {-1, 1024}, {-512, 2}};
        for (int[] row : wordsAndPc) {
            Due.same("jump by " + row[0], Asm.ran(1, Asm.jump(7, row[0])).register(0), row[1]);
        }
        BrownoutCore low = Asm.ran(2, Asm.constantTo(Asm.MOV, 0), 512);
        Due.same("SRAM holds 0, which does nothing", low.register(0), 514);
        BrownoutCore wraps = Asm.ran(3, Asm.jump(7, -512), 0);
        Due.same("PC goes on through words that are 0", wraps.register(0), 6);
        BrownoutCore under = Asm.ran(4,
                Asm.constantTo(Asm.MOV, 4), Asm.jump(7, -512),
                Asm.toAbsolute(Asm.MOV, 4), 512,
                Asm.constantTo(Asm.MOV, 0), 512);
        Due.same("PC wraps below 0", under.register(0), 514 - 1024 + 65536);
    }

    private static void wordsThatDoNothing() {
        int[] words = {0, 1, 0x0fff, 0x1400, 0x17ff, 0x1800, 0x1fff, Asm.one(7, 6, 0), Asm.one(7, 6, 1), Asm.one(7, 0, 3)};
        for (int word : words) {
            BrownoutCore x = Asm.ran(3,
                    Asm.constantTo(Asm.MOV, 6), 0x1234,
                    Asm.constantTo(Asm.MOV, 2), ALL,
                    word, 7);
            Due.same("PC after " + word, x.register(0), 1034);
            Due.same("R6 after " + word, x.register(6), 0x1234);
            Due.same("SR after " + word, x.register(2), ALL);
            Due.same("SP after " + word, x.register(1), 0);
            Due.same("tracked after " + word, x.section(), 5);
            Due.same("retired after " + word, x.retired(), 3);
        }
    }

    private static void constantsOfR3AndR2() {
        int[] ofR3 = {0, 1, 2, 65535};
        for (int m = 0; m < 4; m++) {
            BrownoutCore x = Asm.ran(2, Asm.two(Asm.MOV, 3, 3, 6, 0), Asm.two(Asm.MOV, 3, m, 6, 0), 77);
            Due.same("R3 in mode " + m, x.register(6), ofR3[m]);
            Due.same("PC", x.register(0), 1028);
        }
        Due.same("R2 in mode 2", Asm.ran(1, Asm.two(Asm.MOV, 2, 2, 6, 0)).register(6), 4);
        Due.same("R2 in mode 3", Asm.ran(1, Asm.two(Asm.MOV, 2, 3, 6, 0)).register(6), 8);
        BrownoutCore sr = Asm.ran(2, Asm.constantTo(Asm.MOV, 2), 261, Asm.two(Asm.MOV, 2, 0, 6, 0));
        Due.same("R2 in mode 0", sr.register(6), 261);
        Due.same("R2 isn't made to grow", Asm.ran(1, Asm.two(Asm.MOV, 2, 3, 6, 0)).register(2), 0);
    }

    private static void constantsAsBytes() {
        BrownoutCore all = Asm.ran(1, Asm.bytes(Asm.two(Asm.MOV, 3, 3, 6, 0)));
        Due.same("65535 as a byte", all.register(6), 255);
        BrownoutCore fetched = Asm.ran(1, Asm.bytes(Asm.constantTo(Asm.MOV, 6)), 0x1234, 0);
        Due.same("the low byte of a fetched constant", fetched.register(6), 0x34);
        Due.same("PC grows by 2 for it", fetched.register(0), 1028);
    }

    /** The result of a constant goes nowhere, but its flags are set. */
    private static void constantsOfOneOperand() {
        BrownoutCore one = Asm.ran(1, Asm.one(Asm.RRA, 3, 1), 0);
        Due.same("RRA of 1: flags", one.register(2), 3);
        Due.same("R3", one.register(3), 0);
        BrownoutCore four = Asm.ran(2, Asm.constantTo(Asm.MOV, 2), ALL, Asm.one(Asm.RRA, 2, 2));
        Due.same("RRA of 4: flags", four.register(2), 0);
        BrownoutCore eight = Asm.ran(2, Asm.constantTo(Asm.MOV, 2), 1, Asm.one(Asm.RRC, 2, 3));
        Due.same("RRC of 8: flags", eight.register(2), 4);
        BrownoutCore fetched = Asm.ran(1, Asm.one(Asm.SWPB, 0, 3), 0x1234);
        Due.same("SWPB of a fetched constant", fetched.fram(1), 0x1234);
        Due.same("nothing is buffered", fetched.section(), 2);
        Due.same("PC", fetched.register(0), 1028);
        BrownoutCore shifted = Asm.ran(1, Asm.one(Asm.RRA, 0, 3), 0x8001);
        Due.same("RRA of a fetched constant", shifted.memory(1026), 0x8001);
        Due.same("its flags", shifted.register(2), 5);
        BrownoutCore minus = Asm.ran(1, Asm.bytes(Asm.one(Asm.RRA, 3, 3)));
        Due.same("RRA of 255 as a byte: flags", minus.register(2), 5);
    }

    private static void sourceModes() {
        BrownoutCore indexed = Asm.loaded(
                Asm.constantTo(Asm.MOV, 7), 1124,
                Asm.two(Asm.MOV, 7, 1, 6, 0), 20,
                Asm.two(Asm.MOV, 7, 1, 8, 0), 65536 - 4,
                Asm.two(Asm.MOV, 2, 1, 9, 0), 1144);
        indexed.load(60, 111);
        indexed.load(48, 222);
        indexed.start(1024);
        Due.same("run", indexed.run(4), 4);
        Due.same("20(R7)", indexed.register(6), 111);
        Due.same("-4(R7)", indexed.register(8), 222);
        Due.same("&1144", indexed.register(9), 111);
        Due.same("R7 stays", indexed.register(7), 1124);
        Due.same("PC", indexed.register(0), 1040);

        BrownoutCore ofSp = Asm.loaded(Asm.constantTo(Asm.MOV, 1), 1125, Asm.two(Asm.MOV, 1, 1, 6, 0), 20);
        ofSp.load(60, 333);
        ofSp.start(1024);
        ofSp.run(2);
        Due.same("20(SP)", ofSp.register(6), 333);

        BrownoutCore at = Asm.loaded(Asm.constantTo(Asm.MOV, 7), 1125, Asm.two(Asm.MOV, 7, 2, 6, 0));
        at.load(50, 444);
        at.start(1024);
        at.run(2);
        Due.same("@R7 at an odd address is the word", at.register(6), 444);
        Due.same("R7 stays", at.register(7), 1125);

        BrownoutCore absoluteWithFlags = Asm.loaded(
                Asm.constantTo(Asm.MOV, 2), ALL, Asm.two(Asm.MOV, 2, 1, 6, 0), 1124);
        absoluteWithFlags.load(50, 555);
        absoluteWithFlags.start(1024);
        absoluteWithFlags.run(2);
        Due.same("x alone, whatever R2 has", absoluteWithFlags.register(6), 555);
    }

    private static void sourceAtPc() {
        BrownoutCore relative = Asm.loaded(0, Asm.two(Asm.MOV, 0, 1, 6, 0), 10);
        relative.load(7, 999);
        relative.start(1026);
        relative.run(1);
        Due.same("x and the address of x", relative.register(6), 999);
        BrownoutCore register = Asm.ran(1, Asm.two(Asm.MOV, 0, 0, 6, 0));
        Due.same("PC itself, already grown", register.register(6), 1026);
        BrownoutCore at = Asm.ran(1, Asm.two(Asm.MOV, 0, 2, 6, 0), 4711);
        Due.same("@PC", at.register(6), 4711);
        Due.same("@PC doesn't grow it", at.register(0), 1026);
        BrownoutCore constant = Asm.ran(1, Asm.two(Asm.MOV, 0, 3, 6, 0), 4711);
        Due.same("@PC+", constant.register(6), 4711);
        Due.same("@PC+ grows it", constant.register(0), 1028);
    }

    private static void growingRegisters() {
        int[][] registerBytesGrowth = {{7, 0, 2}, {7, B, 1}, {1, 0, 2}, {1, B, 2}, {15, 0, 2}, {4, B, 1}};
        for (int[] row : registerBytesGrowth) {
            BrownoutCore x = Asm.loaded(Asm.constantTo(Asm.MOV, row[0]), 1124, Asm.two(Asm.MOV, row[0], 3, 6, 0) | row[1]);
            x.load(50, 0x1234);
            x.start(1024);
            x.run(2);
            Due.same("loaded by R" + row[0], x.register(6), row[1] == 0 ? 0x1234 : 0x34);
            Due.same("R" + row[0] + " after", x.register(row[0]), 1124 + row[2]);
        }
        BrownoutCore odd = Asm.loaded(Asm.constantTo(Asm.MOV, 7), 1125, Asm.bytes(Asm.two(Asm.MOV, 7, 3, 6, 0)));
        odd.load(50, 0x1234);
        odd.start(1024);
        odd.run(2);
        Due.same("the high byte", odd.register(6), 0x12);
        Due.same("R7 after", odd.register(7), 1126);
        BrownoutCore top = Asm.ran(2, Asm.constantTo(Asm.MOV, 7), 65534, Asm.two(Asm.MOV, 7, 3, 6, 0));
        Due.same("a register wraps", top.register(7), 0);
        BrownoutCore itself = Asm.loaded(Asm.constantTo(Asm.MOV, 7), 1124, Asm.two(Asm.ADD, 7, 3, 7, 0));
        itself.load(50, 1000);
        itself.start(1024);
        itself.run(2);
        Due.same("ADD @R7+, R7 adds to what has grown", itself.register(7), 2126);
    }

    private static void destinationModes() {
        BrownoutCore x = Asm.ran(5,
                Asm.constantTo(Asm.MOV, 7), 514,
                Asm.two(Asm.MOV, 3, 1, 7, 1), 4,
                Asm.two(Asm.MOV, 3, 2, 2, 1), 520,
                Asm.two(Asm.MOV, 2, 2, 3, 1), 522,
                Asm.two(Asm.MOV, 2, 3, 7, 1), 65536 - 2);
        Due.same("4(R7)", x.memory(518), 1);
        Due.same("&520", x.memory(520), 2);
        Due.same("plus 0 for R3", x.memory(522), 4);
        Due.same("-2(R7)", x.memory(512), 8);
        BrownoutCore relative = Asm.ran(1, Asm.two(Asm.MOV, 3, 3, 0, 1), 100);
        Due.same("x and the address of x", relative.memory(1126), 65535);
        Due.same("written at once", relative.fram(51), 65535);
        BrownoutCore absolute = Asm.ran(2, Asm.constantTo(Asm.MOV, 2), ALL, Asm.two(Asm.MOV, 3, 1, 2, 1), 512);
        Due.same("x alone, whatever R2 has", absolute.memory(512), 1);
        BrownoutCore compared = Asm.ran(1, Asm.two(Asm.CMP, 3, 0, 2, 1), 1200);
        Due.same("CMP loads its destination and stores nothing", compared.section(), 3);
        Due.same("flags", compared.register(2), 3);
        BrownoutCore tested = Asm.ran(1, Asm.two(Asm.BIT, 3, 3, 2, 1), 1200);
        Due.same("BIT loads its destination and stores nothing", tested.section(), 3);
        Due.same("flags", tested.register(2), 2);
    }

    private static void destinationAfterSource() {
        BrownoutCore x = Asm.loaded(
                Asm.constantTo(Asm.MOV, 7), 1124,
                Asm.two(Asm.MOV, 7, 3, 7, 1), 2,
                Asm.two(Asm.MOV, 0, 3, 0, 1), 77, 20);
        x.load(50, 31);
        x.start(1024);
        x.run(3);
        Due.same("the destination's R7 has grown", x.memory(1128), 31);
        Due.same("the second word behind the first", x.memory(1024 + 12 + 20), 77);
        Due.same("PC", x.register(0), 1038);
        BrownoutCore twice = Asm.ran(1, Asm.two(Asm.ADD, 2, 1, 2, 1), Asm.SENSOR, Asm.SENSOR);
        Due.same("two loads from SENSOR", twice.section(), 3 + 2 * 2048);
        Due.same("65535 + 65535", twice.register(2), 5);
    }

    private static void bytesInMemory() {
        BrownoutCore x = Asm.ran(7,
                Asm.constantTo(Asm.MOV, 5), 0xabcd,
                Asm.toAbsolute(Asm.MOV, 5), 513,
                Asm.constantTo(Asm.MOV, 6), 0x1234,
                Asm.bytes(Asm.toAbsolute(Asm.MOV, 6)), 513,
                Asm.bytes(Asm.fromAbsolute(Asm.MOV, 7)), 513,
                Asm.bytes(Asm.fromAbsolute(Asm.MOV, 8)), 512,
                Asm.bytes(Asm.toAbsolute(Asm.ADD, 6)), 512);
        Due.same("high byte of SRAM stored, low byte added to", x.memory(512), 0x3401);
        Due.same("high byte loaded", x.register(7), 0x34);
        Due.same("low byte loaded", x.register(8), 0xcd);
        BrownoutCore fram = Asm.loaded(
                Asm.constantTo(Asm.MOV, 6), 0x1234,
                Asm.bytes(Asm.toAbsolute(Asm.MOV, 6)), 1201,
                Asm.bytes(Asm.toAbsolute(Asm.MOV, 6)), 1202);
        fram.load(88, 0xaabb);
        fram.load(89, 0xccdd);
        fram.start(1024);
        fram.run(3);
        Due.same("high byte of FRAM", fram.memory(1200), 0x34bb);
        Due.same("low byte of FRAM", fram.memory(1202), 0xcc34);
    }

    private static void specialRegisters() {
        BrownoutCore x = Asm.ran(3,
                Asm.two(Asm.MOV, 3, 3, 1, 0),
                Asm.two(Asm.MOV, 3, 3, 2, 0),
                Asm.two(Asm.MOV, 3, 3, 3, 0));
        Due.same("SP loses its lowest bit", x.register(1), 65534);
        Due.same("SR keeps four bits", x.register(2), 263);
        Due.same("R3 is 0", x.register(3), 0);
        BrownoutCore pc = Asm.ran(1, Asm.constantTo(Asm.MOV, 0), 2001);
        Due.same("PC loses its lowest bit", pc.register(0), 2000);
        BrownoutCore added = Asm.ran(1, Asm.constantTo(Asm.ADD, 0), 101);
        Due.same("added to PC behind the constant", added.register(0), 1028 + 100);
        BrownoutCore bytePc = Asm.ran(1, Asm.bytes(Asm.constantTo(Asm.MOV, 0)), 0x1237);
        Due.same("a byte put into PC", bytePc.register(0), 0x36);
        BrownoutCore toZero = Asm.ran(1, Asm.two(Asm.ADD, 3, 3, 3, 0));
        Due.same("R3 stays 0", toZero.register(3), 0);
        Due.same("flags of what went to R3", toZero.register(2), 4);
        BrownoutCore shiftedPc = Asm.ran(1, Asm.one(Asm.RRA, 0, 0));
        Due.same("RRA PC", shiftedPc.register(0), 1026 / 2 & 65534);
        Due.same("flags", shiftedPc.register(2), 0);
    }

    private static void resultsToR2() {
        BrownoutCore add = Asm.ran(2, Asm.constantTo(Asm.MOV, 2), 3, Asm.two(Asm.ADD, 3, 1, 2, 0));
        Due.same("ADD #1, SR sets no flags", add.register(2), 4);
        BrownoutCore and = Asm.ran(2, Asm.constantTo(Asm.MOV, 2), ALL, Asm.constantTo(Asm.AND, 2), 256);
        Due.same("AND to SR", and.register(2), 256);
        BrownoutCore rra = Asm.ran(2, Asm.constantTo(Asm.MOV, 2), 4, Asm.one(Asm.RRA, 2, 0));
        Due.same("RRA SR", rra.register(2), 2);
        BrownoutCore sxt = Asm.ran(2, Asm.constantTo(Asm.MOV, 2), 256 + 2, Asm.one(Asm.SXT, 2, 0));
        Due.same("SXT SR", sxt.register(2), 2);
        BrownoutCore cmp = Asm.ran(2, Asm.constantTo(Asm.MOV, 2), 4, Asm.two(Asm.CMP, 2, 2, 2, 0));
        Due.same("CMP #4, SR puts nothing, so it sets flags", cmp.register(2), 3);
        BrownoutCore bit = Asm.ran(2, Asm.constantTo(Asm.MOV, 2), 4, Asm.two(Asm.BIT, 3, 1, 2, 0));
        Due.same("BIT #1, SR sets flags", bit.register(2), 2);
        BrownoutCore bis = Asm.ran(1, Asm.two(Asm.BIS, 3, 3, 2, 0));
        Due.same("BIS #-1, SR", bis.register(2), 263);
    }

    /** MOV, BIC, BIS, SWPB, PUSH and CALL leave the flags of the instruction before them. */
    private static void flagsThatStay() {
        int[] words = {
            Asm.two(Asm.MOV, 6, 0, 7, 0), Asm.two(Asm.BIC, 6, 0, 7, 0), Asm.two(Asm.BIS, 6, 0, 7, 0),
            Asm.one(Asm.SWPB, 6, 0), Asm.one(Asm.PUSH, 6, 0), Asm.one(Asm.CALL, 6, 0), Asm.one(7, 6, 0)};
        for (int word : words) {
            BrownoutCore x = Asm.ran(3,
                    Asm.two(Asm.SUB, 3, 1, 6, 0),
                    Asm.constantTo(Asm.MOV, 2), 3,
                    word);
            Due.same("flags after " + word, x.register(2), 3);
        }
    }

    private static void pushAndCall() {
        BrownoutCore x = Asm.ran(4,
                Asm.constantTo(Asm.MOV, 1), 544,
                Asm.constantTo(Asm.MOV, 5), 0x1234,
                Asm.one(Asm.PUSH, 5, 0),
                Asm.one(Asm.CALL, 0, 3), 1101);
        Due.same("pushed", x.memory(542), 0x1234);
        Due.same("the way back", x.memory(540), 1024 + 14);
        Due.same("SP", x.register(1), 540);
        Due.same("PC", x.register(0), 1100);
        Due.same("no flags", x.register(2), 0);
        BrownoutCore through = Asm.loaded(
                Asm.constantTo(Asm.MOV, 1), 544,
                Asm.constantTo(Asm.MOV, 7), 1124,
                Asm.one(Asm.CALL, 7, 3));
        through.load(50, 1111);
        through.start(1024);
        through.run(3);
        Due.same("CALL @R7+", through.register(0), 1110);
        Due.same("R7 grows by 2", through.register(7), 1126);
        BrownoutCore constant = Asm.ran(2, Asm.constantTo(Asm.MOV, 1), 544, Asm.one(Asm.PUSH, 3, 3));
        Due.same("PUSH #-1", constant.memory(542), 65535);
        BrownoutCore wraps = Asm.ran(1, Asm.one(Asm.PUSH, 3, 3));
        Due.same("SP wraps", wraps.register(1), 65534);
        BrownoutCore fram = Asm.ran(2, Asm.constantTo(Asm.MOV, 1), 1280, Asm.one(Asm.CALL, 0, 3), 1100);
        Due.same("a stack in FRAM is written at once", fram.fram(127), 1032);
        Due.same("one WRITE", fram.writes(), 1);
    }

    private static void pushOfSp() {
        BrownoutCore x = Asm.ran(2, Asm.constantTo(Asm.MOV, 1), 540, Asm.one(Asm.PUSH, 1, 0));
        Due.same("SP as it was before", x.memory(538), 540);
        BrownoutCore grown = Asm.ran(4,
                Asm.constantTo(Asm.MOV, 1), 540,
                Asm.constantTo(Asm.MOV, 5), 0x4321,
                Asm.toAbsolute(Asm.MOV, 5), 540,
                Asm.one(Asm.PUSH, 1, 3));
        Due.same("PUSH @SP+ comes back", grown.register(1), 540);
        Due.same("and stores what was there", grown.memory(540), 0x4321);
        BrownoutCore call = Asm.ran(2, Asm.constantTo(Asm.MOV, 1), 540, Asm.one(Asm.CALL, 1, 0));
        Due.same("CALL SP goes where SP was", call.register(0), 540);
        Due.same("SP", call.register(1), 538);
        BrownoutCore pc = Asm.ran(2, Asm.constantTo(Asm.MOV, 1), 540, Asm.one(Asm.PUSH, 0, 0));
        Due.same("PUSH PC", pc.memory(538), 1030);
    }

    private static void pushOfAByte() {
        BrownoutCore x = Asm.ran(5,
                Asm.constantTo(Asm.MOV, 1), 544,
                Asm.constantTo(Asm.MOV, 5), 0xabcd,
                Asm.toAbsolute(Asm.MOV, 5), 542,
                Asm.constantTo(Asm.MOV, 6), 0x1234,
                Asm.bytes(Asm.one(Asm.PUSH, 6, 0)));
        Due.same("the low byte alone", x.memory(542), 0xab34);
        Due.same("SP less 2", x.register(1), 542);
        BrownoutCore grown = Asm.ran(3,
                Asm.constantTo(Asm.MOV, 1), 544,
                Asm.constantTo(Asm.MOV, 7), 1026,
                Asm.bytes(Asm.one(Asm.PUSH, 7, 3)));
        Due.same("PUSH.B @R7+", grown.memory(542), 544 & 255);
        Due.same("R7 grows by 1", grown.register(7), 1027);
        BrownoutCore sp = Asm.ran(2, Asm.constantTo(Asm.MOV, 1), 520, Asm.bytes(Asm.one(Asm.PUSH, 1, 3)));
        Due.same("SP grows by 2 with B too", sp.register(1), 520);
    }

    private static void callWithB() {
        BrownoutCore x = Asm.ran(3,
                Asm.constantTo(Asm.MOV, 1), 544,
                Asm.constantTo(Asm.MOV, 7), 1027,
                Asm.bytes(Asm.one(Asm.CALL, 7, 3)));
        Due.same("the whole word is the operand", x.register(0), 544);
        Due.same("R7 grows by 2", x.register(7), 1029);
        Due.same("the whole word is stored", x.memory(542), 1034);
        BrownoutCore swapped = Asm.ran(3,
                Asm.constantTo(Asm.MOV, 7), 512,
                Asm.toAbsolute(Asm.MOV, 7), 512,
                Asm.bytes(Asm.one(Asm.SWPB, 7, 3)));
        Due.same("SWPB of a word, with B", swapped.memory(512), 2);
        Due.same("R7 grows by 2", swapped.register(7), 514);
        BrownoutCore sxt = Asm.ran(4,
                Asm.constantTo(Asm.MOV, 6), 0x80,
                Asm.toAbsolute(Asm.MOV, 6), 512,
                Asm.constantTo(Asm.MOV, 7), 513,
                Asm.bytes(Asm.one(Asm.SXT, 7, 3)));
        Due.same("SXT of a word, with B", sxt.memory(512), 0xff80);
        Due.same("R7 grows by 2", sxt.register(7), 515);
    }

    private static void returnFromInterrupt() {
        for (int word : new int[] {Asm.one(Asm.RETI, 0, 0), Asm.bytes(Asm.one(Asm.RETI, 5, 1)), Asm.one(Asm.RETI, 15, 3)}) {
            BrownoutCore x = Asm.ran(4,
                    Asm.constantTo(Asm.MOV, 1), 544,
                    Asm.one(Asm.PUSH, 0, 3), 1077,
                    Asm.one(Asm.PUSH, 3, 3),
                    word);
            Due.same("SR of RETI", x.register(2), 263);
            Due.same("PC of RETI", x.register(0), 1076);
            Due.same("SP of RETI", x.register(1), 544);
        }
        BrownoutCore sensor = Asm.started(Asm.constantTo(Asm.MOV, 1), Asm.SENSOR, Asm.one(Asm.RETI, 0, 0));
        sensor.sample(6);
        sensor.run(2);
        Due.same("RETI loads SR from SENSOR", sensor.register(2), 6);
        Due.same("and PC from RADIO, which gives 0", sensor.register(0), 0);
        Due.same("SP", sensor.register(1), 20);
        Due.same("log", sensor.section(), 3 + 2048);
        BrownoutCore fram = Asm.ran(2, Asm.constantTo(Asm.MOV, 1), 1200, Asm.one(Asm.RETI, 0, 0));
        Due.same("RETI loads two words of FRAM", fram.section(), 5);
    }

    private static void oneOperandThatGrows() {
        BrownoutCore x = Asm.loaded(Asm.constantTo(Asm.MOV, 7), 1124, Asm.one(Asm.RRA, 7, 3));
        x.load(50, 8);
        x.start(1024);
        x.run(2);
        Due.same("goes back where it came from", x.memory(1124), 4);
        Due.same("not to the next word", x.memory(1126), 0);
        Due.same("R7", x.register(7), 1126);
        BrownoutCore bytes = Asm.loaded(Asm.constantTo(Asm.MOV, 7), 1125, Asm.bytes(Asm.one(Asm.RRA, 7, 3)));
        bytes.load(50, 0x8204);
        bytes.start(1024);
        bytes.run(2);
        Due.same("the high byte", bytes.memory(1124), 0xc104);
        Due.same("R7", bytes.register(7), 1126);
        BrownoutCore atPc = Asm.ran(1, Asm.one(Asm.RRA, 0, 2), 8);
        Due.same("@PC is memory", atPc.memory(1026), 4);
        Due.same("READ, so it is held back", atPc.fram(1), 8);
        BrownoutCore indexed = Asm.loaded(Asm.one(Asm.RRA, 0, 1), 98);
        indexed.load(50, 6);
        indexed.start(1024);
        indexed.run(1);
        Due.same("x and the address of x", indexed.memory(1124), 3);
    }

    private static void addressesWrap() {
        BrownoutCore x = Asm.loaded(Asm.constantTo(Asm.MOV, 7), 65000, Asm.two(Asm.MOV, 7, 1, 6, 0), 1124 + 536);
        x.load(50, 808);
        x.start(1024);
        x.run(2);
        Due.same("x plus R7 wraps", x.register(6), 808);
        BrownoutCore stored = Asm.ran(2, Asm.constantTo(Asm.MOV, 7), 65000, Asm.two(Asm.MOV, 3, 1, 7, 1), 512 + 536);
        Due.same("stored at what wrapped", stored.memory(512), 1);
        BrownoutCore top = Asm.ran(2, Asm.constantTo(Asm.MOV, 0), 65534);
        Due.same("PC wraps", top.register(0), 0);
    }

    private static void codeInSram() {
        BrownoutCore x = Asm.ran(7,
                Asm.constantTo(Asm.MOV, 5), Asm.constantTo(Asm.MOV, 6),
                Asm.toAbsolute(Asm.MOV, 5), 540,
                Asm.constantTo(Asm.MOV, 5), 0x1234,
                Asm.toAbsolute(Asm.MOV, 5), 542,
                Asm.constantTo(Asm.MOV, 0), 540,
                0);
        Due.same("MOV #0x1234, R6 from SRAM", x.register(6), 0x1234);
        Due.same("PC runs on behind SRAM", x.register(0), 546);
        Due.same("SRAM is not tracked", x.section(), 10);
    }

    private static void fetchesOutside() {
        BrownoutCore x = Asm.started(Asm.constantTo(Asm.MOV, 0), 16);
        x.sample(Asm.one(Asm.PUSH, 3, 3));
        x.run(4);
        Due.same("SENSOR is not loaded by a fetch", x.waiting(), 1);
        Due.same("PC", x.register(0), 22);
        Due.same("SP", x.register(1), 0);
        BrownoutCore behind = Asm.loaded();
        behind.load(127, Asm.constantTo(Asm.MOV, 6));
        behind.start(1278);
        behind.run(1);
        Due.same("a word behind FRAM is 0", behind.register(6), 0);
        Due.same("PC", behind.register(0), 1282);
        Due.same("tracked", behind.section(), 1);
        BrownoutCore at = Asm.started(Asm.constantTo(Asm.MOV, 5), Asm.two(Asm.MOV, 0, 2, 6, 0),
                Asm.toAbsolute(Asm.MOV, 5), 542, Asm.constantTo(Asm.MOV, 0), 542);
        at.run(4);
        Due.same("@PC behind SRAM loads 0", at.register(6), 0);
    }

    private static void devicesGiveZero() {
        for (int address : new int[] {0, 14, 15, 18, 19, 20, 21, 22, 510, 544, 1022, 1280, 65534}) {
            BrownoutCore x = Asm.ran(3,
                    Asm.two(Asm.MOV, 3, 3, 6, 0),
                    Asm.fromAbsolute(Asm.MOV, 6), address,
                    Asm.bytes(Asm.fromAbsolute(Asm.MOV, 7)), address);
            Due.same("load from " + address, x.register(6), 0);
            Due.same("byte load from " + address, x.register(7), 0);
            Due.same("state", x.state(), 1);
            Due.same("section", x.section(), 5);
        }
        for (int address : new int[] {0, 14, 15, 16, 17, 22, 510, 511, 544, 1022, 1280, 65534}) {
            BrownoutCore x = Asm.ran(2,
                    Asm.two(Asm.MOV, 3, 3, 2, 1), address,
                    Asm.bytes(Asm.two(Asm.MOV, 3, 3, 2, 1)), address);
            Due.same("a store to " + address + " does nothing", x.section(), 4);
            Due.same("state", x.state(), 1);
            Due.same("writes", x.writes(), 0);
            Due.same("first word of SRAM", x.memory(512), 0);
            Due.same("last word of SRAM", x.memory(542), 0);
            Due.same("memory of " + address, x.memory(address), 0);
            Due.same("last word of FRAM", x.fram(127), 0);
        }
    }

    private static String name(int[] row) {
        return "row " + java.util.Arrays.toString(row);
    }
}
