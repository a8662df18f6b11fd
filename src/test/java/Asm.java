/** Builds instruction words and machines that hold a program. */
final class Asm {
    static final int RRC = 0;
    static final int SWPB = 1;
    static final int RRA = 2;
    static final int SXT = 3;
    static final int PUSH = 4;
    static final int CALL = 5;
    static final int RETI = 6;

    static final int MOV = 4;
    static final int ADD = 5;
    static final int ADDC = 6;
    static final int SUBC = 7;
    static final int SUB = 8;
    static final int CMP = 9;
    static final int DADD = 10;
    static final int BIT = 11;
    static final int BIC = 12;
    static final int BIS = 13;
    static final int XOR = 14;
    static final int AND = 15;

    static final int SENSOR = 16;
    static final int RADIO = 18;
    static final int HALT = 20;
    static final int SRAM = 512;
    static final int FRAM = 1024;

    private Asm() {
    }

    /** Two operands: source s in mode m, destination d in mode f. */
    static int two(int op, int s, int m, int d, int f) {
        return op << 12 | s << 8 | f << 7 | m << 4 | d;
    }

    static int one(int op, int d, int m) {
        return 4 << 10 | op << 7 | m << 4 | d;
    }

    /** The same instruction on bytes. */
    static int bytes(int word) {
        return word | 64;
    }

    static int jump(int condition, int words) {
        return 2 << 12 | condition << 10 | words & 1023;
    }

    /** op #constant, Rd: the constant is the next word. */
    static int constantTo(int op, int d) {
        return two(op, 0, 3, d, 0);
    }

    /** op Rs, &address: the address is the next word. */
    static int toAbsolute(int op, int s) {
        return two(op, s, 0, 2, 1);
    }

    /** op &address, Rd: the address is the next word. */
    static int fromAbsolute(int op, int d) {
        return two(op, 2, 1, d, 0);
    }

    static int addressOf(int framWord) {
        return FRAM + 2 * framWord;
    }

    /** A new machine with the words in FRAM from word 0 on, not yet started. */
    static BrownoutCore loaded(int... words) {
        BrownoutCore x = new BrownoutCore();
        for (int i = 0; i < words.length; i++) {
            x.load(i, words[i]);
        }
        return x;
    }

    static BrownoutCore started(int... words) {
        BrownoutCore x = loaded(words);
        x.start(FRAM);
        return x;
    }

    static BrownoutCore ran(int steps, int... words) {
        BrownoutCore x = started(words);
        Due.same("run of the first steps", x.run(steps), steps);
        return x;
    }
}
