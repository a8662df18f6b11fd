import java.util.ArrayList;
import java.util.List;

/** After any failures a program goes on as if there had been none, and each record leaves once. */
public final class RecoveryTest {
    /** Sums and sends a row of numbers, with a call, a stack in SRAM and counters in FRAM. */
    private static final int[] SUMS = {
        Asm.constantTo(Asm.MOV, 1), 544,
        Asm.constantTo(Asm.MOV, 5), 1240,
        Asm.constantTo(Asm.MOV, 8), 6,
        Asm.two(Asm.MOV, 5, 3, 4, 0),
        Asm.one(Asm.CALL, 0, 3), Asm.addressOf(14),
        Asm.two(Asm.SUB, 3, 1, 8, 0),
        Asm.jump(0, -5),
        Asm.toAbsolute(Asm.MOV, 8), Asm.HALT,
        0,
        Asm.one(Asm.PUSH, 4, 0),
        Asm.toAbsolute(Asm.ADD, 4), 1200,
        Asm.two(Asm.ADD, 3, 1, 2, 1), 1202,
        Asm.two(Asm.MOV, 2, 1, 2, 1), 1200, Asm.RADIO,
        Asm.bytes(Asm.two(Asm.XOR, 1, 2, 2, 1)), 1205,
        Asm.two(Asm.MOV, 1, 3, 4, 0),
        Asm.toAbsolute(Asm.MOV, 4), 1206,
        Asm.two(Asm.MOV, 1, 3, 0, 0)};

    /** Swaps words of FRAM back and forth: done twice from the middle, it would lose them. */
    private static final int[] SWAPS = {
        Asm.constantTo(Asm.MOV, 8), 9,
        Asm.fromAbsolute(Asm.MOV, 4), 1240,
        Asm.two(Asm.MOV, 2, 1, 2, 1), 1242, 1240,
        Asm.two(Asm.MOV, 2, 1, 2, 1), 1244, 1242,
        Asm.toAbsolute(Asm.MOV, 4), 1244,
        Asm.toAbsolute(Asm.MOV, 4), Asm.RADIO,
        Asm.bytes(Asm.toAbsolute(Asm.MOV, 4)), Asm.RADIO,
        Asm.two(Asm.SUB, 3, 1, 8, 0),
        Asm.jump(0, -16),
        Asm.toAbsolute(Asm.MOV, 8), Asm.HALT};

    public static void main(String[] args) {
        for (int[] program : new int[][] {SUMS, SWAPS}) {
            BrownoutCore whole = withData(program);
            Due.yes("the program is long enough", whole.run(200) > 60);
            Due.same("it halts without failures", whole.state(), 3);
            Due.yes("it sends", whole.radio(-1) >= 6);
            String end = end(whole);
            failingOnceBeforeEachWrite(program, whole.writes(), end);
            failingOnceBeforeEachStep(program, whole.retired(), end);
            failingAgainAndAgain(program, end);
        }
        Due.same("the sums are sent", withSums().radio(5), 10 + 20 + 30 + 40 + 50 + 60);
        Due.end();
    }

    private static BrownoutCore withSums() {
        BrownoutCore x = withData(SUMS);
        x.run(200);
        return x;
    }

    private static BrownoutCore withData(int[] program) {
        BrownoutCore x = Asm.loaded(program);
        for (int k = 0; k < 6; k++) {
            x.load(108 + k, 10 * (k + 1));
        }
        x.start(1024);
        return x;
    }

    private static void failingOnceBeforeEachWrite(int[] program, int writes, String end) {
        for (int n = 1; n <= writes; n++) {
            BrownoutCore x = withData(program);
            x.failWrite(n);
            x.run(200);
            Due.same("state after WRITE " + n + " failed", x.state(), 2);
            Due.same("WRITES done", x.writes(), n - 1);
            Due.yes("boot", x.boot());
            x.run(200);
            Due.text("the end after WRITE " + n + " failed", end(x), end);
        }
    }

    private static void failingOnceBeforeEachStep(int[] program, int steps, String end) {
        for (int n = 1; n <= steps; n++) {
            BrownoutCore x = withData(program);
            x.failStep(n);
            Due.same("run to step " + n, x.run(200), n - 1);
            Due.yes("boot", x.boot());
            x.run(200);
            Due.text("the end after step " + n + " failed", end(x), end);
        }
    }

    /** With n WRITES between failures the program still comes to its end, if a checkpoint fits in. */
    private static void failingAgainAndAgain(int[] program, String end) {
        for (int n = 70; n <= 140; n++) {
            BrownoutCore x = withData(program);
            int rounds = 0;
            while (x.state() != 3 && rounds < 60) {
                rounds++;
                x.failWrite(rounds % 3 == 0 ? 5 : n);
                if (x.state() == 2) {
                    x.boot();
                }
                if (x.state() == 1) {
                    x.run(200);
                }
            }
            Due.text("the end with failures every " + n + " WRITES", end(x), end);
        }
    }

    /** All that does not tell how often the power failed. */
    private static String end(BrownoutCore x) {
        List<Integer> all = new ArrayList<>();
        all.add(x.state());
        all.add(x.retired());
        all.add(x.section());
        all.add(x.flips());
        for (int k = 0; k < 16; k++) {
            all.add(x.register(k));
            all.add(x.memory(512 + 2 * k));
        }
        for (int k = 88; k < 128; k++) {
            all.add(x.fram(k));
        }
        for (int k = -1; k < x.radio(-1); k++) {
            all.add(x.radio(k));
        }
        return all.toString();
    }
}
