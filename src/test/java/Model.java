import java.util.ArrayDeque;
import java.util.ArrayList;
import java.util.Arrays;
import java.util.LinkedHashMap;
import java.util.LinkedHashSet;
import java.util.List;
import java.util.Map;
import java.util.Set;

/**
 * The document told a second time, in the plainest way and without the rules of LANGUAGE.md: a failure is
 * an exception, sections are maps, and all that is kept aside is one copy. ModelTest compares with it.
 */
final class Model {
    private static final class PowerFails extends Exception {
        private static final long serialVersionUID = 1L;
    }

    private static final class Aside {
        int[] registers = new int[16];
        int[] sram = new int[16];
        Map<Integer, Integer> buffer = new LinkedHashMap<>();
        List<Integer> unsent = new ArrayList<>();
        boolean finished = true;
        boolean halted;
        int retired;
    }

    private int state;
    private int[] r = new int[16];
    private int[] sram = new int[16];
    private final int[] fram = new int[128];
    private final List<Integer> log = new ArrayList<>();
    private final List<Integer> sent = new ArrayList<>();
    private final ArrayDeque<Integer> samples = new ArrayDeque<>();
    private Aside aside = new Aside();
    private final Set<Integer> read = new LinkedHashSet<>();
    private final Set<Integer> written = new LinkedHashSet<>();
    private Map<Integer, Integer> buffer = new LinkedHashMap<>();
    private List<Integer> queue = new ArrayList<>();
    private int sensed;
    private int retired;
    private boolean halts;
    private int writes;
    private int flips;
    private int toWrite;
    private int toStep;

    boolean load(int k, int w) {
        if (state != 0 || k < 0 || k > 127) {
            return false;
        }
        fram[k] = w & 0xffff;
        return true;
    }

    boolean start(int pc) {
        if (state != 0) {
            return false;
        }
        r[0] = pc & 0xfffe;
        aside.registers = r.clone();
        state = 1;
        return true;
    }

    boolean sample(int v) {
        if (samples.size() == 16) {
            return false;
        }
        samples.addLast(v & 0xffff);
        return true;
    }

    boolean failWrite(int n) {
        if (n < 0 || n > 1000) {
            return false;
        }
        toWrite = n;
        return true;
    }

    boolean failStep(int n) {
        if (n < 0 || n > 1000) {
            return false;
        }
        toStep = n;
        return true;
    }

    int run(int n) {
        if (state != 1 || n < 0 || n > 200) {
            return -1;
        }
        int done = 0;
        try {
            while (done < n && state == 1) {
                step();
                done++;
            }
        } catch (PowerFails e) {
            goOff();
        }
        return done;
    }

    boolean boot() {
        if (state != 2) {
            return false;
        }
        try {
            if (!aside.finished) {
                finish();
            }
        } catch (PowerFails e) {
            goOff();
            return false;
        }
        r = aside.registers.clone();
        sram = aside.sram.clone();
        retired = aside.retired;
        beginSection();
        state = aside.halted ? 3 : 1;
        return true;
    }

    int state() {
        return state;
    }

    int register(int k) {
        return k < 0 || k > 15 || state == 2 ? 0 : r[k];
    }

    int memory(int address) {
        if (address >= 512 && address <= 543) {
            return state == 2 ? 0 : sram[(address - 512) / 2];
        }
        if (address >= 1024 && address <= 1279) {
            int k = (address - 1024) / 2;
            return buffer.getOrDefault(k, fram[k]);
        }
        return 0;
    }

    int fram(int k) {
        return k < 0 || k > 127 ? 0 : fram[k];
    }

    int radio(int k) {
        return k == -1 ? sent.size() : k < 0 || k >= sent.size() ? 0 : sent.get(k);
    }

    int waiting() {
        return samples.size();
    }

    int writes() {
        return writes;
    }

    int flips() {
        return flips;
    }

    int retired() {
        return state == 2 ? aside.retired : retired;
    }

    int section() {
        return read.size() + written.size() + 32 * buffer.size() + 256 * queue.size() + 2048 * log.size();
    }

    private void goOff() {
        state = 2;
        Arrays.fill(r, 0);
        Arrays.fill(sram, 0);
        beginSection();
        toWrite = 0;
        toStep = 0;
    }

    private void beginSection() {
        read.clear();
        written.clear();
        buffer = new LinkedHashMap<>();
        queue = new ArrayList<>();
        sensed = 0;
    }

    private void aWrite() throws PowerFails {
        if (toWrite > 0 && --toWrite == 0) {
            throw new PowerFails();
        }
        writes++;
    }

    private void step() throws PowerFails {
        if (toStep > 0 && --toStep == 0) {
            throw new PowerFails();
        }
        if (read.size() + written.size() > 11 || buffer.size() == 4 || queue.size() == 4 || sensed >= 3) {
            checkpoint();
        }
        halts = false;
        instruction();
        retired++;
        if (halts) {
            checkpoint();
            state = 3;
        }
    }

    private void checkpoint() throws PowerFails {
        int many = 36 + 2 * buffer.size() + queue.size();
        for (int i = 0; i < many; i++) {
            aWrite();
        }
        Aside next = new Aside();
        next.registers = r.clone();
        next.sram = sram.clone();
        next.buffer = new LinkedHashMap<>(buffer);
        next.unsent = new ArrayList<>(queue);
        next.halted = halts;
        next.retired = retired;
        next.finished = false;
        aWrite();
        aside = next;
        flips++;
        halts = false;
        finish();
        beginSection();
    }

    private void finish() throws PowerFails {
        for (Map.Entry<Integer, Integer> e : aside.buffer.entrySet()) {
            aWrite();
            fram[e.getKey()] = e.getValue();
        }
        while (!aside.unsent.isEmpty()) {
            aWrite();
            aWrite();
            sent.add(aside.unsent.remove(0));
        }
        aWrite();
        log.clear();
        aWrite();
        aside.finished = true;
    }

    // ---- memory

    private static boolean inSram(int a) {
        return a >= 512 && a <= 543;
    }

    private static boolean inFram(int a) {
        return a >= 1024 && a <= 1279;
    }

    private int fetch() throws PowerFails {
        int a = r[0];
        r[0] = a + 2 & 0xfffe;
        return inSram(a) || inFram(a) ? loadWord(a) : 0;
    }

    private int loadWord(int a) throws PowerFails {
        if (inFram(a)) {
            int k = (a - 1024) / 2;
            if (!written.contains(k)) {
                read.add(k);
            }
        }
        if (a / 2 == 8) {
            return sensor();
        }
        return memory(a);
    }

    private int sensor() throws PowerFails {
        int k = sensed++;
        if (log.size() > k) {
            return log.get(k);
        }
        int v = samples.isEmpty() ? 0xffff : samples.removeFirst();
        aWrite();
        aWrite();
        log.add(v);
        return v;
    }

    private int loadSized(int a, boolean b) throws PowerFails {
        int w = loadWord(a);
        return !b ? w : a % 2 == 0 ? w % 256 : w / 256;
    }

    private void storeSized(int a, int v, boolean b) throws PowerFails {
        if (a / 2 == 9) {
            if (sent.size() + queue.size() < 200) {
                queue.add(v);
            }
        } else if (a / 2 == 10) {
            halts = true;
        } else if (inSram(a) || inFram(a)) {
            int old = b ? loadWord(a) : 0;
            int w = !b ? v : a % 2 == 0 ? old / 256 * 256 + v : v * 256 + old % 256;
            if (inSram(a)) {
                sram[(a - 512) / 2] = w;
            } else {
                storeFram((a - 1024) / 2, w);
            }
        }
    }

    private void storeFram(int k, int w) throws PowerFails {
        if (read.contains(k)) {
            buffer.put(k, w);
        } else {
            written.add(k);
            aWrite();
            fram[k] = w;
        }
    }

    // ---- instructions

    private void put(int k, int v) {
        switch (k) {
            case 0, 1 -> r[k] = v & 0xfffe;
            case 2 -> r[k] = v & 0x107;
            case 3 -> { }
            default -> r[k] = v & 0xffff;
        }
    }

    /** An operand: its value, and where a result would go. */
    private static final class Operand {
        int value;
        int register = -1;
        int address = -1;
    }

    private Operand source(int k, int m, boolean b) throws PowerFails {
        Operand o = new Operand();
        int low = b ? 0xff : 0xffff;
        int[][] constants = {{0, 1, 2, 65535}, {-1, -1, 4, 8}};
        int constant = k == 3 ? constants[0][m] : k == 2 ? constants[1][m] : -1;
        if (constant >= 0) {
            o.value = constant & low;
            return o;
        }
        switch (m) {
            case 0 -> {
                o.register = k;
                o.value = r[k] & low;
            }
            case 1 -> {
                o.address = indexed(k);
                o.value = loadSized(o.address, b);
            }
            case 2 -> {
                o.address = r[k];
                o.value = loadSized(o.address, b);
            }
            default -> {
                if (k == 0) {
                    o.value = fetch() & low;
                } else {
                    o.address = r[k];
                    o.value = loadSized(o.address, b);
                    put(k, r[k] + (b && k != 1 ? 1 : 2));
                }
            }
        }
        return o;
    }

    private int indexed(int k) throws PowerFails {
        int addressOfX = r[0];
        int x = fetch();
        int plus = k == 0 ? addressOfX : k == 2 || k == 3 ? 0 : r[k];
        return x + plus & 0xffff;
    }

    private void deliver(Operand o, int result, boolean b) throws PowerFails {
        if (o.register >= 0) {
            put(o.register, result);
        } else if (o.address >= 0) {
            storeSized(o.address, result, b);
        }
    }

    private void flags(boolean c, int result, boolean v, boolean b) {
        boolean n = result >= (b ? 128 : 32768);
        r[2] = (c ? 1 : 0) + (result == 0 ? 2 : 0) + (n ? 4 : 0) + (v ? 256 : 0);
    }

    private void instruction() throws PowerFails {
        int w = fetch();
        int op = w >> 12;
        if (op >= 4) {
            twoOperands(w, op);
        } else if (op >= 2) {
            jump(w);
        } else if (w >> 10 == 4) {
            oneOperand(w);
        }
    }

    private void jump(int w) {
        boolean c = (r[2] & 1) > 0;
        boolean z = (r[2] & 2) > 0;
        boolean n = (r[2] & 4) > 0;
        boolean v = (r[2] & 256) > 0;
        boolean[] when = {!z, z, !c, c, n, !(n ^ v), n ^ v, true};
        if (when[w >> 10 & 7]) {
            int distance = w % 1024;
            put(0, r[0] + 2 * (distance >= 512 ? distance - 1024 : distance));
        }
    }

    private void oneOperand(int w) throws PowerFails {
        int what = w >> 7 & 7;
        if (what == 7) {
            return;
        }
        if (what == 6) {
            put(2, loadWord(r[1]));
            put(1, r[1] + 2);
            put(0, loadWord(r[1]));
            put(1, r[1] + 2);
            return;
        }
        boolean b = (w >> 6 & 1) == 1 && what != 1 && what != 3 && what != 5;
        Operand o = source(w & 15, w >> 4 & 3, b);
        int top = b ? 128 : 32768;
        int result = o.value;
        boolean toSr = o.register == 2;
        int carryIn = r[2] & 1;
        switch (what) {
            case 0, 2 -> {
                result = o.value / 2 + (what == 0 ? carryIn * top : o.value >= top ? top : 0);
                deliver(o, result, b);
                if (!toSr) {
                    flags(o.value % 2 == 1, result, false, b);
                }
            }
            case 1 -> deliver(o, o.value % 256 * 256 + o.value / 256, false);
            case 3 -> {
                int low = o.value % 256;
                result = low >= 128 ? low + 0xff00 : low;
                deliver(o, result, false);
                if (!toSr) {
                    flags(result != 0, result, false, false);
                }
            }
            case 4 -> {
                put(1, r[1] - 2);
                storeSized(r[1], o.value, b);
            }
            default -> {
                put(1, r[1] - 2);
                storeSized(r[1], r[0], false);
                put(0, o.value);
            }
        }
    }

    private void twoOperands(int w, int op) throws PowerFails {
        boolean b = (w >> 6 & 1) == 1;
        int size = b ? 256 : 65536;
        int s = source(w >> 8 & 15, w >> 4 & 3, b).value;
        Operand o = new Operand();
        int d = w & 15;
        if ((w >> 7 & 1) == 0) {
            o.register = d;
            o.value = r[d] % size;
        } else {
            o.address = indexed(d);
            o.value = op == 4 ? 0 : loadSized(o.address, b);
        }
        int c = r[2] & 1;
        int a = o.value;
        int result;
        boolean setsFlags = true;
        boolean carry = false;
        boolean over = false;
        switch (op) {
            case 5, 6, 7, 8, 9 -> {
                int second = op >= 7 ? size - 1 - s : s;
                int third = op == 5 ? 0 : op >= 8 ? 1 : c;
                result = (a + second + third) % size;
                carry = a + second + third >= size;
                int signed = signed(a, size) + signed(second, size) + third;
                over = signed != signed(result, size);
            }
            case 10 -> {
                result = 0;
                carry = c == 1;
                for (int unit = 1; unit < size; unit *= 16) {
                    int t = a / unit % 16 + s / unit % 16 + (carry ? 1 : 0);
                    carry = t >= 10;
                    result += (carry ? (t + 6) % 16 : t) * unit;
                }
            }
            case 11, 15 -> {
                result = a & s;
                carry = result != 0;
            }
            case 14 -> {
                result = a ^ s;
                carry = result != 0;
                over = a >= size / 2 && s >= size / 2;
            }
            case 12, 13, 4 -> {
                result = op == 4 ? s : op == 13 ? a | s : a & (size - 1 - s);
                setsFlags = false;
            }
            default -> result = 0;
        }
        boolean puts = op != 9 && op != 11;
        if (puts) {
            deliver(o, result, b);
        }
        if (setsFlags && !(puts && o.register == 2)) {
            flags(carry, result, over, b);
        }
    }

    private static int signed(int value, int size) {
        return value >= size / 2 ? value - size : value;
    }
}
