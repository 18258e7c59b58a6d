import java.util.Random;

/** Long runs of calls, the same ones each time, on the program and on the model side by side. */
public final class ModelTest {
    private static final String[] PLAIN = {"nop", "move R R", "ret R", "const R N", "add R R R", "sub R R R", "mul R R R",
        "addi R R N", "jump L", "jeq R R L", "jlt R R L", "jz R L", "table R L", "cases N L", "cases N L L", "cases N L L L",
        "cases N L L L L", "L"};
    private static final String[] NUMBERS = {"0", "1", "2", "-1", "7", "8", "-8", "-9", "127", "128", "-128", "-129", "32767",
        "32768", "-32768", "-32769", "-0", "01", "x", "99999", "100000"};
    private static final int[] OPS = {0, 1, 15, 18, 19, 144, 145, 146, 216, 40, 41, 50, 51, 56, 43, 256, 256, 256, 2, 512};

    private final UnitDesk desk = new UnitDesk();
    private final Model model = new Model();
    private final Random random;
    private final int seed;
    private int calls;

    private ModelTest(int seed) {
        this.seed = seed;
        this.random = new Random(seed);
    }

    public static void main(String[] args) {
        for (int seed = 0; seed < 6000; seed++) {
            ModelTest test = new ModelTest(seed);
            switch (seed % 4) {
                case 0: test.mixed(); break;
                case 1: test.units(); break;
                case 2: test.program(); break;
                default: test.bigText(); break;
            }
        }
        Expect.finish();
    }

    private int pick(int bound) {
        return random.nextInt(bound);
    }

    private void same(String call, int got, int want) {
        calls++;
        if (calls <= 512) {
            Expect.due("seed " + seed + ", call " + calls + ": " + call, got, want);
        }
    }

    private void put(int c) {
        same("put(" + c + ")", desk.put(c), model.put(c));
    }

    private void line(String line) {
        for (int i = 0; i < line.length(); i++) {
            put(line.charAt(i));
        }
        same("line() of " + line, desk.line(), model.line());
    }

    private void state(int what) {
        same("state(" + what + ")", desk.state(what), model.state(what));
    }

    private void item(int i, int what) {
        same("item(" + i + ", " + what + ")", desk.item(i, what), model.item(i, what));
    }

    private void assemble() {
        same("assemble()", desk.assemble(), model.assemble());
    }

    private void unit(int i) {
        same("unit(" + i + ")", desk.unit(i), model.unit(i));
    }

    private void set(int i, int w) {
        same("set(" + i + ", " + w + ")", desk.set(i, w), model.set(i, w));
    }

    private void read(int a, int what) {
        same("read(" + a + ", " + what + ")", desk.read(a, what), model.read(a, what));
    }

    private void told(int a, int k) {
        same("told(" + a + ", " + k + ")", desk.told(a, k), model.told(a, k));
    }

    private void check() {
        same("check()", desk.check(), model.check());
    }

    private void run(int n) {
        same("run(" + n + ")", desk.run(n), model.run(n));
    }

    private void clear() {
        same("clear()", desk.clear(), model.clear());
    }

    private String anyLine(int registers, int numbers, int labels) {
        StringBuilder line = new StringBuilder();
        String form = PLAIN[pick(PLAIN.length)];
        for (int i = 0; i < form.length(); i++) {
            switch (form.charAt(i)) {
                case 'R': line.append('v').append(pick(registers)); break;
                case 'N': line.append(NUMBERS[pick(numbers)]); break;
                case 'L': line.append(':').append((char) ('a' + pick(labels))); break;
                default: line.append(form.charAt(i)); break;
            }
        }
        return line.toString();
    }

    /** A line with a character changed, doubled or left out. */
    private String spoiled(String line) {
        int at = pick(line.length());
        String odd = " ,;:v0-a\0\u00ff";
        switch (pick(3)) {
            case 0: return line.substring(0, at) + odd.charAt(pick(odd.length())) + line.substring(at + 1);
            case 1: return line.substring(0, at) + odd.charAt(pick(odd.length())) + line.substring(at);
            default: return line.substring(0, at) + line.substring(at + 1);
        }
    }

    private void look() {
        state(pick(27) - 1);
        item(pick(12) - 1, pick(5) - 1);
        unit(pick(20) - 1);
        read(pick(20) - 1, pick(14) - 1);
        told(pick(20) - 1, pick(20) - 2);
    }

    private void mixed() {
        while (calls < 512) {
            switch (pick(10)) {
                case 0: assemble(); break;
                case 1: check(); break;
                case 2: run(pick(32)); break;
                case 3: look(); break;
                case 4: line(spoiled(anyLine(17, NUMBERS.length, 20))); break;
                case 5: put(pick(300) - 20); break;
                case 6: if (pick(6) == 0) { clear(); } break;
                case 7: set(pick(30) - 1, pick(65540) - 2); break;
                default: line(anyLine(17, NUMBERS.length, 16)); break;
            }
        }
    }

    private int anyUnit() {
        switch (pick(4)) {
            case 0: return pick(65536);
            case 1: return pick(6);
            case 2: return 65536 - 1 - pick(6);
            default:
                int op = OPS[pick(OPS.length)];
                return op % 256 == 0 ? op : op + 256 * (pick(3) == 0 ? pick(256) : pick(12));
        }
    }

    private void units() {
        int many = 4 + pick(20);
        for (int i = 0; i < many; i++) {
            set(i, anyUnit());
        }
        while (calls < 500) {
            check();
            int a = pick(many + 2) - 1;
            for (int what = 0; what < 12; what++) {
                read(a, what);
            }
            int length = model.told(a, -1);
            for (int k = -1; k <= length; k++) {
                told(a, k);
            }
            run(1 + pick(3));
            state(16);
            state(pick(20));
            set(pick(many), anyUnit());
            if (pick(4) == 0) {
                assemble();
                for (int i = 0; i < many; i++) {
                    set(i, anyUnit());
                }
            }
        }
    }

    private void program() {
        int labels = 1 + pick(4);
        int many = 4 + pick(10);
        int[] at = new int[labels];
        for (int k = 0; k < labels; k++) {
            at[k] = pick(many + 1);
        }
        for (int i = 0; i <= many; i++) {
            for (int k = 0; k < labels; k++) {
                if (at[k] == i) {
                    line(":" + (char) ('a' + k));
                }
            }
            if (i < many) {
                String line = anyLine(4, 4, labels);
                line(line.startsWith(":") ? "nop" : line);
            }
        }
        assemble();
        int units = model.state(20);
        for (int i = 0; i <= units; i++) {
            unit(i);
        }
        check();
        for (int round = 0; round < 6; round++) {
            run(1 + pick(6));
            for (int what = 0; what < 4; what++) {
                state(what);
            }
            for (int what = 16; what < 20; what++) {
                state(what);
            }
        }
    }

    /** Labels of one letter and lines that make many units of few characters, for jumps that hardly reach. */
    private void bigText() {
        int standing = 0;
        int turn = 0;
        while (calls < 470 && turn < 60) {
            turn++;
            int choice = pick(12);
            if (choice < 6) {
                line("cases 0 :a :a");
            } else if (choice < 8) {
                line("jump :" + (char) ('a' + pick(5)));
            } else if (choice < 10) {
                line("nop");
            } else if (choice == 10 && standing < 5) {
                line(":" + (char) ('a' + standing));
                standing++;
            } else {
                state(24);
            }
        }
        for (int k = standing; k < 5; k++) {
            line(":" + (char) ('a' + k));
        }
        state(24);
        assemble();
        int items = model.state(21);
        for (int i = 0; i < 6; i++) {
            item(pick(items), 1 + pick(2));
            unit(pick(200));
        }
        check();
    }
}
