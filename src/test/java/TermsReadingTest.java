import java.util.Arrays;

/** "Terms": READING the CODE, sentence by sentence. */
public final class TermsReadingTest {
    private static final int BAD = -7;
    private static final int NONE = -2;
    private static final int[] ONE_UNIT = {1, 15, 18, 40};
    private static final int[] TWO_UNITS = {19, 144, 145, 146, 216, 41, 50, 51, 56, 43};

    public static void main(String[] args) {
        lowestEightBitsAreTheOp();
        allUnitsItNeedsAreThere();
        unitsThatWereThereBefore();
        wholeUnitOfCases();
        oneToFourAsItsNext();
        allOfCasesIsThere();
        registersAreFourBits();
        halfOfFourBits();
        halfOfEightBits();
        halfOfSixteenBits();
        bitsThatAreNotNamed();
        opNoughtIsNoughtOr256();
        allElseIsBad();
        insideOtherThings();
        Expect.finish();
    }

    private static void due(int want, int what, int... units) {
        Expect.due("read(0, " + what + ") of " + Arrays.toString(units), Desk.ofUnits(units).read(0, what), want);
    }

    private static void lowestEightBitsAreTheOp() {
        Expect.sentence("a unit says by its lowest eight bits (its OP) what stands there");
        int[] above = {0, 1, 127, 128, 255};
        for (int high : above) {
            for (int op : ONE_UNIT) {
                due(op, 0, op + 256 * high);
                due(1, 1, op + 256 * high);
            }
            for (int op : TWO_UNITS) {
                due(op, 0, op + 256 * high, 65535);
                due(2, 1, op + 256 * high, 65535);
            }
        }
        due(0, 0, 0);
        due(1, 1, 0);
    }

    private static void allUnitsItNeedsAreThere() {
        Expect.sentence("as above, all units it needs being there");
        for (int op : ONE_UNIT) {
            due(op, 0, op);
        }
        for (int op : TWO_UNITS) {
            due(BAD, 0, op);
            due(op, 0, op, 0);
            Desk desk = Desk.ofUnits(0, 0, op);
            Expect.due("read(2, 0) with OP " + op + " at the end", desk.read(2, 0), BAD);
            desk.set(3, 0);
            Expect.due("read(2, 0) with a unit behind OP " + op, desk.read(2, 0), op);
        }
        Desk full = new Desk();
        for (int i = 0; i < 200; i++) {
            full.set(i, 19);
        }
        Expect.due("read(198, 1) of 200 units", full.read(198, 1), 2);
        Expect.due("read(199, 1) of 200 units", full.read(199, 1), BAD);
        full.set(199, 1);
        Expect.due("read(199, 1) of one unit there", full.read(199, 1), 1);
    }

    /** What a longer CODE has left behind is not there any more. */
    private static void unitsThatWereThereBefore() {
        Expect.sentence("as above, all units it needs being there");
        Desk desk = Desk.ofUnits(19, 5, 256, 1, 0, 0);
        desk.accept("nop");
        desk.assemble();
        desk.set(0, 19);
        Expect.due("read(0, 0) with one unit left", desk.read(0, 0), BAD);
        Expect.due("check()", desk.check(), 0);
        Expect.due("told(0, -1)", desk.told(0, -1), BAD);
        Expect.due("run(1)", desk.run(1), BAD);
        desk.set(0, 256);
        desk.set(1, 1);
        desk.set(2, 0);
        Expect.due("read(0, 0) of cases without its label", desk.read(0, 0), BAD);
        desk.set(3, 0);
        Expect.due("read(0, 0) of cases with its label", desk.read(0, 0), 256);
    }

    private static void wholeUnitOfCases() {
        Expect.sentence("and a unit 256 (the whole unit) cases");
        due(256, 0, 256, 1, 0, 0);
        due(BAD, 0, 512, 1, 0, 0);
        due(BAD, 0, 768, 1, 0, 0);
        due(BAD, 0, 4352, 1, 0, 0);
        due(BAD, 0, 33024, 1, 0, 0);
        due(1, 0, 257, 1, 0, 0);
    }

    private static void oneToFourAsItsNext() {
        Expect.sentence("with 1 to 4 as its next one");
        for (int many = 1; many <= 4; many++) {
            due(256, 0, 256, many, 0, 0, 0, 0, 0, 0);
            due(3 + many, 1, 256, many, 0, 0, 0, 0, 0, 0);
            due(many, 7, 256, many, 0, 0, 0, 0, 0, 0);
        }
        int[] others = {0, 5, 6, 255, 256, 257, 260, 32769, 65532, 65535};
        for (int many : others) {
            due(BAD, 0, 256, many, 0, 0, 0, 0, 0, 0, 0, 0);
        }
    }

    private static void allOfCasesIsThere() {
        Expect.sentence("and all of it being there");
        int[] whole = {256, 4, 1, 2, 3, 4, 5};
        for (int many = 1; many <= 4; many++) {
            whole[1] = many;
            for (int length = 1; length <= 7; length++) {
                due(length >= 3 + many ? 256 : BAD, 0, Arrays.copyOf(whole, length));
            }
        }
        Desk full = new Desk();
        for (int i = 0; i < 200; i++) {
            full.set(i, i % 2 == 0 ? 256 : 1);
        }
        Expect.due("read(196, 1) of 200 units", full.read(196, 1), 4);
        Expect.due("read(198, 1) of 200 units", full.read(198, 1), BAD);
        full.set(199, 256);
        Expect.due("read(199, 1) of 200 units", full.read(199, 1), BAD);
    }

    private static void registersAreFourBits() {
        Expect.sentence("A REGISTER is the four bits from where it stands");
        for (int r = 0; r <= 15; r++) {
            due(r, 2, 1 + 256 * r);
            due(r, 3, 1 + 4096 * r);
            due(r, 2, 144 + 256 * r, 0);
            due(r, 3, 145, r);
            due(r, 4, 146, 256 * r);
            due(r, 3, 216, r);
            due(r, 2, 50 + 256 * r, 0);
            due(r, 3, 51 + 4096 * r, 0);
        }
        due(0, 2, 1 + 4096 * 15);
        due(0, 3, 1 + 256 * 15);
        due(0, 3, 144, 65280);
        due(0, 4, 144, 255);
    }

    private static void halfOfFourBits() {
        Expect.sentence("below 0 if it is that much or more than half of what they can be (128, 32768; of four bits 8)");
        for (int n = 0; n <= 15; n++) {
            due(n < 8 ? n : n - 16, 5, 18 + 4096 * n);
        }
    }

    private static void halfOfEightBits() {
        Expect.sentence("below 0 if it is that much or more than half of what they can be (128, 32768; of four bits 8)");
        int[] values = {0, 1, 126, 127, 128, 129, 254, 255};
        for (int n : values) {
            due(n < 128 ? n : n - 256, 5, 216, 256 * n);
            due(n < 128 ? n : n - 256, 6, 40 + 256 * n);
        }
    }

    private static void halfOfSixteenBits() {
        Expect.sentence("below 0 if it is that much or more than half of what they can be (128, 32768; of four bits 8)");
        int[] values = {0, 1, 8, 128, 255, 32766, 32767, 32768, 32769, 65534, 65535};
        int[] going = {41, 50, 51, 56, 43};
        for (int n : values) {
            int want = n < 32768 ? n : n - 65536;
            due(want, 5, 19, n);
            due(want, 5, 256, 1, n, 0);
            due(want, 8, 256, 1, 0, n);
            for (int op : going) {
                due(want, 6, op, n);
            }
        }
    }

    private static void bitsThatAreNotNamed() {
        Expect.sentence("Bits that are not named do not matter");
        due(5, 2, 15 + 256 * 0xf5);
        due(5, 2, 19 + 256 * 0xf5, 7);
        due(7, 5, 19 + 256 * 0xf5, 7);
        for (int op = 144; op <= 146; op++) {
            due(5, 2, op + 256 * 0xf5, 0xf6f7);
            due(7, 3, op + 256 * 0xf5, 0xf6f7);
            due(6, 4, op + 256 * 0xf5, 0xf6f7);
        }
        due(5, 2, 216 + 256 * 0xf5, 0x06f7);
        due(7, 3, 216 + 256 * 0xf5, 0x06f7);
        due(6, 5, 216 + 256 * 0xf5, 0x06f7);
        due(9, 6, 41 + 256 * 0xff, 9);
        due(5, 2, 56 + 256 * 0xf5, 9);
        due(9, 6, 56 + 256 * 0xf5, 9);
        due(5, 2, 43 + 256 * 0xf5, 9);
        due(9, 6, 43 + 256 * 0xf5, 9);
    }

    private static void opNoughtIsNoughtOr256() {
        Expect.sentence("but a unit with OP 0 must be 0 or 256");
        for (int unit = 0; unit < 65536; unit += 256) {
            due(unit == 0 || unit == 256 ? unit : BAD, 0, unit, 1, 0, 0);
        }
    }

    private static void allElseIsBad() {
        Expect.sentence("All else is BAD");
        for (int op = 1; op < 256; op++) {
            int wanted = op;
            boolean known = Arrays.stream(ONE_UNIT).anyMatch(x -> x == wanted) || Arrays.stream(TWO_UNITS).anyMatch(x -> x == wanted);
            due(known ? op : BAD, 0, op, 1, 1, 1, 1, 1, 1);
            due(known ? op : BAD, 0, op + 256, 1, 1, 1, 1, 1, 1);
        }
        Desk desk = new Desk();
        Expect.due("read(0, 0) of no code", desk.read(0, 0), BAD);
    }

    /** READING begins at any ADDRESS, whatever stands before it. */
    private static void insideOtherThings() {
        Expect.sentence("READING the CODE at an ADDRESS");
        Desk desk = Desk.ofUnits(19, 256, 1, 15, 0);
        Expect.due("read(0, 0)", desk.read(0, 0), 19);
        Expect.due("read(1, 0)", desk.read(1, 0), 256);
        Expect.due("read(1, 5)", desk.read(1, 5), 15);
        Expect.due("read(2, 0)", desk.read(2, 0), 1);
        Expect.due("read(3, 0)", desk.read(3, 0), 15);
        Expect.due("read(4, 2)", desk.read(4, 2), NONE);
    }
}
