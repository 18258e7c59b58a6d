/** Promise 9: read. */
public final class Promise09ReadTest {
    private static final int NONE = -2;

    public static void main(String[] args) {
        everyKind();
        bitsThatDoNotMatter();
        signs();
        goals();
        cases();
        whatCanNotBeRead();
        everyOp();
        wrongInputs();
        Expect.finish();
    }

    private static void all(Desk desk, int a, int... want) {
        for (int what = 0; what < want.length; what++) {
            Expect.due("read(" + a + ", " + what + ") of \"" + desk.tell(a) + "\"", desk.read(a, what), want[what]);
        }
    }

    private static void one(int first, int second, int... want) {
        all(Desk.ofUnits(first, second), 0, want);
    }

    private static void everyKind() {
        Expect.sentence("NONE if it has no such thing");
        one(0, 0, 0, 1, NONE, NONE, NONE, NONE, NONE, NONE, NONE, NONE, NONE, NONE);
        one(1 + 256 * 3 + 4096 * 14, 0, 1, 1, 3, 14, NONE, NONE, NONE, NONE, NONE, NONE, NONE, NONE);
        one(15 + 256 * 12, 0, 15, 1, 12, NONE, NONE, NONE, NONE, NONE, NONE, NONE, NONE, NONE);
        one(18 + 256 * 5 + 4096 * 7, 0, 18, 1, 5, NONE, NONE, 7, NONE, NONE, NONE, NONE, NONE, NONE);
        one(19 + 256 * 5, 300, 19, 2, 5, NONE, NONE, 300, NONE, NONE, NONE, NONE, NONE, NONE);
        for (int op = 144; op <= 146; op++) {
            one(op + 256 * 15, 9 + 256 * 8, op, 2, 15, 9, 8, NONE, NONE, NONE, NONE, NONE, NONE, NONE);
        }
        one(216 + 256 * 2, 4 + 256 * 100, 216, 2, 2, 4, NONE, 100, NONE, NONE, NONE, NONE, NONE, NONE);
        one(40 + 256 * 9, 0, 40, 1, NONE, NONE, NONE, NONE, 9, NONE, NONE, NONE, NONE, NONE);
        one(41, 900, 41, 2, NONE, NONE, NONE, NONE, 900, NONE, NONE, NONE, NONE, NONE);
        one(50 + 256 * 6 + 4096 * 7, 1, 50, 2, 6, 7, NONE, NONE, 1, NONE, NONE, NONE, NONE, NONE);
        one(51 + 256 * 6 + 4096 * 7, 1, 51, 2, 6, 7, NONE, NONE, 1, NONE, NONE, NONE, NONE, NONE);
        one(56 + 256 * 6, 1, 56, 2, 6, NONE, NONE, NONE, 1, NONE, NONE, NONE, NONE, NONE);
        one(43 + 256 * 6, 1, 43, 2, 6, NONE, NONE, NONE, 1, NONE, NONE, NONE, NONE, NONE);
    }

    private static void bitsThatDoNotMatter() {
        Expect.sentence("Bits that are not named do not matter");
        one(15 + 256 * 0xf1, 0, 15, 1, 1);
        one(19 + 256 * 0xf2, 5, 19, 2, 2, NONE, NONE, 5);
        one(144 + 256 * 0xf3, 0xf1f2, 144, 2, 3, 2, 1);
        one(216 + 256 * 0xf4, 0x01f5, 216, 2, 4, 5, NONE, 1);
        one(41 + 256 * 0xff, 3, 41, 2, NONE, NONE, NONE, NONE, 3);
        one(56 + 256 * 0xf6, 3, 56, 2, 6, NONE, NONE, NONE, 3);
        one(43 + 256 * 0xf7, 3, 43, 2, 7, NONE, NONE, NONE, 3);
    }

    private static void signs() {
        Expect.sentence("5: its NUMBER");
        Expect.due("four bits 7", Desk.ofUnits(18 + 4096 * 7).read(0, 5), 7);
        Expect.due("four bits 8", Desk.ofUnits(18 + 4096 * 8).read(0, 5), -8);
        Expect.due("four bits 15", Desk.ofUnits(18 + 4096 * 15).read(0, 5), -1);
        Expect.due("eight bits 127", Desk.ofUnits(216, 256 * 127).read(0, 5), 127);
        Expect.due("eight bits 128", Desk.ofUnits(216, 256 * 128).read(0, 5), -128);
        Expect.due("eight bits 255", Desk.ofUnits(216, 256 * 255).read(0, 5), -1);
        Expect.due("sixteen bits 32767", Desk.ofUnits(19, 32767).read(0, 5), 32767);
        Expect.due("sixteen bits 32768", Desk.ofUnits(19, 32768).read(0, 5), -32768);
        Expect.due("sixteen bits 65535", Desk.ofUnits(19, 65535).read(0, 5), -1);
    }

    private static void goals() {
        Expect.sentence("6: the ADDRESS that it goes to (a and d; below 0 or behind the end, too)");
        Expect.due("a short jump by 127", Desk.ofUnits(0, 40 + 256 * 127).read(1, 6), 128);
        Expect.due("a short jump by -128", Desk.ofUnits(0, 40 + 256 * 128).read(1, 6), -127);
        Expect.due("a long jump by 32767", Desk.ofUnits(0, 41, 32767).read(1, 6), 32768);
        Expect.due("a long jump by -32768", Desk.ofUnits(0, 41, 32768).read(1, 6), -32767);
        Expect.due("jeq by -1", Desk.ofUnits(0, 50, 65535).read(1, 6), 0);
        Expect.due("jlt by 0", Desk.ofUnits(0, 51, 0).read(1, 6), 1);
        Expect.due("jz by -2", Desk.ofUnits(56, 65534).read(0, 6), -2);
        Expect.due("table by 5", Desk.ofUnits(0, 43, 5).read(1, 6), 6);
    }

    private static void cases() {
        Expect.sentence("7: how many LABELS cases has; 8 + k: d of LABEL k of it (k 0 to 3)");
        Desk four = Desk.ofUnits(256, 4, 65535, 1, 65535, 32768, 32767);
        all(four, 0, 256, 7, NONE, NONE, NONE, -1, NONE, 4, 1, -1, -32768, 32767);
        Desk one = Desk.ofUnits(0, 256, 1, 7, 9, 0);
        all(one, 1, 256, 4, NONE, NONE, NONE, 7, NONE, 1, 9, NONE, NONE, NONE);
        Expect.due("cases with 3 labels: the fourth", Desk.ofUnits(256, 3, 0, 1, 2, 3, 4).read(0, 11), NONE);
        Expect.due("cases with 3 labels: the third", Desk.ofUnits(256, 3, 0, 1, 2, 3, 4).read(0, 10), 3);
    }

    private static void bad(int... units) {
        Expect.due("read(0, 0) of " + java.util.Arrays.toString(units), Desk.ofUnits(units).read(0, 0), -7);
    }

    private static void whatCanNotBeRead() {
        Expect.sentence("BAD if nothing can be read there");
        int[] needTwo = {19, 144, 145, 146, 216, 41, 50, 51, 56, 43};
        for (int op : needTwo) {
            bad(op);
        }
        bad(256);
        bad(256, 1);
        bad(256, 1, 0);
        bad(256, 2, 0, 0);
        bad(256, 4, 0, 0, 0, 0);
        bad(256, 0, 0, 0, 0, 0, 0, 0);
        bad(256, 5, 0, 0, 0, 0, 0, 0, 0);
        bad(256, 257, 0, 0, 0, 0, 0, 0);
        bad(256, 65535, 0, 0, 0, 0, 0, 0);
        bad(512, 1, 0, 0);
        bad(65280, 1, 0, 0);
        bad(768, 1, 0, 0);
    }

    /** Of all 256 OPs just those of the document can be read. */
    private static void everyOp() {
        Expect.sentence("BAD if nothing can be read there");
        String known = " 1 15 18 19 144 145 146 216 40 41 50 51 56 43 ";
        for (int op = 1; op < 256; op++) {
            boolean isKnown = known.contains(" " + op + " ");
            Expect.due("read(0, 0) of OP " + op, Desk.ofUnits(256 * 0xab + op, 1).read(0, 0), isKnown ? op : -7);
        }
        for (int unit = 0; unit < 65536; unit += 256) {
            int want = unit == 0 || unit == 256 ? unit : -7;
            Expect.due("read(0, 0) of unit " + unit, Desk.ofUnits(unit, 1, 0, 0).read(0, 0), want);
        }
    }

    private static void wrongInputs() {
        Expect.sentence("REFUSED for another what; BAD if nothing can be read there (or a is not that of a UNIT)");
        Desk desk = Desk.ofUnits(0, 2);
        int[] whats = {-1, 12, Integer.MIN_VALUE, Integer.MAX_VALUE};
        for (int what : whats) {
            Expect.due("read(0, " + what + ")", desk.read(0, what), -1);
            Expect.due("read(9, " + what + ")", desk.read(9, what), -1);
        }
        int[] addresses = {-1, 2, 200, Integer.MIN_VALUE, Integer.MAX_VALUE};
        for (int a : addresses) {
            Expect.due("read(" + a + ", 0)", desk.read(a, 0), -7);
        }
        Expect.due("read(1, 4), which is BAD before NONE", desk.read(1, 4), -7);
    }
}
