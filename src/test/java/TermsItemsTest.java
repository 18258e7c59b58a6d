/** "Terms": the table of LINES with their sizes and units, row by row. */
public final class TermsItemsTest {
    private static final int ARGUMENT = -5;

    public static void main(String[] args) {
        nop();
        move();
        ret();
        constant();
        constantThatIsTooLarge();
        threeRegisters();
        addi();
        jump();
        twoRegistersAndLabel();
        oneRegisterAndLabel();
        table();
        casesUnits();
        casesCounts();
        casesBehindAnOddNumber();
        labelsBeforeTheUnitThatBelongsToNoItem();
        modIsNeverBelowNought();
        distanceInCases();
        Expect.finish();
    }

    /** The units of the text, and of its last ITEM how many units it has. */
    private static void units(String want, int size, String... lines) {
        Desk desk = Desk.of(lines);
        String name = String.join(" / ", lines);
        Expect.due("units of the last item of " + name, desk.item(desk.state(21) - 1, 2), size);
        Expect.due("assemble() of " + name, desk.assemble(), want.split(" ").length);
        Expect.same("the code of " + name, desk.units(), want);
    }

    private static void refused(String... lines) {
        for (String line : lines) {
            Desk desk = new Desk();
            Expect.due("line \"" + line + "\"", desk.line(line), ARGUMENT);
            Expect.due("items then", desk.state(21), 0);
            Expect.due("labels then", desk.state(22), 0);
        }
    }

    private static void nop() {
        Expect.sentence("nop 1 unit: 0");
        units("0", 1, "nop");
        units("0 0", 1, "nop", "nop");
        refused("nop v0", "nop 0", "nop :a");
    }

    private static void move() {
        Expect.sentence("move A B 1 unit: 1, A, B (that is 1 + 256 A + 4096 B)");
        units("1", 1, "move v0 v0");
        units("3841", 1, "move v15 v0");
        units("61441", 1, "move v0 v15");
        units("65281", 1, "move v15 v15");
        units("8449", 1, "move v1 v2");
        refused("move", "move v1", "move v1 v2 v3", "move v1 2", "move v1 :a", "move 1 v2");
    }

    private static void ret() {
        Expect.sentence("ret A 1 unit: 15, A (15 + 256 A)");
        units("15", 1, "ret v0");
        units("3855", 1, "ret v15");
        refused("ret", "ret v1 v2", "ret 1", "ret :a");
    }

    private static void constant() {
        Expect.sentence("const A n n from -8 to 7: 1 unit: 18 + 256 A + 4096 (n mod 16)");
        units("18", 1, "const v0 0");
        units("28690", 1, "const v0 7");
        units("32786", 1, "const v0 -8");
        units("61458", 1, "const v0 -1");
        units("65298", 1, "const v15 -1");
        Expect.sentence("else, n from -32768 to 32767: 2 units: 19 + 256 A; n mod 65536");
        units("19 8", 2, "const v0 8");
        units("19 65527", 2, "const v0 -9");
        units("3859 32767", 2, "const v15 32767");
        units("3859 32768", 2, "const v15 -32768");
        refused("const", "const v1", "const v1 1 1", "const 1 v1", "const v1 v1", "const v1 :a");
    }

    private static void constantThatIsTooLarge() {
        Expect.sentence("else, n from -32768 to 32767");
        refused("const v0 32768", "const v0 -32769", "const v0 65535", "const v0 -65536", "const v0 99999", "const v0 -99999");
    }

    private static void threeRegisters() {
        Expect.sentence("add A B C 2 units: 144 + 256 A; B + 256 C. sub A B C, mul A B C: likewise with 145, 146");
        String[] words = {"add", "sub", "mul"};
        for (int k = 0; k < words.length; k++) {
            units((144 + k) + " 0", 2, words[k] + " v0 v0 v0");
            units((3984 + k) + " 0", 2, words[k] + " v15 v0 v0");
            units((144 + k) + " 15", 2, words[k] + " v0 v15 v0");
            units((144 + k) + " 3840", 2, words[k] + " v0 v0 v15");
            refused(words[k], words[k] + " v1 v2", words[k] + " v1 v2 v3 v4", words[k] + " v1 v2 3", words[k] + " v1 v2 :a");
        }
    }

    private static void addi() {
        Expect.sentence("addi A B n n from -128 to 127: 2 units: 216 + 256 A; B + 256 (n mod 256)");
        units("216 0", 2, "addi v0 v0 0");
        units("4056 0", 2, "addi v15 v0 0");
        units("216 15", 2, "addi v0 v15 0");
        units("216 32512", 2, "addi v0 v0 127");
        units("216 32768", 2, "addi v0 v0 -128");
        units("216 65280", 2, "addi v0 v0 -1");
        refused("addi v0 v0 128", "addi v0 v0 -129", "addi v0 v0 255", "addi v0 v0 256", "addi v0 v0 -256", "addi v0 v0 32767");
        refused("addi", "addi v0 v0", "addi v0 v0 1 1", "addi v0 1 v0", "addi v0 v0 v0", "addi v0 v0 :a");
    }

    private static void jump() {
        Expect.sentence("jump L SHORT: 1 unit: 40 + 256 (d mod 256); LONG: 2 units: 41; d mod 65536");
        units("296", 1, "jump :a", ":a");
        units("0 65320", 1, ":a", "nop", "jump :a");
        units("41 0", 2, ":a", "jump :a");
        refused("jump", "jump :a :b", "jump 0", "jump v0", "jump a");
    }

    private static void twoRegistersAndLabel() {
        Expect.sentence("jeq A B L 2 units: 50 + 256 A + 4096 B; d mod 65536. jlt A B L: likewise with 51");
        String[] words = {"jeq", "jlt"};
        for (int k = 0; k < words.length; k++) {
            units((50 + k) + " 2", 2, words[k] + " v0 v0 :a", ":a");
            units((3890 + k) + " 2", 2, words[k] + " v15 v0 :a", ":a");
            units((61490 + k) + " 2", 2, words[k] + " v0 v15 :a", ":a");
            units("0 " + (50 + k) + " 65535", 2, ":a", "nop", words[k] + " v0 v0 :a");
            units((50 + k) + " 0", 2, ":a", words[k] + " v0 v0 :a");
            refused(words[k], words[k] + " v0 :a", words[k] + " v0 v0", words[k] + " v0 v0 :a :a", words[k] + " v0 v0 0",
                words[k] + " v0 v0 v0");
        }
    }

    private static void oneRegisterAndLabel() {
        Expect.sentence("jz A L 2 units: 56 + 256 A; d mod 65536");
        units("56 2", 2, "jz v0 :a", ":a");
        units("3896 2", 2, "jz v15 :a", ":a");
        units("0 56 65535", 2, ":a", "nop", "jz v0 :a");
        refused("jz", "jz v0", "jz :a", "jz v0 v0 :a", "jz v0 :a :a", "jz v0 0");
    }

    private static void table() {
        Expect.sentence("table A L 2 units: 43 + 256 A; d mod 65536: L must stand before an ITEM cases");
        units("256 1 0 0 43 65532", 2, ":a", "cases 0 :a", "table v0 :a");
        units("256 1 0 0 3883 65532", 2, ":a", "cases 0 :a", "table v15 :a");
        units("43 2 256 1 0 2", 4, "table v0 :a", ":a", "cases 0 :a");
        refused("table", "table v0", "table :a", "table v0 v0 :a", "table v0 :a :a", "table v0 0");
        Expect.due("table to nop", Desk.of(":a", "nop", "table v0 :a").assemble(), -7);
        Expect.due("table to the end", Desk.of("cases 0 :a", "table v0 :a", ":a").assemble(), -7);
        Expect.due("table to what is behind cases", Desk.of("table v0 :a", "cases 0 :a", ":a", "nop").assemble(), -7);
    }

    private static void casesUnits() {
        Expect.sentence("3 units and one for each LABEL: 256; how many LABELS; n mod 65536; then d mod 65536 for each");
        units("256 1 5 0", 4, ":a", "cases 5 :a");
        units("256 2 0 0 5", 5, ":a", "cases 0 :a :b", ":b");
        units("256 3 65535 0 6 0", 6, ":a", "cases -1 :a :b :a", ":b");
        units("256 4 65528 7 0 0 7", 7, ":a", "cases -8 :b :a :a :b", ":b");
        units("256 1 32767 0", 4, ":a", "cases 32767 :a");
        units("256 1 32768 0", 4, ":a", "cases -32768 :a");
        units("256 1 7 0", 4, ":a", "cases 7 :a");
        units("256 1 8 0", 4, ":a", "cases 8 :a");
    }

    private static void casesCounts() {
        Expect.sentence("cases n L .. n as for the longer const, 1 to 4 LABELS");
        refused("cases", "cases 1", "cases :a", "cases :a :b", "cases :a 1", "cases 1 2 :a", "cases 1 :a 2", "cases v1 :a", "cases 1 v1",
            "cases 1 :a v1", "cases 1 :a :b :c :d :e", "cases 1 :a :a :a :a :a", "cases 1 :a :a :a :a 1");
        refused("cases 32768 :a", "cases -32769 :a", "cases 65535 :a", "cases 99999 :a");
    }

    private static void casesBehindAnOddNumber() {
        Expect.sentence("If the units before it are an odd number, one unit 0 stands before it, which belongs to no ITEM");
        units("256 1 7 0", 4, ":a", "cases 7 :a");
        units("0 0 256 1 7 0", 4, ":a", "nop", "cases 7 :a");
        units("0 0 256 1 7 0", 4, ":a", "nop", "nop", "cases 7 :a");
        units("0 0 0 0 256 1 7 0", 4, ":a", "nop", "nop", "nop", "cases 7 :a");
        units("256 2 7 0 0 0 256 1 8 0", 4, ":a", "cases 7 :a :a", "cases 8 :a");
        units("256 1 7 0 256 2 8 0 0", 5, ":a", "cases 7 :a", "cases 8 :a :a");
        units("15 0 256 2 7 0 0 0", 1, ":a", "ret v0", "cases 7 :a :a", "nop");
        units("19 9 19 9 256 1 7 0", 4, ":a", "const v0 9", "const v0 9", "cases 7 :a");
        Desk desk = Desk.of(":a", "nop", "cases 7 :a", "nop", "cases 7 :a");
        Expect.due("address of the first cases", desk.item(1, 1), 2);
        Expect.due("its units, without the one before it", desk.item(1, 2), 4);
        Expect.due("units of the item before the second", desk.item(2, 2), 1);
        Expect.due("address of the second cases", desk.item(3, 1), 8);
        Expect.due("items", desk.state(21), 4);
    }

    private static void labelsBeforeTheUnitThatBelongsToNoItem() {
        Expect.sentence("LABELS before it mean the ITEM, not that unit");
        units("552 0 256 1 1 2", 4, "jump :x", ":x", ":y", "cases 1 :y");
        units("0 56 3 0 256 1 1 4", 4, "nop", "jz v0 :x", ":x", "cases 1 :x");
        units("15 0 256 1 1 2 64552", 1, "ret v0", ":x", "cases 1 :x", "jump :x");
        units("0 43 3 0 256 1 1 3", 4, "nop", "table v0 :x", ":x", "cases 1 :x");
    }

    private static void modIsNeverBelowNought() {
        Expect.sentence("(x mod m is from 0 to m - 1.)");
        units("0 43 3 0 256 1 32768 65535", 4, ":a", "nop", "table v0 :c", ":c", "cases -32768 :a");
        units("0 0 0 56 65533", 2, ":a", "nop", "nop", "nop", "jz v0 :a");
        units("0 0 0 64808", 1, ":a", "nop", "nop", "nop", "jump :a");
    }

    private static void distanceInCases() {
        Expect.sentence("in cases less the ADDRESS of the latest ITEM table before it in the text, 0 without one");
        units("0 0 256 1 0 6", 4, "nop", "nop", "cases 0 :b", ":b");
        units("0 0 256 1 0 2 43 65532", 2, "nop", "nop", ":c", "cases 0 :c", "table v0 :c");
        units("43 4 43 6 256 1 0 2 256 1 0 6", 4, "table v0 :c", "table v0 :e", ":c", "cases 0 :c", ":e", "cases 0 :e");
        units("43 2 256 1 0 2 43 2 256 1 0 65532", 4, "table v0 :c", ":c", "cases 0 :c", "table v0 :e", ":e", "cases 0 :c");
        units("0 0 43 4 43 2 256 1 0 2", 4, "nop", "nop", "table v0 :c", "table v0 :c", ":c", "cases 0 :c");
        units("0 43 5 43 3 0 256 1 0 65533 256 1 0 65533", 4, ":a", "nop", "table v0 :c", "table v0 :c", ":c", "cases 0 :a", "cases 0 :a");
        Expect.sentence("d is the ADDRESS that L means, less the ADDRESS of the ITEM");
        units("0 56 65535 56 65533", 2, ":a", "nop", "jz v0 :a", "jz v0 :a");
        units("56 5 0 56 2", 2, "jz v0 :a", "nop", "jz v0 :a", ":a");
    }
}
