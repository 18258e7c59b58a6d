/** Promise 6: item. */
public final class Promise06ItemTest {
    public static void main(String[] args) {
        opsAddressesAndUnits();
        labelsThatAreNotSet();
        wrongInputs();
        Expect.finish();
    }

    private static void items(Desk desk, int what, int... want) {
        for (int i = 0; i < want.length; i++) {
            Expect.due("item(" + i + ", " + what + ")", desk.item(i, what), want[i]);
        }
        Expect.due("item behind the last", desk.item(want.length, what), -2);
    }

    private static void opsAddressesAndUnits() {
        Expect.sentence("its OP (18 for both forms of const; 40 for both of jump; 0 for nop; 256 for cases) .. its ADDRESS");
        Desk desk = Desk.of("nop", "move v1 v2", "ret v1", "const v1 7", "const v1 8", "add v1 v2 v3", "sub v1 v2 v3",
            "mul v1 v2 v3", "addi v1 v2 3", ":a", "jump :a", "jump :b", "jeq v1 v2 :b", "jlt v1 v2 :b", "jz v1 :b",
            "table v1 :b", "nop", ":b", "cases 1 :b", "cases 1 :a :a", "cases 1 :a :a :a", "cases 1 :a :a :a :a");
        items(desk, 0, 0, 1, 15, 18, 18, 144, 145, 146, 216, 40, 40, 50, 51, 56, 43, 0, 256, 256, 256, 256);
        items(desk, 1, 0, 1, 2, 3, 4, 6, 8, 10, 12, 14, 16, 17, 19, 21, 23, 25, 26, 30, 36, 42);
        items(desk, 2, 1, 1, 1, 1, 2, 2, 2, 2, 2, 2, 1, 2, 2, 2, 2, 1, 4, 5, 6, 7);
        Expect.due("items are those of the TEXT, not of the CODE", desk.state(20), 0);
    }

    private static void labelsThatAreNotSet() {
        Expect.sentence("as they would be if the LABELS that are not set meant ADDRESS 0");
        Desk desk = Desk.of("jump :x");
        Expect.due("units of a jump from 0 to 0", desk.item(0, 2), 2);
        Expect.due("long jumps", desk.state(24), 1);
        desk.accept("jump :x");
        Expect.due("units of a jump from 2 to 0", desk.item(1, 2), 1);
        desk.accept(":x");
        Expect.due("the first, when the label is set", desk.item(0, 2), 1);
        Expect.due("the second then", desk.item(1, 1), 1);
        Expect.due("long jumps then", desk.state(24), 0);
        desk.accept("nop");
        Expect.due("the label stands before the next item", desk.item(2, 1), 2);
        Desk far = new Desk();
        for (int i = 0; i < 22; i++) {
            far.accept("cases 0 :a :a");
        }
        far.accept("jump :a");
        far.accept("nop");
        Expect.due("units of a jump from 131 to 0", far.item(22, 2), 2);
        Expect.due("address of the next", far.item(23, 1), 133);
    }

    private static void wrongInputs() {
        Expect.sentence("REFUSED for another what; NONE if there is no such ITEM");
        Desk desk = Desk.of("nop");
        int[] whats = {-1, 3, 18, Integer.MIN_VALUE, Integer.MAX_VALUE};
        for (int what : whats) {
            Expect.due("item(0, " + what + ")", desk.item(0, what), -1);
            Expect.due("item(5, " + what + ")", desk.item(5, what), -1);
        }
        int[] numbers = {-1, 1, 40, 41, Integer.MIN_VALUE, Integer.MAX_VALUE};
        for (int i : numbers) {
            Expect.due("item(" + i + ", 0)", desk.item(i, 0), -2);
        }
    }
}
