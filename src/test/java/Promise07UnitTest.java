/** Promise 7: unit. */
public final class Promise07UnitTest {
    public static void main(String[] args) {
        Expect.sentence("UNIT i of the CODE; NONE if there is none");
        Desk desk = Desk.of("const v0 -9", "move v15 v15");
        Expect.due("unit(0) before assemble()", desk.unit(0), -2);
        desk.assemble();
        Expect.due("unit(0)", desk.unit(0), 19);
        Expect.due("unit(1)", desk.unit(1), 65527);
        Expect.due("unit(2)", desk.unit(2), 65281);
        int[] numbers = {3, -1, 199, 200, Integer.MIN_VALUE, Integer.MAX_VALUE};
        for (int i : numbers) {
            Expect.due("unit(" + i + ")", desk.unit(i), -2);
        }
        desk.clear();
        Expect.due("unit(2) after clear()", desk.unit(2), 65281);
        desk.assemble();
        Expect.due("unit(0) of empty code", desk.unit(0), -2);
        Expect.finish();
    }
}
