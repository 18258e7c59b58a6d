/** Promise 1: the DRAFT, TEXT and CODE are empty, all REGISTERS 0, the PLACE 0. */
public final class Promise01NewObjectTest {
    public static void main(String[] args) {
        allIsNought();
        objectsAreApart();
        Expect.finish();
    }

    private static void allIsNought() {
        Expect.sentence("The DRAFT, TEXT and CODE are empty, all REGISTERS 0, the PLACE 0");
        Desk desk = new Desk();
        for (int what = 0; what <= 24; what++) {
            Expect.due("state(" + what + ") of a new object", desk.state(what), 0);
        }
        Expect.due("unit(0)", desk.unit(0), -2);
        Expect.due("item(0, 0)", desk.item(0, 0), -2);
        Expect.due("read(0, 0)", desk.read(0, 0), -7);
        Expect.due("told(0, -1)", desk.told(0, -1), -7);
        Expect.due("check()", desk.check(), -2);
        Expect.due("clear()", desk.clear(), 0);
        Expect.due("line()", desk.line(), -4);
        Expect.due("assemble()", desk.assemble(), 0);
    }

    private static void objectsAreApart() {
        Expect.sentence("The DRAFT, TEXT and CODE are empty, all REGISTERS 0, the PLACE 0");
        Desk one = Desk.of(":a", "const v3 9", "jump :a");
        one.assemble();
        one.run(1);
        one.type("nop");
        Desk other = new Desk();
        for (int what = 0; what <= 24; what++) {
            Expect.due("state(" + what + ") beside a used object", other.state(what), 0);
        }
        Expect.due("state(3) of the used object", one.state(3), 9);
    }
}
