/** Promise 13: state. */
public final class Promise13StateTest {
    public static void main(String[] args) {
        everyRegister();
        counts();
        machine();
        longJumps();
        others();
        Expect.finish();
    }

    private static void everyRegister() {
        Expect.sentence("What 0 to 15: that REGISTER");
        Desk desk = new Desk();
        for (int r = 0; r < 16; r++) {
            desk.accept("const v" + r + " " + (100 + r));
        }
        desk.assemble();
        desk.run(16);
        for (int r = 0; r < 16; r++) {
            Expect.due("state(" + r + ")", desk.state(r), 100 + r);
        }
    }

    private static void counts() {
        Expect.sentence("20: UNITS, 21: ITEMS, 22: LABELS; 23: characters in the DRAFT");
        Desk desk = Desk.of(":a", "const v0 9", "cases 1 :a :b", ":b");
        desk.type("no");
        Expect.due("units before assemble()", desk.state(20), 0);
        Expect.due("items", desk.state(21), 2);
        Expect.due("labels", desk.state(22), 2);
        Expect.due("characters", desk.state(23), 2);
        desk.assemble();
        Expect.due("units", desk.state(20), 7);
        desk.set(7, 0);
        Expect.due("units after set", desk.state(20), 8);
    }

    private static void machine() {
        Expect.sentence("steps since assemble, 18: 0 if the machine goes on, 1 if it stopped by ret, 2 by BAD; 19: the OUTCOME (0 before)");
        Desk desk = Desk.of("const v3 9", "nop", "ret v3");
        desk.assemble();
        desk.run(1);
        Expect.due("the place", desk.state(16), 2);
        Expect.due("steps", desk.state(17), 1);
        Expect.due("it goes on", desk.state(18), 0);
        Expect.due("the outcome before ret", desk.state(19), 0);
        desk.run(2);
        Expect.due("the place of ret", desk.state(16), 3);
        Expect.due("steps with ret", desk.state(17), 3);
        Expect.due("stopped by ret", desk.state(18), 1);
        Expect.due("the outcome", desk.state(19), 9);
        Desk bad = Desk.ofUnits(0, 2);
        bad.run(2);
        Expect.due("steps before BAD", bad.state(17), 1);
        Expect.due("stopped by BAD", bad.state(18), 2);
    }

    private static void longJumps() {
        Expect.sentence("24: jumps in the TEXT that are LONG, as for item");
        Desk desk = Desk.of(":a", "jump :a");
        Expect.due("a jump to itself", desk.state(24), 1);
        desk.accept("jump :a");
        Expect.due("and a short one", desk.state(24), 1);
        desk.accept(":b");
        desk.accept("jump :b");
        Expect.due("and another to itself", desk.state(24), 2);
        desk.accept("jz v0 :b");
        desk.accept("const v0 9");
        Expect.due("no other items count", desk.state(24), 2);
        desk.clear();
        Expect.due("after clear()", desk.state(24), 0);
        desk.accept("jump :c");
        Expect.due("a label that is not set means 0", desk.state(24), 1);
        Desk refused = Desk.of(":a", "nop");
        refused.line("jump");
        refused.accept(":b");
        Expect.due("a jump that was not taken", refused.state(24), 0);
    }

    private static void others() {
        Expect.sentence("NONE for others");
        Desk desk = new Desk();
        int[] whats = {-1, 25, 100, Integer.MIN_VALUE, Integer.MAX_VALUE};
        for (int what : whats) {
            Expect.due("state(" + what + ")", desk.state(what), -2);
        }
    }
}
