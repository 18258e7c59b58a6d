/** Promise 8: set. */
public final class Promise08SetTest {
    public static void main(String[] args) {
        changesAndAppends();
        wrongInputs();
        fullAtTwoHundred();
        machineGoesOnWithNewUnits();
        Expect.finish();
    }

    private static void changesAndAppends() {
        Expect.sentence("with i as many as there are a UNIT comes at the end: how many there are");
        Desk desk = new Desk();
        Expect.due("set(0, 65535)", desk.set(0, 65535), 1);
        Expect.due("set(1, 0)", desk.set(1, 0), 2);
        Expect.due("set(0, 7)", desk.set(0, 7), 2);
        Expect.same("the code", desk.units(), "7 0");
        Expect.due("units", desk.state(20), 2);
    }

    private static void wrongInputs() {
        Expect.sentence("REFUSED if w or i is not so");
        Desk desk = Desk.ofUnits(5, 6);
        String before = desk.snapshot();
        int[] values = {-1, 65536, Integer.MIN_VALUE, Integer.MAX_VALUE};
        for (int w : values) {
            Expect.due("set(0, " + w + ")", desk.set(0, w), -1);
            Expect.due("set(2, " + w + ")", desk.set(2, w), -1);
        }
        int[] numbers = {-1, 3, 200, Integer.MIN_VALUE, Integer.MAX_VALUE};
        for (int i : numbers) {
            Expect.due("set(" + i + ", 0)", desk.set(i, 0), -1);
        }
        Expect.same("all after REFUSED", desk.snapshot(), before);
    }

    private static void fullAtTwoHundred() {
        Expect.sentence("FULL if there are 200");
        Desk desk = new Desk();
        for (int i = 0; i < 200; i++) {
            Expect.due("set(" + i + ")", desk.set(i, i), i + 1);
        }
        Expect.due("set(200, 1)", desk.set(200, 1), -3);
        Expect.due("set(200, 65536)", desk.set(200, 65536), -1);
        Expect.due("set(201, 1)", desk.set(201, 1), -1);
        Expect.due("set(199, 1) of 200", desk.set(199, 1), 200);
        Expect.due("unit(199)", desk.unit(199), 1);
        Expect.due("set(0, 15) of 200", desk.set(0, 15), 200);
        Expect.due("unit(200)", desk.unit(200), -2);
    }

    private static void machineGoesOnWithNewUnits() {
        Expect.sentence("UNIT i of the CODE is w (0 to 65535) from now on");
        Desk desk = Desk.of("const v1 5", "nop", "ret v1");
        desk.assemble();
        desk.run(1);
        desk.set(1, 18 + 256 + 4096 * 3);
        Expect.due("the place", desk.state(16), 1);
        Expect.due("v1", desk.state(1), 5);
        Expect.due("run(2)", desk.run(2), 2);
        Expect.due("the outcome", desk.state(19), 3);
    }
}
