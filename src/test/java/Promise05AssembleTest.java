/** Promise 5: assemble, with the forms of all ITEMS. */
public final class Promise05AssembleTest {
    private static final String FILLER = "cases 0 :a :a";

    public static void main(String[] args) {
        plainForms();
        goingForms();
        casesAndTables();
        beginsAnew();
        textAndDraftStay();
        failuresChangeNothing();
        orderOfFailures();
        twoHundredUnits();
        overTwoHundredUnits();
        shortEdgesForward();
        shortEdgesBackward();
        allAtOnceBecomeLong();
        oneLongMakesAnotherLong();
        Expect.finish();
    }

    private static void code(String want, String... lines) {
        Desk desk = Desk.of(lines);
        String name = String.join(" / ", lines);
        Expect.due("assemble() of " + name, desk.assemble(), want.split(" ").length);
        Expect.same("the code of " + name, desk.units(), want);
    }

    private static void plainForms() {
        Expect.sentence("The CODE becomes that of the TEXT");
        code("0", "nop");
        code("8449", "move v1 v2");
        code("65281", "move v15 v15");
        code("3855", "ret v15");
        code("28946", "const v1 7");
        code("33042", "const v1 -8");
        code("61714", "const v1 -1");
        code("18", "const v0 0");
        code("275 8", "const v1 8");
        code("275 65527", "const v1 -9");
        code("19 32767", "const v0 32767");
        code("19 32768", "const v0 -32768");
        code("400 770", "add v1 v2 v3");
        code("401 770", "sub v1 v2 v3");
        code("402 770", "mul v1 v2 v3");
        code("3984 3855", "add v15 v15 v15");
        code("472 32514", "addi v1 v2 127");
        code("472 32770", "addi v1 v2 -128");
        code("472 65282", "addi v1 v2 -1");
        code("4056 15", "addi v15 v15 0");
    }

    private static void goingForms() {
        Expect.sentence("The CODE becomes that of the TEXT");
        code("0 65320", ":a", "nop", "jump :a");
        code("552 0", "jump :a", "nop", ":a");
        code("296", "jump :a", ":a");
        code("41 0", ":a", "jump :a");
        code("0 41 0 0", "nop", ":a", "jump :a", "nop");
        code("0 8498 65535", ":a", "nop", "jeq v1 v2 :a");
        code("65331 2", "jlt v15 v15 :a", ":a");
        code("824 3 0", "jz v3 :a", "nop", ":a");
        code("56 0", ":a", "jz v0 :a");
        code("0 50 65535", ":b", ":a", "nop", "jeq v0 v0 :b");
    }

    private static void casesAndTables() {
        Expect.sentence("The CODE becomes that of the TEXT");
        code("0 299 5 0 0 0 256 3 65534 65535 5 11",
            ":a", "nop", "table v1 :c", "nop", "nop", ":c", "cases -2 :a :c :e", ":e");
        code("0 0 256 1 0 2 43 65532", "nop", ":c", "cases 0 :c", "table v0 :c");
        code("43 4 43 2 256 1 0 2", "table v0 :c", "table v0 :c", ":c", "cases 0 :c");
        code("256 4 32767 0 9 0 9 552 0", ":a", "cases 32767 :a :b :a :b", "jump :b", "nop", ":b");
        code("256 1 32768 4 256 1 32768 0", ":a", "cases -32768 :b", ":b", "cases -32768 :a");
        code("552 0 256 1 1 2", "jump :x", ":x", ":y", "cases 1 :y");
    }

    private static void beginsAnew() {
        Expect.sentence("the PLACE 0, all REGISTERS 0, and nothing was done");
        Desk desk = new Desk();
        for (int r = 0; r < 16; r++) {
            desk.accept("const v" + r + " 5");
        }
        desk.accept("ret v1");
        desk.assemble();
        desk.run(30);
        Expect.due("assemble() again", desk.assemble(), 17);
        for (int what = 0; what <= 19; what++) {
            Expect.due("state(" + what + ") after assemble()", desk.state(what), 0);
        }
        Expect.due("it goes again", desk.run(30), 17);
        desk.set(17, 77);
        Expect.due("a unit that was set is gone", desk.assemble(), 17);
        Expect.due("unit(17)", desk.unit(17), -2);
    }

    private static void textAndDraftStay() {
        Expect.sentence("The CODE becomes that of the TEXT");
        Desk desk = Desk.of(":a", "nop", "jump :a");
        desk.type("ret v1");
        desk.assemble();
        Expect.due("items", desk.state(21), 2);
        Expect.due("labels", desk.state(22), 1);
        Expect.due("characters", desk.state(23), 6);
        Expect.due("the line typed before", desk.line(), 2);
        Expect.due("assemble()", desk.assemble(), 3);
    }

    private static void failuresChangeNothing() {
        Expect.sentence("A call that answers a number below 0 changes nothing");
        Desk desk = Desk.of("const v1 5", "ret v1");
        desk.assemble();
        desk.run(9);
        desk.accept("table v0 :a");
        String before = desk.snapshot();
        Expect.due("assemble() without the label", desk.assemble(), -6);
        Expect.same("all after LABEL", desk.snapshot(), before);
        desk.accept(":a");
        before = desk.snapshot();
        Expect.due("assemble() with a table to the end", desk.assemble(), -7);
        Expect.same("all after BAD", desk.snapshot(), before);
        desk.accept("cases 0 :a");
        Expect.due("assemble() when all is well", desk.assemble(), 8);
    }

    private static void orderOfFailures() {
        Expect.sentence("LABEL if some LABEL is not set; BAD if a table means an ADDRESS that is not .. (In this order.)");
        Expect.due("a label that nothing sets", Desk.of("jz v0 :a").assemble(), -6);
        Expect.due("LABEL before BAD", Desk.of(":a", "nop", "table v0 :a", "jump :b").assemble(), -6);
        Expect.due("a table to nop", Desk.of(":a", "nop", "table v0 :a").assemble(), -7);
        Expect.due("a table to itself", Desk.of(":a", "table v0 :a").assemble(), -7);
        Expect.due("a table just behind cases", Desk.of("cases 0 :a", ":a", "nop", "table v0 :a").assemble(), -7);
        Desk refused = Desk.of("table v0 :a", ":a");
        refused.line("cases 0 :a 5");
        Expect.due("a table to cases that were not taken", refused.assemble(), -7);
        Desk cleared = Desk.of("nop", "cases 0 :a");
        cleared.clear();
        cleared.accept("table v0 :a");
        cleared.accept(":a");
        Expect.due("a table to cases that were cleared", cleared.assemble(), -7);
        Desk big = Desk.of(":a", "nop", "table v0 :a");
        repeat(big, FILLER, 33);
        Expect.due("BAD before FULL", big.assemble(), -7);
        Expect.due("the last label of cases is not set", Desk.of(":a", "cases 0 :a :a :a :b").assemble(), -6);
        Expect.due("the first label of cases is not set", Desk.of(":a", "cases 0 :b :a :a :a").assemble(), -6);
        twoTables("table v0 :c", "table v0 :nop", -7);
        twoTables("table v0 :nop", "table v0 :c", -7);
        twoTables("table v0 :c", "table v0 :c", 10);
        Expect.due("a label that is set and not named", Desk.of(":a", "nop", ":b").assemble(), 1);
        Expect.due("a label alone", Desk.of(":a").assemble(), 0);
        Desk unset = Desk.of("nop", "nop", "nop");
        repeat(unset, FILLER, 33);
        Expect.due("LABEL before FULL", unset.assemble(), -6);
    }

    private static void twoTables(String first, String second, int want) {
        Desk desk = Desk.of(":nop", "nop", ":c", "cases 0 :nop", first, second);
        Expect.due("assemble() of " + first + " and " + second, desk.assemble(), want);
    }

    private static void repeat(Desk desk, String line, int times) {
        for (int i = 0; i < times; i++) {
            desk.accept(line);
        }
    }

    private static void twoHundredUnits() {
        Expect.sentence("FULL if there would be more than 200 UNITS");
        Desk desk = Desk.of(":a");
        repeat(desk, FILLER, 33);
        repeat(desk, "nop", 3);
        Expect.due("assemble() of 200 units", desk.assemble(), 200);
        Expect.due("unit(196)", desk.unit(196), 0);
        Expect.due("unit(192)", desk.unit(192), 256);
        Expect.due("unit(199)", desk.unit(199), 0);
        Expect.due("unit(200)", desk.unit(200), -2);
    }

    private static void overTwoHundredUnits() {
        Expect.sentence("FULL if there would be more than 200 UNITS");
        Desk desk = Desk.of(":a", "nop");
        desk.assemble();
        repeat(desk, FILLER, 32);
        repeat(desk, "nop", 7);
        Expect.due("address of the last item", desk.item(39, 1), 199);
        Expect.due("assemble() of 200 units with 40 items", desk.assemble(), 200);
        desk = Desk.of(":a", "nop");
        desk.assemble();
        repeat(desk, FILLER, 33);
        repeat(desk, "nop", 2);
        Expect.due("address of the last item", desk.item(35, 1), 200);
        Expect.due("assemble() of 201 units", desk.assemble(), -3);
        Expect.due("units after FULL", desk.state(20), 1);
        Expect.due("unit(0) after FULL", desk.unit(0), 0);
    }

    private static void shortEdgesForward() {
        Expect.sentence("A jump is SHORT if its d is from -128 to 127 and not 0");
        Desk desk = Desk.of("jump :a");
        repeat(desk, FILLER, 21);
        desk.accept(":a");
        Expect.due("units of a jump by 127", desk.item(0, 2), 1);
        Expect.due("assemble()", desk.assemble(), 127);
        Expect.due("its unit", desk.unit(0), 32552);
        desk = Desk.of("jump :a");
        repeat(desk, FILLER, 21);
        desk.accept("nop");
        desk.accept(":a");
        Expect.due("units of a jump by 128", desk.item(0, 2), 2);
        Expect.due("assemble()", desk.assemble(), 128);
        Expect.due("its first unit", desk.unit(0), 41);
        Expect.due("its second unit", desk.unit(1), 128);
        Expect.due("the thing behind it", desk.unit(2), 256);
    }

    private static void shortEdgesBackward() {
        Expect.sentence("A jump is SHORT if its d is from -128 to 127 and not 0");
        Desk desk = Desk.of(":a");
        repeat(desk, FILLER, 21);
        repeat(desk, "nop", 3);
        desk.accept("jump :a");
        Expect.due("assemble() with a jump by -128", desk.assemble(), 129);
        Expect.due("its unit", desk.unit(128), 32808);
        desk = Desk.of(":a");
        repeat(desk, FILLER, 21);
        repeat(desk, "nop", 4);
        desk.accept("jump :a");
        Expect.due("assemble() with a jump by -129", desk.assemble(), 131);
        Expect.due("its first unit", desk.unit(129), 41);
        Expect.due("its second unit", desk.unit(130), 65407);
    }

    /** Taken one by one, the second jump would reach once the first has become LONG: a gap goes away. */
    private static void allAtOnceBecomeLong() {
        Expect.sentence("all that do not reach at once become LONG");
        Desk desk = Desk.of(":b", "jump :b", "nop", "jump :a");
        repeat(desk, FILLER, 21);
        desk.accept("nop");
        desk.accept(":a");
        Expect.due("long jumps", desk.state(24), 2);
        Expect.due("address of the second", desk.item(2, 1), 3);
        Expect.due("assemble()", desk.assemble(), 132);
        Expect.due("d of the second", desk.unit(4), 129);
    }

    private static void oneLongMakesAnotherLong() {
        Expect.sentence("then again and again all that do not reach at once become LONG");
        Desk desk = Desk.of("jump :a", ":b", "jump :b");
        repeat(desk, FILLER, 21);
        desk.accept(":a");
        Expect.due("long jumps", desk.state(24), 2);
        Expect.due("assemble()", desk.assemble(), 129);
        Expect.due("d of the first", desk.unit(1), 129);
        Expect.due("d of the second", desk.unit(3), 0);
    }
}
