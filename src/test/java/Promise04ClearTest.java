/** Promise 4: clear. */
public final class Promise04ClearTest {
    public static void main(String[] args) {
        textIsEmptyThen();
        otherThingsStay();
        namesAreFreeAgain();
        newItemsKeepNothingOfOldOnes();
        Expect.finish();
    }

    private static void textIsEmptyThen() {
        Expect.sentence("The TEXT is empty: how many ITEMS it had");
        Desk desk = Desk.of(":a", "jump :a", "nop", "jump :b");
        Expect.due("long jumps before", desk.state(24), 1);
        Expect.due("clear()", desk.clear(), 3);
        Expect.due("items", desk.state(21), 0);
        Expect.due("labels", desk.state(22), 0);
        Expect.due("long jumps", desk.state(24), 0);
        Expect.due("item(0, 0)", desk.item(0, 0), -2);
        Expect.due("clear() again", desk.clear(), 0);
        Expect.due("assemble() of nothing", desk.assemble(), 0);
    }

    private static void otherThingsStay() {
        Expect.sentence("(The CODE stays.)");
        Desk desk = Desk.of("const v2 5", "ret v2");
        desk.assemble();
        desk.run(2);
        desk.type("nop");
        Expect.due("clear()", desk.clear(), 2);
        Expect.same("the code", desk.units(), "21010 527");
        Expect.due("v2", desk.state(2), 5);
        Expect.due("the place", desk.state(16), 1);
        Expect.due("steps", desk.state(17), 2);
        Expect.due("stopped", desk.state(18), 1);
        Expect.due("the outcome", desk.state(19), 5);
        Expect.due("characters", desk.state(23), 3);
        Expect.due("the line typed before", desk.line(), 0);
    }

    private static void namesAreFreeAgain() {
        Expect.sentence("The TEXT is empty");
        Desk desk = Desk.of(":a", "add v1 v2 v3", "cases 5 :a :a");
        desk.clear();
        Expect.due("the label again", desk.line(":a"), 101);
        Expect.due("a new first item", desk.line("nop"), 0);
        Expect.due("a new second item", desk.line("ret v4"), 1);
        Expect.due("assemble()", desk.assemble(), 2);
        Expect.same("the code", desk.units(), "0 1039");
    }

    private static void newItemsKeepNothingOfOldOnes() {
        Expect.sentence("The TEXT is empty");
        Desk desk = Desk.of("const v9 900", "add v1 v2 v15", "cases 9 :a :b :c :d", "addi v7 v7 77");
        desk.clear();
        desk.accept("nop");
        desk.accept("addi v0 v0 0");
        desk.accept("ret v0");
        desk.accept("jump :a");
        desk.accept(":a");
        Expect.due("assemble()", desk.assemble(), 5);
        Expect.same("the code", desk.units(), "0 216 0 15 296");
    }
}
