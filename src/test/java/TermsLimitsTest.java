/** "Terms": the limits of the TEXT and of the CODE. */
public final class TermsLimitsTest {
    private static final int FULL = -3;
    private static final int LABEL = -6;

    public static void main(String[] args) {
        fortyItems();
        fortyItemsOfAnyKind();
        labelsAreNoItems();
        twelveLabelsThatAreSet();
        twelveLabelsThatItemsName();
        setAndNamedLabelsCountOnce();
        labelsThatAnItemNamesTwice();
        itemWithMoreLabelsThanThereIsRoomFor();
        bothAreFull();
        twoHundredUnitsBySet();
        twoHundredUnitsByAssemble();
        Expect.finish();
    }

    private static void repeat(Desk desk, String line, int times) {
        for (int i = 0; i < times; i++) {
            desk.accept(line);
        }
    }

    private static void fortyItems() {
        Expect.sentence("THE TEXT has at most 40 ITEMS");
        Desk desk = new Desk();
        for (int i = 0; i < 40; i++) {
            Expect.due("item " + i, desk.line("nop"), i);
        }
        Expect.due("items", desk.state(21), 40);
        Expect.due("one more", desk.line("nop"), FULL);
        Expect.due("items then", desk.state(21), 40);
        Expect.due("item(39, 1)", desk.item(39, 1), 39);
        Expect.due("item(40, 1)", desk.item(40, 1), -2);
        Expect.due("assemble()", desk.assemble(), 40);
    }

    private static void fortyItemsOfAnyKind() {
        Expect.sentence("THE TEXT has at most 40 ITEMS");
        Desk desk = Desk.of(":a");
        repeat(desk, "ret v1", 39);
        Expect.due("a jump as the last one", desk.line("jump :a"), 39);
        String[] lines = {"nop", "move v0 v1", "ret v0", "const v0 1", "const v0 9", "add v0 v1 v2", "addi v0 v1 1", "jump :a",
            "jeq v0 v1 :a", "jz v0 :a", "table v0 :a", "cases 0 :a"};
        for (String line : lines) {
            Expect.due("line \"" + line + "\" behind 40", desk.line(line), FULL);
        }
        Expect.due("assemble()", desk.assemble(), 40);
        Expect.due("the last unit", desk.unit(39), 40 + 256 * (256 - 39));
    }

    private static void labelsAreNoItems() {
        Expect.sentence("at most 40 ITEMS and at most 12 LABELS");
        Desk desk = new Desk();
        repeat(desk, "nop", 40);
        for (char c = 'a'; c <= 'l'; c++) {
            Expect.due("label " + c + " behind 40 items", desk.line(":" + c), 101 + c - 'a');
        }
        Expect.due("assemble()", desk.assemble(), 40);
    }

    private static void twelveLabelsThatAreSet() {
        Expect.sentence("at most 12 LABELS, with different names, counting those that are set");
        Desk desk = new Desk();
        for (char c = 'a'; c <= 'l'; c++) {
            Expect.due("label " + c, desk.line(":" + c), 101 + c - 'a');
        }
        Expect.due("label m", desk.line(":m"), FULL);
        Expect.due("an item that names m", desk.line("jump :m"), FULL);
        Expect.due("an item that names one of four anew", desk.line("cases 0 :a :b :c :m"), FULL);
        Expect.due("label a again", desk.line(":a"), LABEL);
        Expect.due("label l again", desk.line(":l"), LABEL);
        Expect.due("labels", desk.state(22), 12);
        Expect.due("items", desk.state(21), 0);
        Expect.due("an item that names l", desk.line("jump :l"), 0);
        Expect.due("an item without a label", desk.line("nop"), 1);
        Expect.due("assemble()", desk.assemble(), 3);
    }

    private static void twelveLabelsThatItemsName() {
        Expect.sentence("counting those that are set and those that ITEMS name");
        Desk desk = new Desk();
        for (char c = 'a'; c <= 'l'; c++) {
            Expect.due("an item that names " + c, desk.line("jump :" + c), c - 'a');
            Expect.due("labels", desk.state(22), c - 'a' + 1);
        }
        Expect.due("an item that names m", desk.line("jump :m"), FULL);
        Expect.due("label m", desk.line(":m"), FULL);
        Expect.due("label l", desk.line(":l"), 112);
        Expect.due("labels", desk.state(22), 12);
        Expect.due("items", desk.state(21), 12);
    }

    private static void setAndNamedLabelsCountOnce() {
        Expect.sentence("counting those that are set and those that ITEMS name");
        Desk desk = new Desk();
        Expect.due("naming a", desk.line("jz v0 :a"), 0);
        Expect.due("setting a", desk.line(":a"), 101);
        Expect.due("setting b", desk.line(":b"), 102);
        Expect.due("naming b", desk.line("jeq v0 v0 :b"), 1);
        Expect.due("naming a again", desk.line("jlt v0 v0 :a"), 2);
        Expect.due("naming c", desk.line("table v0 :c"), 3);
        Expect.due("labels", desk.state(22), 3);
        Expect.due("setting c", desk.line(":c"), 103);
    }

    private static void labelsThatAnItemNamesTwice() {
        Expect.sentence("at most 12 LABELS, with different names");
        Desk desk = new Desk();
        for (char c = 'a'; c <= 'k'; c++) {
            desk.accept(":" + c);
        }
        Expect.due("one new name, four times", desk.line("cases 0 :l :l :l :l"), 0);
        Expect.due("labels", desk.state(22), 12);
        Expect.due("another name", desk.line("cases 0 :l :l :l :m"), FULL);
    }

    private static void itemWithMoreLabelsThanThereIsRoomFor() {
        Expect.sentence("FULL if there is no room for the ITEM or LABEL");
        Desk desk = new Desk();
        for (char c = 'a'; c <= 'j'; c++) {
            desk.accept(":" + c);
        }
        Expect.due("three new names for two places", desk.line("cases 0 :x :y :z"), FULL);
        Expect.due("labels then", desk.state(22), 10);
        Expect.due("items then", desk.state(21), 0);
        Expect.due("assemble(), as none of the names has stayed", desk.assemble(), 0);
        Expect.due("two other names", desk.line("cases 0 :p :a :q"), 0);
        Expect.due("labels then", desk.state(22), 12);
        Expect.due("one of the names before", desk.line(":x"), FULL);
    }

    private static void bothAreFull() {
        Expect.sentence("FULL if there is no room for the ITEM or LABEL (tested last)");
        Desk desk = new Desk();
        repeat(desk, "nop", 40);
        for (char c = 'a'; c <= 'l'; c++) {
            desk.accept(":" + c);
        }
        Expect.due("nop", desk.line("nop"), FULL);
        Expect.due("jump :a", desk.line("jump :a"), FULL);
        Expect.due("jump :m", desk.line("jump :m"), FULL);
        Expect.due(":m", desk.line(":m"), FULL);
        Expect.due(":a", desk.line(":a"), LABEL);
        Expect.due("nop 1", desk.line("nop 1"), -5);
        Expect.due("jump m", desk.line("jump m"), -5);
        Expect.due("nap", desk.line("nap"), -4);
        Expect.due(":m nop", desk.line(":m nop"), -4);
        Expect.due("nothing", desk.line(""), -4);
        Expect.due("items", desk.state(21), 40);
        Expect.due("labels", desk.state(22), 12);
        Expect.due("characters", desk.state(23), 0);
    }

    private static void twoHundredUnitsBySet() {
        Expect.sentence("THE CODE has at most 200 UNITS");
        Desk desk = new Desk();
        for (int i = 0; i < 200; i++) {
            Expect.due("set(" + i + ", " + i * 300 + ")", desk.set(i, i * 300), i + 1);
        }
        Expect.due("set(200, 0)", desk.set(200, 0), FULL);
        Expect.due("units", desk.state(20), 200);
        Expect.due("unit(199)", desk.unit(199), 59700);
        Expect.due("unit(200)", desk.unit(200), -2);
    }

    /** 33 times five units, with a unit 0 between each two, are 197 units. */
    private static Desk almostFull() {
        Desk desk = Desk.of(":a");
        repeat(desk, "cases 0 :a :a", 33);
        repeat(desk, "nop", 2);
        return desk;
    }

    private static void twoHundredUnitsByAssemble() {
        Expect.sentence("THE CODE has at most 200 UNITS");
        Desk fits = almostFull();
        fits.accept("nop");
        Expect.due("assemble() of 200 units", fits.assemble(), 200);
        Expect.due("units", fits.state(20), 200);
        Expect.due("set(200, 0)", fits.set(200, 0), FULL);
        Expect.sentence("FULL if there would be more than 200 UNITS");
        Desk more = almostFull();
        more.accept("ret v1");
        more.accept("ret v1");
        Expect.due("assemble() of 201 units", more.assemble(), FULL);
        Expect.due("units then", more.state(20), 0);
        Desk longer = almostFull();
        longer.accept("jump :a");
        Expect.due("long jumps", longer.state(24), 1);
        Expect.due("assemble() of 201 units with a LONG jump", longer.assemble(), FULL);
    }
}
