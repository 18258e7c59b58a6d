/** "Terms": ADDRESSES, and which jumps are SHORT and which LONG. */
public final class TermsJumpsTest {
    private static final int LONG = 2;
    private static final int SHORT = 1;

    public static void main(String[] args) {
        addressOfAnItem();
        addressOfALabel();
        forwardEdge();
        backwardEdge();
        noughtIsLong();
        nextAndFormerAreShort();
        othersDoNotChangeTheirForm();
        lengthOfOneMovesAnother();
        roundAfterRound();
        allAtOnce();
        neverShortAgain();
        Expect.finish();
    }

    /** Puts so many units behind the last ITEM, which must have left an even number, in few ITEMS. */
    private static void fill(Desk desk, int units) {
        int left = units;
        while (left >= 6) {
            desk.accept("cases 0 :f :f :f");
            left -= 6;
        }
        while (left > 0) {
            desk.accept(left > 1 ? "const v0 9" : "nop");
            left -= 2;
        }
    }

    private static void form(Desk desk, int item, int size) {
        Expect.due("units of jump " + item, desk.item(item, 2), size);
    }

    private static void addressOfAnItem() {
        Expect.sentence("The ADDRESS of an ITEM is how many units stand before its first one");
        Desk desk = Desk.of("nop", "const v0 8", "nop", ":f", "cases 0 :f", "nop");
        int[] want = {0, 1, 3, 4, 8};
        for (int i = 0; i < want.length; i++) {
            Expect.due("item(" + i + ", 1)", desk.item(i, 1), want[i]);
        }
    }

    private static void addressOfALabel() {
        Expect.sentence("a LABEL means the ADDRESS of the ITEM before which it stands, or, behind the last one, the number of all units");
        Desk desk = Desk.of(":a", "jz v0 :a", "jz v0 :b", ":b", "jz v0 :c", "nop", ":c", ":d");
        Expect.due("assemble()", desk.assemble(), 7);
        Expect.due("where :a is", desk.read(0, 6), 0);
        Expect.due("where :b is", desk.read(2, 6), 4);
        Expect.due("where :c is, behind the last", desk.read(4, 6), 7);
        desk.accept("nop");
        desk.accept("jz v0 :d");
        desk.assemble();
        Expect.due("where :c is with items behind it", desk.read(4, 6), 7);
        Expect.due("where :d is", desk.read(8, 6), 7);
        Desk odd = Desk.of("jz v0 :e", "nop", ":e", ":f");
        odd.assemble();
        Expect.due("the end behind an odd number", odd.read(0, 6), 3);
        odd.accept("cases 0 :f");
        odd.assemble();
        Expect.due("the same label before cases", odd.read(0, 6), 4);
    }

    private static Desk forward(int between) {
        Desk desk = Desk.of(":f", "nop", "jump :a");
        fill(desk, between);
        desk.accept(":a");
        return desk;
    }

    private static void forwardEdge() {
        Expect.sentence("A jump is SHORT if its d is from -128 to 127");
        Desk reaches = forward(126);
        form(reaches, 1, SHORT);
        Expect.due("long jumps", reaches.state(24), 0);
        Expect.due("assemble() with d 127", reaches.assemble(), 128);
        Expect.due("the jump by 127", reaches.unit(1), 40 + 256 * 127);
        Expect.due("where it goes", reaches.read(1, 6), 128);
        Desk fails = forward(127);
        form(fails, 1, LONG);
        Expect.due("long jumps", fails.state(24), 1);
        fails.assemble();
        Expect.due("the jump that would go by 128", fails.unit(1), 41);
        Expect.due("where it goes", fails.read(1, 6), fails.state(20));
    }

    private static Desk backward(int between) {
        Desk desk = Desk.of(":f");
        fill(desk, between);
        desk.accept("jump :f");
        return desk;
    }

    private static void backwardEdge() {
        Expect.sentence("A jump is SHORT if its d is from -128 to 127");
        Desk reaches = backward(128);
        Expect.due("long jumps with d -128", reaches.state(24), 0);
        Expect.due("assemble()", reaches.assemble(), 129);
        Expect.due("the jump by -128", reaches.unit(128), 40 + 256 * 128);
        Desk fails = backward(129);
        Expect.due("long jumps with d -129", fails.state(24), 1);
        Expect.due("assemble()", fails.assemble(), 131);
        Expect.due("the jump by -129", fails.unit(129), 41);
        Expect.due("its second unit", fails.unit(130), 65536 - 129);
    }

    private static void noughtIsLong() {
        Expect.sentence("(One with d 0 is LONG.)");
        Desk first = Desk.of(":a", "jump :a");
        form(first, 0, LONG);
        Desk later = Desk.of("nop", ":a", "jump :a", "nop");
        form(later, 1, LONG);
        Expect.due("address of the next", later.item(2, 1), 3);
        Expect.due("assemble()", later.assemble(), 4);
        Expect.same("the code", later.units(), "0 41 0 0");
    }

    private static void nextAndFormerAreShort() {
        Expect.sentence("from -128 to 127 and not 0");
        form(Desk.of("jump :a", ":a"), 0, SHORT);
        form(Desk.of("jump :a", ":a", "nop"), 0, SHORT);
        form(Desk.of(":a", "nop", "jump :a"), 1, SHORT);
    }

    private static void othersDoNotChangeTheirForm() {
        Expect.sentence("jeq A B L 2 units .. jz A L 2 units .. table A L 2 units");
        Desk desk = Desk.of(":f", "jz v0 :a", "jeq v0 v0 :a", "jlt v0 v0 :f", "jz v0 :f", "table v0 :f", "jz v0 :n", ":n");
        for (int i = 0; i < 6; i++) {
            Expect.due("units of item " + i, desk.item(i, 2), 2);
        }
        Expect.due("long jumps", desk.state(24), 0);
    }

    private static void lengthOfOneMovesAnother() {
        Expect.sentence("as all other jumps are then");
        Desk reaches = Desk.of("jump :a", "jump :b", ":b");
        fill(reaches, 125);
        reaches.accept(":f");
        reaches.accept(":a");
        Expect.due("long jumps with both SHORT", reaches.state(24), 0);
        Desk fails = Desk.of("jump :a", ":b", "jump :b");
        fill(fails, 125);
        fails.accept(":f");
        fails.accept(":a");
        form(fails, 0, LONG);
        form(fails, 1, LONG);
    }

    /** With these labels and lengths each round but the first makes LONG only what the round before has pushed away. */
    private static void roundAfterRound() {
        Expect.sentence("then again and again all that do not reach at once become LONG, until all reach");
        Desk three = Desk.of("jump :a", "jump :b");
        sixes(three, "f", 20);
        accept(three, ":f", "jump :f", "nop", "nop", "nop", "nop", ":a", ":b");
        Expect.due("long jumps after three rounds", three.state(24), 3);
        Expect.due("assemble()", three.assemble(), 130);
        Desk five = Desk.of("jump :a", "jump :b", "jump :c", "jump :d", "jump :e", "jump :g");
        sixes(five, "f", 20);
        accept(five, ":f", "jump :f", ":a", ":b", ":c", "nop", "nop", ":e", "nop", ":d", "nop", ":g");
        Expect.due("long jumps after five rounds", five.state(24), 7);
        for (int i = 0; i <= 6; i++) {
            Expect.due("address of item " + i + " after five rounds", five.item(i, 1), 2 * i);
        }
        Expect.due("assemble()", five.assemble(), 138);
    }

    private static void sixes(Desk desk, String label, int times) {
        for (int i = 0; i < times; i++) {
            desk.accept("cases 0 :L :L :L".replace("L", label));
        }
    }

    private static void accept(Desk desk, String... lines) {
        for (String line : lines) {
            desk.accept(line);
        }
    }

    /** Once the first jump is LONG the second would reach, as the unit before cases goes away; but both fail at once. */
    private static void allAtOnce() {
        Expect.sentence("all that do not reach at once become LONG");
        Desk desk = Desk.of(":f", "jump :f", "nop", "jump :a");
        sixes(desk, "f", 21);
        accept(desk, ":a");
        Expect.due("long jumps", desk.state(24), 2);
        form(desk, 0, LONG);
        form(desk, 2, LONG);
        Expect.due("assemble()", desk.assemble(), 132);
        Expect.due("d of the second", desk.unit(4), 129);
    }

    /** When the first jump is LONG, the unit before cases goes away, and d of the LONG last one is -128. */
    private static void neverShortAgain() {
        Expect.sentence("all that do not reach at once become LONG, until all reach");
        Desk desk = Desk.of(":f", "jump :f", "nop", ":x", "nop");
        sixes(desk, "f", 21);
        accept(desk, "nop", "jump :x");
        Expect.due("long jumps", desk.state(24), 2);
        Expect.due("assemble()", desk.assemble(), 133);
        Expect.due("the last jump", desk.unit(131), 41);
        Expect.due("its d", desk.unit(132), 65536 - 128);
    }
}
