/** Promise 3: line. */
public final class Promise03LineTest {
    private static final int WORD = -4;
    private static final int ARGUMENT = -5;

    public static void main(String[] args) {
        partsOfLines();
        firstWords();
        registers();
        numbers();
        labels();
        countsOfArguments();
        labelsAreCounted();
        draftIsEmptyThen();
        fullItems();
        fullLabels();
        failuresKeepNoLabels();
        Expect.finish();
    }

    private static void alone(String line, int want) {
        Expect.due("line \"" + line + "\" on a new object", new Desk().line(line), want);
    }

    private static void partsOfLines() {
        Expect.sentence("The DRAFT is read as a LINE");
        alone("nop", 0);
        alone(" , ,nop, ,", 0);
        alone("move v1,v2", 0);
        alone("move,v1   v2", 0);
        alone("nop;", 0);
        alone("nop; v1", 0);
        alone("nop;nop;nop", 0);
        alone("move v1 v2;v3", 0);
        alone("move v1 v2 ;;", 0);
        alone("ret v1;5", 0);
        alone("ret ;v1", ARGUMENT);
        alone(";nop", WORD);
        alone("", WORD);
        alone("  ,, ", WORD);
        alone("no;p", WORD);
        alone("nop\t", WORD);
        alone("nop\0", WORD);
        alone("ret\u00a0v1", WORD);
    }

    private static void firstWords() {
        Expect.sentence("WORD for an unknown first WORD (also a LABEL with others behind it; \"\" if there is none)");
        String[] known = {"nop", "move v0 v1", "ret v0", "const v0 1", "add v0 v1 v2", "sub v0 v1 v2", "mul v0 v1 v2",
            "addi v0 v1 1", "jump :a", "jeq v0 v1 :a", "jlt v0 v1 :a", "jz v0 :a", "table v0 :a", "cases 1 :a"};
        for (String line : known) {
            alone(line, 0);
        }
        String[] unknown = {"Nop", "NOP", "no", "nopp", "movee v1 v2", "v1", "5", "jumps :a", "div v0 v1 v2", "addi2 v0 v1 1",
            "256", "-", ":", "::a"};
        for (String line : unknown) {
            alone(line, WORD);
        }
    }

    private static void registers() {
        Expect.sentence("ARGUMENT if the ARGUMENTS are not .. of the kinds and sizes as said");
        for (int r = 0; r <= 15; r++) {
            alone("ret v" + r, 0);
        }
        String[] wrong = {"v16", "v99", "v00", "v01", "v015", "v-1", "v-0", "v", "V1", "1", "v1x", "vv1", "v1v", "v100000",
            "v4294967296", ":v", "v+1"};
        for (String register : wrong) {
            alone("ret " + register, ARGUMENT);
            alone("move v1 " + register, ARGUMENT);
        }
    }

    private static void numbers() {
        Expect.sentence("ARGUMENT if the ARGUMENTS are not .. of the kinds and sizes as said");
        String[] right = {"0", "7", "8", "-8", "-9", "10", "32767", "-32768", "-1"};
        for (String number : right) {
            alone("const v0 " + number, 0);
            alone("cases " + number + " :a", 0);
        }
        String[] wrong = {"32768", "-32769", "99999", "-99999", "100000", "-0", "00", "007", "-01", "+1", "--1", "-", "1-", "1.",
            "v1", ":a", "0x1", "000001", "65536", "4294967296"};
        for (String number : wrong) {
            alone("const v0 " + number, ARGUMENT);
            alone("cases " + number + " :a", ARGUMENT);
        }
        alone("addi v0 v0 127", 0);
        alone("addi v0 v0 -128", 0);
        alone("addi v0 v0 128", ARGUMENT);
        alone("addi v0 v0 -129", ARGUMENT);
        alone("addi v0 v0 -0", ARGUMENT);
    }

    private static void labels() {
        Expect.sentence("or sets a LABEL: 100 and how many LABELS the TEXT has then .. LABEL if this one is set already");
        String[] right = {":a", ":z", ":abcdef", ":zzzzzz", ":nop"};
        for (String label : right) {
            alone(label, 101);
            alone("jump " + label, 0);
        }
        String[] wrong = {":", ":abcdefg", ":A", ":a1", ":a:", "::", ":a`", ":a{", ":-a"};
        for (String label : wrong) {
            alone(label, WORD);
            alone("jump " + label, ARGUMENT);
        }
        alone("jump a", ARGUMENT);
        alone(":a nop", WORD);
        alone(":a :b", WORD);
        alone(":a ;nop", 101);
        Desk desk = Desk.of(":a");
        Expect.due("a label set twice", desk.line(":a"), -6);
        Expect.due("a set label with words behind", desk.line(":a nop"), WORD);
        Expect.due("a label with the same beginning", desk.line(":aa"), 102);
        Expect.due("labels", desk.state(22), 2);
    }

    private static void countsOfArguments() {
        Expect.sentence("ARGUMENT if the ARGUMENTS are not just as many (for cases one NUMBER and 1 to 4 LABELS)");
        String[] lines = {"nop v0", "nop 0", "move v0", "move", "move v0 v1 v2", "ret", "ret v0 v1", "const v0", "const v0 1 1",
            "add v0 v1", "add v0 v1 v2 v3", "addi v0 v1", "addi v0 v1 v2", "addi v0 v1 1 1", "jump", "jump :a :a", "jeq v0 :a",
            "jeq v0 v1", "jeq v0 v1 :a :a", "jz :a", "jz v0 v1 :a", "table v0", "table :a", "table v0 :a :a", "cases", "cases 1",
            "cases :a", "cases :a :b", "cases 1 2", "cases 1 :a 2", "cases 1 :a :a :a :a :a", "const 1 v0", "jump v0", "jump 0"};
        for (String line : lines) {
            alone(line, ARGUMENT);
        }
        alone("cases 1 :a :b", 0);
        alone("cases 1 :a :b :c", 0);
        alone("cases 1 :a :b :c :d", 0);
    }

    private static void labelsAreCounted() {
        Expect.sentence("100 and how many LABELS the TEXT has then");
        Desk desk = new Desk();
        Expect.due("cases with two names", desk.line("cases 1 :a :b :a"), 0);
        Expect.due("labels", desk.state(22), 2);
        Expect.due("setting a named one", desk.line(":b"), 102);
        Expect.due("setting a new one", desk.line(":c"), 103);
        Expect.due("naming a set one", desk.line("jump :c"), 1);
        Expect.due("labels", desk.state(22), 3);
        Expect.due("items", desk.state(21), 2);
    }

    private static void draftIsEmptyThen() {
        Expect.sentence("and is empty then, whatever the answer");
        String[] lines = {"nop", ":a", ":a", "what", "ret", "cases 1 :a :b :c :d"};
        Desk desk = new Desk();
        for (String line : lines) {
            desk.line(line);
            Expect.due("characters after \"" + line + "\"", desk.state(23), 0);
        }
    }

    private static void fullItems() {
        Expect.sentence("FULL if there is no room for the ITEM or LABEL (tested last)");
        Desk desk = new Desk();
        for (int i = 0; i < 40; i++) {
            Expect.due("item " + i, desk.line("nop"), i);
        }
        Expect.due("item 40", desk.line("nop"), -3);
        Expect.due("item 40 with a new label", desk.line("jump :a"), -3);
        Expect.due("a wrong item 40", desk.line("nop 1"), ARGUMENT);
        Expect.due("an unknown item 40", desk.line("nap"), WORD);
        Expect.due("labels", desk.state(22), 0);
        Expect.due("items", desk.state(21), 40);
        Expect.due("characters", desk.state(23), 0);
        Expect.due("a label behind all items", desk.line(":a"), 101);
        Expect.due("assemble()", desk.assemble(), 40);
        Expect.due("clear()", desk.clear(), 40);
        Expect.due("the first item again", desk.line("nop"), 0);
    }

    private static void fullLabels() {
        Expect.sentence("FULL if there is no room for the ITEM or LABEL (tested last)");
        Desk desk = new Desk();
        desk.accept("cases 0 :a :b :c :d");
        desk.accept("cases 0 :e :f :g :h");
        desk.accept("cases 0 :i :j");
        Expect.due("three names for two places", desk.line("cases 0 :k :l :m"), -3);
        Expect.due("labels", desk.state(22), 10);
        Expect.due("two names, told twice", desk.line("cases 0 :k :l :k :l"), 3);
        Expect.due("labels", desk.state(22), 12);
        Expect.due("a new label", desk.line(":m"), -3);
        Expect.due("an item that names a new one", desk.line("jump :m"), -3);
        Expect.due("an item that names a known one", desk.line("jump :l"), 4);
        Expect.due("a named label", desk.line(":l"), 112);
        Expect.due("the same again", desk.line(":l"), -6);
        Expect.due("items", desk.state(21), 5);
    }

    private static void failuresKeepNoLabels() {
        Expect.sentence("A call that answers a number below 0 changes nothing");
        Desk desk = new Desk();
        desk.line("cases 0 :a :b :c 5");
        desk.line("jeq v0 v16 :a");
        desk.line("jump :a :b");
        desk.line(":a :b");
        Expect.due("labels", desk.state(22), 0);
        Expect.due("items", desk.state(21), 0);
    }
}
