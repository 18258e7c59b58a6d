/** "Terms": the DRAFT, WORDS, REGISTERS, NUMBERS and LABELS, sentence by sentence. */
public final class TermsLinesTest {
    private static final int WORD = -4;
    private static final int ARGUMENT = -5;

    public static void main(String[] args) {
        draftHasAtMostForty();
        draftHoldsEveryCharacter();
        wordsArePartedBySpacesAndCommas();
        wordsArePartedByNothingElse();
        oneOrMoreBetweenBeforeAndBehind();
        asManyWordsAsTheDraftCanHold();
        semicolonIsLeftOut();
        firstWordSaysWhatItIs();
        registersFromZeroToFifteen();
        registersInEveryPlace();
        numbersAreDigitsWithMinusOrNot();
        zerosInFront();
        atMostFiveDigits();
        labelsHaveOneToSixLetters();
        labelsAreOfSmallLetters();
        labelsWithDifferentNames();
        lineOfOneLabelSetsIt();
        Expect.finish();
    }

    private static void alone(String line, int want) {
        Expect.due("line \"" + line + "\" on a new object", new Desk().line(line), want);
    }

    private static void all(int want, String... lines) {
        for (String line : lines) {
            alone(line, want);
        }
    }

    private static void draftHasAtMostForty() {
        Expect.sentence("THE DRAFT is a row of characters (0 to 255), at most 40");
        alone("nop" + " ".repeat(37), 0);
        alone(" ".repeat(37) + "nop", 0);
        Desk desk = new Desk();
        String forty = "cases -32768 :abcdef :abcdef :abcdef :ab";
        desk.type(forty);
        Expect.due("characters", desk.state(23), 40);
        Expect.due("put number 41", desk.put('c'), -3);
        Expect.due("the line of 40 characters", desk.line(), 0);
        Expect.due("setting the label whose last letter is the 40th", desk.line(":ab"), 102);
        Expect.due("setting the label that character 41 would make", desk.line(":abc"), 103);
    }

    private static void draftHoldsEveryCharacter() {
        Expect.sentence("THE DRAFT is a row of characters (0 to 255), at most 40");
        for (int c = 0; c <= 255; c++) {
            Desk desk = Desk.of();
            desk.type("nop");
            Expect.due("put(" + c + ")", desk.put(c), 4);
            boolean parts = c == ' ' || c == ',' || c == ';';
            Expect.due("line() of nop with character " + c + " behind it", desk.line(), parts ? 0 : WORD);
        }
    }

    private static void wordsArePartedBySpacesAndCommas() {
        Expect.sentence("it is parted into WORDS by spaces (32) and commas (44)");
        all(0, "move v1 v2", "move,v1,v2", "move v1,v2", "move,v1 v2");
        all(ARGUMENT, "move v1v2", "ret v 1", "ret v,1", "const v1 - 1", "const v1 -,1", "jump : a", "jump :a,b");
        all(WORD, "movev1 v2", "mo ve v1 v2", "mo,ve v1 v2", ": a");
    }

    /** The characters beside 32 and 44, and others that part words elsewhere. */
    private static void wordsArePartedByNothingElse() {
        Expect.sentence("it is parted into WORDS by spaces (32) and commas (44)");
        int[] others = {0, 9, 10, 13, 31, 33, 43, 45, 46, 58, 60, 95, 160, 172, 187, 255};
        for (int c : others) {
            alone("ret" + (char) c + "v1", WORD);
            alone("move v1" + (char) c + "v2", ARGUMENT);
        }
    }

    private static void oneOrMoreBetweenBeforeAndBehind() {
        Expect.sentence("one or more of them; there may be some before and behind");
        all(0, "move  v1  v2", "move,,v1,,v2", "move , v1, v2", "move ,, ,v1 , , v2", " move v1 v2", ",move v1 v2", "move v1 v2 ",
            "move v1 v2,", ", ,move v1 v2, ,");
        all(101, " :a", ",:a", ":a ", ":a,", " ,:a, ");
        all(WORD, " ", ",", " , ", " ".repeat(40), ",".repeat(40));
    }

    private static void asManyWordsAsTheDraftCanHold() {
        Expect.sentence("The first WORD says what the LINE is, the others are its ARGUMENTS");
        alone("x ".repeat(20), WORD);
        alone("nop" + " 1".repeat(18), ARGUMENT);
        alone("cases 1" + " :a".repeat(11), ARGUMENT);
        alone("x".repeat(40), WORD);
        alone("nop" + "x".repeat(37), WORD);
        alone("ret v" + "1".repeat(35), ARGUMENT);
        alone("const v1 " + "1".repeat(31), ARGUMENT);
        alone("jump :" + "a".repeat(34), ARGUMENT);
        alone(":" + "a".repeat(39), WORD);
    }

    private static void semicolonIsLeftOut() {
        Expect.sentence("What is behind a semicolon (59) is left out, with it");
        all(0, "nop;", "nop ;", "nop;x", "nop ; x", "nop;;", "nop; nop ; nop", "ret v1;5", "ret v1; v2", "jump :a;b",
            "nop" + ";".repeat(37));
        all(101, ":a;", ":a;b", ":a ;:b", ":a; nop");
        all(ARGUMENT, "ret;v1", "ret ;v1", "move v1;v2", "move v1 ;v2", "const v1 ;5");
        all(WORD, ";", ";nop", " ;nop", ",;nop", "no;p", "nop:", "nop<", ";".repeat(40));
    }

    private static void firstWordSaysWhatItIs() {
        Expect.sentence("The first WORD says what the LINE is");
        String[] known = {"nop", "move", "ret", "const", "add", "sub", "mul", "addi", "jump", "jeq", "jlt", "jz", "table", "cases"};
        String[] arguments = {"", " v1 v2", " v1", " v1 5", " v1 v2 v3", " v1 v2 v3", " v1 v2 v3", " v1 v2 5", " :a", " v1 v2 :a",
            " v1 v2 :a", " v1 :a", " v1 :a", " 5 :a"};
        for (int k = 0; k < known.length; k++) {
            String word = known[k];
            alone(word + arguments[k], 0);
            if (!word.equals("addi")) {
                alone(word.substring(0, word.length() - 1) + arguments[k], WORD);
            }
            alone(word.substring(1) + arguments[k], WORD);
            alone(word + "x" + arguments[k], WORD);
            alone("x" + word + arguments[k], WORD);
            alone(word.substring(0, 1).toUpperCase() + word.substring(1) + arguments[k], WORD);
            alone(word.substring(0, word.length() - 1) + (char) (word.charAt(word.length() - 1) + 1) + arguments[k], WORD);
            alone(word.substring(0, word.length() - 1) + (char) (word.charAt(word.length() - 1) + 128) + arguments[k], WORD);
        }
    }

    private static void registersFromZeroToFifteen() {
        Expect.sentence("A REGISTER is \"v\" and a number 0 to 15");
        for (int r = 0; r <= 15; r++) {
            Desk desk = Desk.of("ret v" + r);
            desk.assemble();
            Expect.due("A of ret v" + r, desk.read(0, 2), r);
        }
        for (int r = 16; r <= 40; r++) {
            alone("ret v" + r, ARGUMENT);
        }
        all(ARGUMENT, "ret v-1", "ret v", "ret 1", "ret w1", "ret u1", "ret V1", "ret 1v", "ret vv1", "ret v1v", "ret v1/", "ret v1:",
            "ret v/", "ret v:", "ret v+1", "ret :a", "ret v99999", "ret v65536", "ret v65537", "ret v4294967297");
    }

    private static void registersInEveryPlace() {
        Expect.sentence("A REGISTER is \"v\" and a number 0 to 15");
        String[] forms = {"move R v1", "move v1 R", "const R 1", "add R v1 v2", "add v1 R v2", "add v1 v2 R", "sub v1 v2 R", "mul v1 v2 R",
            "addi R v1 1", "addi v1 R 1", "jeq R v1 :a", "jeq v1 R :a", "jlt R v1 :a", "jlt v1 R :a", "jz R :a", "table R :a"};
        for (String form : forms) {
            alone(form.replace("R", "v15"), 0);
            alone(form.replace("R", "v16"), ARGUMENT);
            alone(form.replace("R", "5"), ARGUMENT);
            alone(form.replace("R", ":a"), ARGUMENT);
        }
    }

    private static void numbersAreDigitsWithMinusOrNot() {
        Expect.sentence("a NUMBER is decimal digits, with \"-\" before them or not");
        for (int n = -12; n <= 12; n++) {
            Desk desk = Desk.of("const v1 " + n);
            desk.assemble();
            Expect.due("NUMBER of const v1 " + n, desk.read(0, 5), n);
        }
        Desk desk = Desk.of("const v1 12345", "const v1 -26789");
        desk.assemble();
        Expect.due("NUMBER of const v1 12345", desk.read(0, 5), 12345);
        Expect.due("NUMBER of const v1 -26789", desk.read(2, 5), -26789);
        String[] wrong = {"-", "--1", "1-", "1-1", "+1", "+", "1/", "1:", "/", ":", "-/", "-:", "1/1", "1:1", "1.0", "1e1",
            "x", "1x", "0x1", "v1", ":a", "\u00b2", "-v1"};
        for (String number : wrong) {
            all(ARGUMENT, "const v1 " + number, "addi v1 v1 " + number, "cases " + number + " :a");
        }
    }

    private static void zerosInFront() {
        Expect.sentence("both without zeros in front (but \"0\"; not \"-0\")");
        all(0, "ret v0", "const v1 0", "addi v1 v1 0", "cases 0 :a", "ret v10", "const v1 10", "const v1 -10", "const v1 100");
        all(ARGUMENT, "ret v00", "ret v01", "ret v015", "ret v-0", "const v1 00", "const v1 01", "const v1 -0", "const v1 -00",
            "const v1 -01", "const v1 007", "addi v1 v1 00", "addi v1 v1 -0", "addi v1 v1 01", "addi v1 v1 -01", "cases 00 :a",
            "cases -0 :a", "cases 01 :a", "cases -01 :a");
    }

    private static void atMostFiveDigits() {
        Expect.sentence("of at most 5 digits");
        all(0, "const v1 32767", "const v1 -32768", "cases 32767 :a", "cases -32768 :a");
        all(ARGUMENT, "ret v00001", "ret v000001", "const v1 00001", "const v1 000001", "const v1 100000", "const v1 -100000",
            "const v1 65536", "const v1 65537", "const v1 4294967297", "const v1 -4294967295", "cases 100000 :a", "cases 4294967297 :a",
            "addi v1 v1 4294967297", "const v1 18446744073709551617");
    }

    private static void labelsHaveOneToSixLetters() {
        Expect.sentence("a LABEL is \":\" and 1 to 6 small letters");
        all(101, ":a", ":ab", ":abc", ":abcd", ":abcde", ":abcdef");
        all(WORD, ":", ":abcdefg", ":abcdefgh");
        all(0, "jump :a", "jump :abcdef", "cases 1 :a :abcdef");
        all(ARGUMENT, "jump :", "jump :abcdefg", "cases 1 :", "cases 1 :a :abcdefg", "jz v1 :", "jz v1 :abcdefg", "table v1 :abcdefg");
    }

    private static void labelsAreOfSmallLetters() {
        Expect.sentence("a LABEL is \":\" and 1 to 6 small letters");
        for (int c = 33; c <= 255; c++) {
            if (c != ',' && c != ';') {
                boolean small = c >= 'a' && c <= 'z';
                alone(":" + (char) c, small ? 101 : WORD);
                alone(":b" + (char) c, small ? 101 : WORD);
                alone("jump :" + (char) c + "b", small ? 0 : ARGUMENT);
            }
        }
        all(WORD, "a", "a:", ";a", "::a", ":a:");
        all(ARGUMENT, "jump a", "jump a:", "jump 9a", "jump ;a", "jump ::a", "jump va");
    }

    private static void labelsWithDifferentNames() {
        Expect.sentence("at most 12 LABELS, with different names");
        String[] names = {":a", ":b", ":ab", ":ba", ":aa", ":aaa", ":abc", ":acb", ":zzzzzz", ":zzzzzy", ":yzzzzz", ":zzzzz"};
        Desk desk = new Desk();
        for (int k = 0; k < names.length; k++) {
            Expect.due("line \"" + names[k] + "\"", desk.line(names[k]), 101 + k);
        }
        for (String name : names) {
            Expect.due("line \"" + name + "\" again", desk.line(name), -6);
        }
    }

    private static void lineOfOneLabelSetsIt() {
        Expect.sentence("A LINE of one WORD that is a LABEL sets that LABEL: it stands before the next ITEM");
        Desk desk = Desk.of("nop", ":a", ":b", "nop", "jz v1 :a", "jz v1 :b", "nop", ":c", "jz v1 :c");
        Expect.due("items", desk.state(21), 6);
        Expect.due("assemble()", desk.assemble(), 9);
        Expect.due("where :a is", desk.read(2, 6), 1);
        Expect.due("where :b is", desk.read(4, 6), 1);
        Expect.due("where :c is", desk.read(7, 6), 7);
        alone(":a :b", WORD);
        alone(":a nop", WORD);
        alone(":a 1", WORD);
    }
}
