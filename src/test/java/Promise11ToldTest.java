/** Promise 11: told. */
public final class Promise11ToldTest {
    public static void main(String[] args) {
        everyKind();
        goals();
        cases();
        edgesOfK();
        whatCanNotBeRead();
        Expect.finish();
    }

    private static void one(String want, int... units) {
        Expect.same("told at 0", Desk.ofUnits(units).tell(0), want);
    }

    private static void everyKind() {
        Expect.sentence("the first WORD as above, then a space before each ARGUMENT");
        one("nop", 0);
        one("move v15 v0", 1 + 256 * 15);
        one("ret v10", 15 + 256 * 0xfa);
        one("const v1 7", 18 + 256 + 4096 * 7);
        one("const v1 -8", 18 + 256 + 4096 * 8);
        one("const v1 0", 19 + 256, 0);
        one("const v15 -32768", 19 + 256 * 15, 32768);
        one("const v15 32767", 19 + 256 * 15, 32767);
        one("add v1 v2 v3", 400, 770);
        one("sub v1 v2 v3", 401, 770);
        one("mul v15 v14 v13", 146 + 256 * 15, 14 + 256 * 13);
        one("addi v1 v2 -128", 472, 32770);
        one("addi v1 v2 127", 472, 32514);
    }

    private static void goals() {
        Expect.sentence("ADDRESSES to which it goes .. as NUMBERS, too (with \"-\" below 0)");
        one("jump 0", 40);
        one("jump 127", 40 + 256 * 127);
        one("jump -128", 40 + 256 * 128);
        one("jump 32767", 41, 32767);
        one("jump -32768", 41, 32768);
        one("jeq v1 v2 -1", 50 + 256 + 8192, 65535);
        one("jlt v1 v2 10", 51 + 256 + 8192, 10);
        one("jz v3 100", 56 + 256 * 3, 100);
        one("table v3 2", 43 + 256 * 3, 2);
        Desk desk = Desk.ofUnits(0, 0, 40 + 256 * 253, 56, 65535, 43, 4);
        Expect.same("told at 2", desk.tell(2), "jump -1");
        Expect.same("told at 3", desk.tell(3), "jz v0 2");
        Expect.same("told at 5", desk.tell(5), "table v0 9");
    }

    private static void cases() {
        Expect.sentence("and the d of cases, as NUMBERS, too (with \"-\" below 0)");
        one("cases 0 3", 256, 1, 0, 3);
        one("cases -1 65 -2", 256, 2, 65535, 65, 65534);
        one("cases 7 0 0 0", 256, 3, 7, 0, 0, 0);
        one("cases -32768 -32768 -32768 -32768 -32768", 256, 4, 32768, 32768, 32768, 32768, 32768);
        Desk desk = Desk.ofUnits(0, 256, 1, 5, 3);
        Expect.same("d of cases is told as it is", desk.tell(1), "cases 5 3");
    }

    private static void edgesOfK() {
        Expect.sentence("Character k of that; with k = -1 how many it has. NONE for another k");
        Desk desk = Desk.ofUnits(0, 400, 770);
        Expect.due("told(1, -1)", desk.told(1, -1), 12);
        Expect.due("told(1, 0)", desk.told(1, 0), 'a');
        Expect.due("told(1, 3)", desk.told(1, 3), ' ');
        Expect.due("told(1, 11)", desk.told(1, 11), '3');
        int[] others = {12, -2, Integer.MIN_VALUE, Integer.MAX_VALUE};
        for (int k : others) {
            Expect.due("told(1, " + k + ")", desk.told(1, k), -2);
        }
        Expect.due("a shorter text after a longer one", desk.told(0, 3), -2);
        Expect.due("its length", desk.told(0, -1), 3);
    }

    private static void whatCanNotBeRead() {
        Expect.sentence("BAD if nothing can be READ there");
        Desk desk = Desk.ofUnits(0, 512, 19);
        int[] addresses = {1, 2, 3, -1, 200, Integer.MIN_VALUE, Integer.MAX_VALUE};
        for (int a : addresses) {
            Expect.due("told(" + a + ", -1)", desk.told(a, -1), -7);
            Expect.due("told(" + a + ", 0)", desk.told(a, 0), -7);
            Expect.due("told(" + a + ", -2), where no text is", desk.told(a, -2), -7);
            Expect.due("told(" + a + ", 99), where no text is", desk.told(a, 99), -7);
        }
    }
}
