/** Promise 12: run. */
public final class Promise12RunTest {
    public static void main(String[] args) {
        calculations();
        wrapping();
        sameRegisters();
        jumps();
        conditions();
        tables();
        tablesThatDoNotGo();
        tablesAtTheEndOfNumbers();
        everyCountOfCases();
        stopsByRet();
        stopsByBad();
        stepsAtATime();
        placesOutside();
        wrongInputs();
        Expect.finish();
    }

    private static Desk done(int steps, String... lines) {
        Desk desk = Desk.of(lines);
        desk.assemble();
        Expect.due("run(" + steps + ") of " + String.join(" / ", lines), desk.run(steps), steps);
        return desk;
    }

    private static void calculations() {
        Expect.sentence("add, sub, mul, addi: A becomes B and C (n) added, less it, or multiplied");
        Desk desk = done(7, "const v1 7", "const v2 -300", "add v3 v1 v2", "sub v4 v1 v2", "mul v5 v1 v2", "addi v6 v2 -128",
            "move v7 v5");
        int[] want = {0, 7, -300, -293, 307, -2100, -428, -2100, 0};
        for (int r = 0; r < want.length; r++) {
            Expect.due("v" + r, desk.state(r), want[r]);
        }
        Expect.due("the place", desk.state(16), 12);
        Expect.due("stopped", desk.state(18), 0);
    }

    private static void wrapping() {
        Expect.sentence("added, less it, or multiplied (wrapping)");
        Desk desk = done(6, "const v1 -32768", "mul v2 v1 v1", "add v3 v2 v2", "addi v4 v3 -1", "sub v5 v4 v3", "mul v6 v4 v4");
        Expect.due("v2", desk.state(2), 1 << 30);
        Expect.due("v3", desk.state(3), Integer.MIN_VALUE);
        Expect.due("v4", desk.state(4), Integer.MAX_VALUE);
        Expect.due("v5", desk.state(5), -1);
        Expect.due("v6", desk.state(6), 1);
    }

    private static void sameRegisters() {
        Expect.sentence("A becomes B and C (n) added, less it, or multiplied");
        Desk desk = done(5, "const v15 5", "add v15 v15 v15", "mul v15 v15 v15", "sub v0 v15 v0", "addi v15 v15 1");
        Expect.due("v15", desk.state(15), 101);
        Expect.due("v0", desk.state(0), 100);
    }

    private static void jumps() {
        Expect.sentence("the PLACE is where it goes");
        Desk desk = done(3, "jump :b", ":a", "const v1 1", "ret v1", ":b", "const v2 2", "jump :a");
        Expect.due("the place", desk.state(16), 1);
        Expect.due("v1", desk.state(1), 0);
        Expect.due("v2", desk.state(2), 2);
        desk = done(30, ":a", "jump :a");
        Expect.due("the place of a jump to itself", desk.state(16), 0);
        Expect.due("steps", desk.state(17), 30);
    }

    private static void condition(String jump, int one, int two, boolean goes) {
        Desk desk = Desk.of("const v1 " + one, "const v2 " + two, jump + " :a", "nop", ":a");
        desk.assemble();
        desk.run(2);
        int before = desk.state(16);
        desk.run(1);
        Expect.due(jump + " with " + one + " and " + two, desk.state(16), before + (goes ? 3 : 2));
    }

    private static void conditions() {
        Expect.sentence("jeq if A is B, jlt if A is less than B, jz if A is 0");
        condition("jeq v1 v2", 3, 3, true);
        condition("jeq v1 v2", 3, 4, false);
        condition("jeq v1 v2", -300, -300, true);
        condition("jlt v1 v2", 3, 4, true);
        condition("jlt v1 v2", 3, 3, false);
        condition("jlt v1 v2", 4, 3, false);
        condition("jlt v1 v2", -300, 3, true);
        condition("jlt v1 v2", 3, -300, false);
        condition("jz v1", 0, 1, true);
        condition("jz v1", 1, 0, false);
        condition("jz v1", -1, 0, false);
        Desk desk = done(5, "const v1 -32768", "mul v2 v1 v1", "add v3 v2 v2", "addi v4 v3 -1", "jlt v3 v4 :a", "nop", ":a");
        Expect.due("jlt of the least and the greatest", desk.state(16), 11);
    }

    private static void choice(int value, int want) {
        Desk desk = Desk.of("const v1 " + value, "table v1 :c", "ret v0", ":a", "nop", ":b", "nop", ":c", "cases -1 :a :b :c :e", ":e");
        desk.assemble();
        int table = desk.item(1, 1);
        desk.run(1);
        Expect.due("run(1) of table", desk.run(1), 1);
        int got = desk.state(16);
        Expect.due("table with " + value, got, want < 0 ? table + 2 : desk.item(want, 1));
    }

    private static void tables() {
        Expect.sentence("the PLACE is its own ADDRESS and d of that LABEL");
        choice(-2, -1);
        choice(-1, 3);
        choice(0, 4);
        choice(1, 5);
        choice(3, -1);
        choice(32767, -1);
        choice(-32768, -1);
        Desk end = Desk.of("const v1 2", "table v1 :c", ":c", "cases -1 :c :c :c :e", ":e");
        end.assemble();
        end.run(2);
        Expect.due("table to the label behind all", end.state(16), 11);
        // The distance counts from the table that goes, not from the cases.
        Desk moved = Desk.ofUnits(0, 43, 4, 0, 0, 256, 2, 0, 65535, 2);
        moved.run(2);
        Expect.due("table by -1", moved.state(16), 0);
    }

    private static void tablesThatDoNotGo() {
        Expect.sentence("if at the ADDRESS to which it goes cases can be READ .. else the next one");
        int[][] codes = {{43, 2, 0, 0}, {43, 2}, {43, 65535}, {43, 32767}, {43, 2, 256, 1, 0}, {43, 2, 256, 0, 0, 0},
            {43, 2, 256, 5, 0, 1, 1, 1, 1, 1}, {43, 2, 256, 1, 1, 9}, {43, 2, 256, 1, 65535, 9}};
        for (int[] units : codes) {
            Desk desk = Desk.ofUnits(units);
            Expect.due("run(1) of " + java.util.Arrays.toString(units), desk.run(1), 1);
            Expect.due("the place after " + java.util.Arrays.toString(units), desk.state(16), 2);
        }
        Desk inside = Desk.ofUnits(43, 3, 19, 256, 1, 0, 7);
        inside.run(1);
        Expect.due("cases READ inside another thing", inside.state(16), 7);
        Desk least = Desk.of("const v1 -32768", "mul v2 v1 v1", "add v3 v2 v2", "table v3 :c", "nop", "nop", ":c", "cases 1 :c");
        least.assemble();
        least.run(4);
        Expect.due("table with the least number", least.state(16), 8);
    }

    /** The REGISTERS hold more than a NUMBER, so 32768 is behind 32767 and is not -32768. */
    private static void tablesAtTheEndOfNumbers() {
        Expect.sentence("A is n and k (wrapping), k from 0 on being that of a LABEL of these");
        int[] more = {0, 1, 2, -1};
        int[] wantedItems = {4, 5, 3, 3};
        for (int k = 0; k < more.length; k++) {
            Desk desk = Desk.of("const v1 32767", "addi v1 v1 " + more[k], "table v1 :c", "ret v0", ":a", "nop", ":b", "nop", ":c",
                "cases 32767 :a :b");
            desk.assemble();
            desk.run(3);
            Expect.due("table with 32767 and " + more[k], desk.state(16), desk.item(wantedItems[k], 1));
        }
        Desk least = Desk.of("const v1 -32768", "table v1 :c", "nop", "nop", ":c", "cases 32767 :c :c :c :c");
        least.assemble();
        least.run(2);
        Expect.due("table with -32768 and 32767 as the first", least.state(16), 4);
        Desk first = Desk.of("const v1 -32768", "table v1 :c", "nop", "nop", ":c", "cases -32768 :c");
        first.assemble();
        first.run(2);
        Expect.due("table with -32768 as the first", first.state(16), 6);
        Desk greatest = Desk.of("const v1 -32768", "mul v2 v1 v1", "add v3 v2 v2", "addi v3 v3 -1", "table v3 :c", "nop", "nop", ":c",
            "cases -1 :c :c :c :c");
        greatest.assemble();
        greatest.run(5);
        Expect.due("table with the greatest number", greatest.state(16), 10);
    }

    private static void everyCountOfCases() {
        Expect.sentence("k from 0 on being that of a LABEL of these");
        for (int many = 1; many <= 4; many++) {
            for (int k = -1; k <= 4; k++) {
                Desk desk = Desk.ofUnits(19 + 256, 5 + k, 43 + 256, 2, 256, many, 5, 100, 101, 102, 103);
                desk.run(2);
                int want = k >= 0 && k < many ? 2 + 100 + k : 4;
                Expect.due("table with k " + k + " and " + many + " labels", desk.state(16), want);
            }
        }
    }

    private static void stopsByRet() {
        Expect.sentence("ret: it stops, the PLACE stays, A is the OUTCOME");
        Desk desk = Desk.of("const v9 -77", "ret v9", "const v9 1");
        desk.assemble();
        Expect.due("run(30)", desk.run(30), 2);
        Expect.due("the place", desk.state(16), 2);
        Expect.due("steps", desk.state(17), 2);
        Expect.due("stopped", desk.state(18), 1);
        Expect.due("the outcome", desk.state(19), -77);
        Expect.due("run(1) when stopped", desk.run(1), 0);
        Expect.due("run(0) when stopped", desk.run(0), -1);
        desk.set(2, 0);
        Expect.due("run(1) with new code", desk.run(1), 0);
        Expect.due("steps", desk.state(17), 2);
        Expect.due("v9", desk.state(9), -77);
    }

    private static void stopsByBad() {
        Expect.sentence("BAD if nothing can be READ at the PLACE (steps before that were done); it has stopped .. till the next assemble");
        Desk desk = Desk.of("const v1 5", "nop");
        desk.assemble();
        Expect.due("run(3)", desk.run(3), -7);
        Expect.due("v1, as the steps before were done", desk.state(1), 5);
        Expect.due("the place", desk.state(16), 2);
        Expect.due("steps", desk.state(17), 2);
        Expect.due("stopped", desk.state(18), 2);
        Expect.due("the outcome", desk.state(19), 0);
        Expect.due("run(1) when stopped", desk.run(1), 0);
        desk.set(2, 0);
        Expect.due("run(1) when it could be READ now", desk.run(1), 0);
        Expect.due("stopped", desk.state(18), 2);
        desk.assemble();
        Expect.due("run(2) after assemble()", desk.run(2), 2);
        Expect.due("stopped, as nothing was READ at the end", desk.state(18), 0);
        Expect.due("run(1) of nothing", new Desk().run(1), -7);
        Expect.due("run(1) of a broken unit", Desk.ofUnits(512).run(1), -7);
    }

    private static void stepsAtATime() {
        Expect.sentence("So many steps (1 to 30) are done");
        Desk desk = Desk.of(":a", "addi v1 v1 1", "jump :a");
        desk.assemble();
        Expect.due("run(30)", desk.run(30), 30);
        Expect.due("run(1)", desk.run(1), 1);
        Expect.due("run(29)", desk.run(29), 29);
        Expect.due("v1", desk.state(1), 30);
        Expect.due("steps", desk.state(17), 60);
    }

    private static void placesOutside() {
        Expect.sentence("BAD if nothing can be READ at the PLACE (steps before that were done)");
        Desk below = Desk.ofUnits(40 + 256 * 128);
        Expect.due("run(1) to -128", below.run(1), 1);
        Expect.due("the place", below.state(16), -128);
        Expect.due("stopped", below.state(18), 0);
        Expect.due("run(1) at -128", below.run(1), -7);
        Expect.due("the place stays", below.state(16), -128);
        Desk above = Desk.ofUnits(41, 32767);
        Expect.due("run(2) to 32767", above.run(2), -7);
        Expect.due("the place", above.state(16), 32767);
        Expect.due("steps", above.state(17), 1);
        Desk cases = Desk.ofUnits(256, 2, 0, 0, 0, 15);
        Expect.due("run(2) over cases", cases.run(2), 2);
        Expect.due("the place", cases.state(16), 5);
    }

    private static void wrongInputs() {
        Expect.sentence("REFUSED for another n");
        Desk desk = Desk.of("nop", "nop");
        desk.assemble();
        int[] numbers = {0, 31, -1, Integer.MIN_VALUE, Integer.MAX_VALUE};
        for (int n : numbers) {
            Expect.due("run(" + n + ")", desk.run(n), -1);
        }
        Expect.due("steps", desk.state(17), 0);
        Expect.due("stopped", desk.state(18), 0);
    }
}
