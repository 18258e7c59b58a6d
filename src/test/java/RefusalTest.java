import java.util.function.Consumer;
import java.util.function.ToIntFunction;

/** "In each call REFUSED is tested first. A call that answers a number below 0 changes nothing, unless it says so." */
public final class RefusalTest {
    private static final int REFUSED = -1;
    private static final int NONE = -2;
    private static final int FULL = -3;
    private static final int WORD = -4;
    private static final int ARGUMENT = -5;
    private static final int LABEL = -6;
    private static final int BAD = -7;
    private static final int[] FAR = {Integer.MIN_VALUE, Integer.MIN_VALUE + 1, -65536, -32769, 65537, Integer.MAX_VALUE};

    public static void main(String[] args) {
        refusedIsTestedFirst();
        farNumbersAreAnswered();
        Expect.sentence("A call that answers a number below 0 changes nothing, unless it says so");
        putChangesNothing();
        lineChangesTheDraftAlone();
        fullLineChangesTheDraftAlone();
        assembleChangesNothing();
        fullAssembleChangesNothing();
        setChangesNothing();
        fullSetChangesNothing();
        askingChangesNothing();
        runChangesNothing();
        badRunStopsAlone();
        draftIsEmptyWhateverTheAnswer();
        Expect.finish();
    }

    private static void refusedIsTestedFirst() {
        Expect.sentence("In each call REFUSED is tested first");
        Desk draft = new Desk();
        draft.type("x".repeat(40));
        Expect.due("put(256) with 40 characters", draft.put(256), REFUSED);
        Expect.due("put(-1) with 40 characters", draft.put(-1), REFUSED);
        Expect.due("put(255) with 40 characters", draft.put(255), FULL);
        Desk empty = new Desk();
        Expect.due("item(0, 3) without an item", empty.item(0, 3), REFUSED);
        Expect.due("item(-1, -1)", empty.item(-1, -1), REFUSED);
        Expect.due("item(0, 2) without an item", empty.item(0, 2), NONE);
        Expect.due("read(0, 12) without a unit", empty.read(0, 12), REFUSED);
        Expect.due("read(-1, -1)", empty.read(-1, -1), REFUSED);
        Expect.due("read(0, 11) without a unit", empty.read(0, 11), BAD);
        Expect.due("run(0) where nothing can be READ", empty.run(0), REFUSED);
        Expect.due("run(31) where nothing can be READ", empty.run(31), REFUSED);
        Expect.due("it has not stopped by that", empty.state(18), 0);
        Desk units = new Desk();
        for (int i = 0; i < 200; i++) {
            units.set(i, 2);
        }
        Expect.due("set(200, 65536) of 200", units.set(200, 65536), REFUSED);
        Expect.due("set(200, -1) of 200", units.set(200, -1), REFUSED);
        Expect.due("set(201, 0) of 200", units.set(201, 0), REFUSED);
        Expect.due("set(-1, 0) of 200", units.set(-1, 0), REFUSED);
        Expect.due("set(200, 65535) of 200", units.set(200, 65535), FULL);
        Expect.due("read(0, 12) of what is BAD", units.read(0, 12), REFUSED);
        Expect.due("run(1)", units.run(1), BAD);
        Expect.due("run(0) when it has stopped", units.run(0), REFUSED);
        Expect.due("run(31) when it has stopped", units.run(31), REFUSED);
        Expect.due("run(30) when it has stopped", units.run(30), 0);
    }

    private static void farNumbersAreAnswered() {
        Expect.sentence("A number is not as said .. There is no such thing");
        Desk desk = Desk.of("nop", ":a", "cases 0 :a");
        desk.assemble();
        for (int far : FAR) {
            Expect.due("put(" + far + ")", desk.put(far), REFUSED);
            Expect.due("item(" + far + ", 0)", desk.item(far, 0), NONE);
            Expect.due("item(0, " + far + ")", desk.item(0, far), REFUSED);
            Expect.due("unit(" + far + ")", desk.unit(far), NONE);
            Expect.due("set(" + far + ", 0)", desk.set(far, 0), REFUSED);
            Expect.due("set(0, " + far + ")", desk.set(0, far), REFUSED);
            Expect.due("read(" + far + ", 0)", desk.read(far, 0), BAD);
            Expect.due("read(0, " + far + ")", desk.read(0, far), REFUSED);
            Expect.due("told(" + far + ", -1)", desk.told(far, -1), BAD);
            Expect.due("told(0, " + far + ")", desk.told(0, far), NONE);
            Expect.due("run(" + far + ")", desk.run(far), REFUSED);
            Expect.due("state(" + far + ")", desk.state(far), NONE);
        }
    }

    /** All that can be asked, and then what the object does when it goes on. */
    private static String future(Desk desk) {
        StringBuilder all = new StringBuilder(desk.snapshot());
        int items = desk.state(21);
        for (int i = 0; i < items; i++) {
            all.append(" i").append(desk.item(i, 1)).append(',').append(desk.item(i, 2));
        }
        all.append(" r").append(desk.run(1)).append(',').append(desk.state(16));
        all.append(" l").append(desk.line()).append(',').append(desk.state(22));
        all.append(" s").append(desk.line(":zz")).append(',').append(desk.state(24));
        all.append(" a").append(desk.assemble()).append(',').append(desk.units());
        all.append(" c").append(desk.clear());
        return all.toString();
    }

    /** Makes two desks alike, has the call on one of them, and sees whether the two go on alike. */
    private static void twins(String name, Consumer<Desk> start, int want, ToIntFunction<Desk> call) {
        Desk one = new Desk();
        Desk other = new Desk();
        start.accept(one);
        start.accept(other);
        Expect.due(name, call.applyAsInt(one), want);
        Expect.same("what the object is after " + name, future(one), future(other));
    }

    private static void lines(Desk desk, String... lines) {
        for (String line : lines) {
            desk.accept(line);
        }
    }

    /** A text, other code, a machine that goes on, and a draft that is begun. */
    private static void busy(Desk desk) {
        lines(desk, "const v1 5", "const v2 300", ":a", "addi v1 v1 1", "jump :a", "ret v1");
        desk.assemble();
        desk.run(3);
        lines(desk, "table v1 :t", ":b", "jump :b", ":t", "cases 5 :a :b");
        desk.set(7, 77);
        desk.type("ret v");
    }

    private static void begun(Desk desk) {
        busy(desk);
        desk.line();
    }

    private static void putChangesNothing() {
        twins("put(-1)", RefusalTest::busy, REFUSED, desk -> desk.put(-1));
        twins("put(256)", RefusalTest::busy, REFUSED, desk -> desk.put(256));
        Consumer<Desk> full = desk -> {
            begun(desk);
            desk.type("ret v1" + " ".repeat(34));
        };
        twins("put(65) with 40 characters", full, FULL, desk -> desk.put(65));
        twins("put(44) with 40 characters", full, FULL, desk -> desk.put(44));
        twins("put(300) with 40 characters", full, REFUSED, desk -> desk.put(300));
    }

    private static void lineChangesTheDraftAlone() {
        String[] unknown = {"", " ", ";nop", "nap", ":q nop", ":q :r", "Q", ":toolong", "v1", "5"};
        for (String line : unknown) {
            twins("line \"" + line + "\"", RefusalTest::begun, WORD, desk -> desk.line(line));
        }
        String[] wrong = {"nop 1", "move v1", "move v1 v16", "ret", "ret v1 v2", "const v1 32768", "const v1 -0", "add v1 v2",
            "addi v1 v2 128", "jump", "jump q", "jump :q :r", "jeq v1 v16 :q", "jeq v1 :q", "jz v1 :q v1", "table :q", "cases :q",
            "cases 5 :q :r :s 5", "cases 5 :q :r :s :t :u", "cases 40000 :q"};
        for (String line : wrong) {
            twins("line \"" + line + "\"", RefusalTest::begun, ARGUMENT, desk -> desk.line(line));
        }
        twins("line \":a\" again", RefusalTest::begun, LABEL, desk -> desk.line(":a"));
        twins("line \":b\" again", RefusalTest::begun, LABEL, desk -> desk.line(":b"));
        // Set again behind the last ITEM, the label still stands where it stood.
        twins("line \":t\" again", RefusalTest::begun, LABEL, desk -> desk.line(":t"));
    }

    private static void fullLineChangesTheDraftAlone() {
        Consumer<Desk> items = desk -> {
            lines(desk, ":a");
            for (int i = 0; i < 39; i++) {
                desk.accept("nop");
            }
            desk.accept("jump :a");
        };
        String[] lines = {"nop", "const v1 900", "jump :q", "jump :a", "table v1 :q", "cases 1 :q :r :s :t"};
        for (String line : lines) {
            twins("line \"" + line + "\" with 40 items", items, FULL, desk -> desk.line(line));
        }
        Consumer<Desk> labels = desk -> {
            lines(desk, ":a", ":b", "jump :c", ":d", "jump :e", ":f", "jump :g", ":h", "jump :i", ":j", "jump :k");
            lines(desk, ":c", ":e", ":g", ":i", ":k");
        };
        twins("line \"cases 0 :q :r\" with 11 labels", labels, FULL, desk -> desk.line("cases 0 :q :r"));
        twins("line \"cases 0 :q :a :q :r\" with 11 labels", labels, FULL, desk -> desk.line("cases 0 :q :a :q :r"));
        Consumer<Desk> twelve = labels.andThen(desk -> desk.accept(":l"));
        String[] more = {":q", "jump :q", "table v1 :q", "cases 1 :a :b :c :q", "cases 1 :q :a"};
        for (String line : more) {
            twins("line \"" + line + "\" with 12 labels", twelve, FULL, desk -> desk.line(line));
        }
        twins("line \":l\" with 12 labels", twelve, LABEL, desk -> desk.line(":l"));
    }

    private static void assembleChangesNothing() {
        Consumer<Desk> unset = desk -> {
            busy(desk);
            desk.line();
            desk.accept("jump :q");
        };
        twins("assemble() with a label that is not set", unset, LABEL, Desk::assemble);
        Consumer<Desk> astray = desk -> {
            busy(desk);
            desk.line();
            desk.accept("table v1 :a");
        };
        twins("assemble() with a table to addi", astray, BAD, Desk::assemble);
        Consumer<Desk> stopped = astray.andThen(desk -> {
            desk.set(desk.state(16), 15 + 256);
            desk.run(1);
        });
        twins("assemble() with a table to addi after ret", stopped, BAD, Desk::assemble);
    }

    private static void fullAssembleChangesNothing() {
        Consumer<Desk> start = desk -> {
            lines(desk, ":a", "ret v1");
            desk.set(0, 18 + 256 + 4096 * 5);
            desk.set(1, 15 + 256);
            desk.run(2);
            for (int i = 0; i < 33; i++) {
                desk.accept("cases 1 :a :a");
            }
            desk.accept("nop");
        };
        Desk desk = new Desk();
        start.accept(desk);
        Expect.due("assemble() of 200 units", desk.assemble(), 200);
        Desk more = new Desk();
        start.accept(more);
        more.accept("nop");
        Expect.due("assemble() of 201 units", more.assemble(), FULL);
        Expect.due("units after FULL", more.state(20), 2);
        Expect.due("unit(0) after FULL", more.unit(0), 20754);
        Expect.due("v1 after FULL", more.state(1), 5);
        Expect.due("the place after FULL", more.state(16), 1);
        Expect.due("steps after FULL", more.state(17), 2);
        Expect.due("stopped after FULL", more.state(18), 1);
        Expect.due("the outcome after FULL", more.state(19), 5);
        Expect.due("items after FULL", more.state(21), 36);
    }

    private static void setChangesNothing() {
        int[][] wrong = {{0, -1}, {0, 65536}, {-1, 5}, {9, 5}, {8, 65536}, {8, -1}, {200, 5}, {199, 5}};
        for (int[] pair : wrong) {
            twins("set(" + pair[0] + ", " + pair[1] + ")", RefusalTest::busy, REFUSED, desk -> desk.set(pair[0], pair[1]));
        }
    }

    private static void fullSetChangesNothing() {
        Consumer<Desk> start = desk -> {
            for (int i = 0; i < 200; i++) {
                desk.set(i, 200 + i);
            }
        };
        twins("set(200, 5)", start, FULL, desk -> desk.set(200, 5));
        twins("set(201, 5)", start, REFUSED, desk -> desk.set(201, 5));
    }

    private static void askingChangesNothing() {
        twins("item(9, 1)", RefusalTest::busy, NONE, desk -> desk.item(9, 1));
        twins("item(0, 3)", RefusalTest::busy, REFUSED, desk -> desk.item(0, 3));
        twins("unit(8)", RefusalTest::busy, NONE, desk -> desk.unit(8));
        twins("unit(-1)", RefusalTest::busy, NONE, desk -> desk.unit(-1));
        twins("read(0, 12)", RefusalTest::busy, REFUSED, desk -> desk.read(0, 12));
        twins("read(7, 0)", RefusalTest::busy, BAD, desk -> desk.read(7, 0));
        twins("read(0, 6)", RefusalTest::busy, NONE, desk -> desk.read(0, 6));
        twins("told(7, 0)", RefusalTest::busy, BAD, desk -> desk.told(7, 0));
        twins("told(0, 10)", RefusalTest::busy, NONE, desk -> desk.told(0, 10));
        twins("told(0, -2)", RefusalTest::busy, NONE, desk -> desk.told(0, -2));
        twins("state(25)", RefusalTest::busy, NONE, desk -> desk.state(25));
        twins("state(-1)", RefusalTest::busy, NONE, desk -> desk.state(-1));
        twins("check()", RefusalTest::busy, 7, Desk::check);
        Consumer<Desk> well = desk -> {
            busy(desk);
            desk.set(7, 0);
        };
        twins("check() when all is well", well, NONE, Desk::check);
    }

    private static void runChangesNothing() {
        int[] wrong = {0, 31, -1, -30};
        Consumer<Desk> stopped = desk -> {
            busy(desk);
            desk.set(desk.state(16), 15 + 256);
            desk.run(1);
        };
        for (int n : wrong) {
            twins("run(" + n + ")", RefusalTest::busy, REFUSED, desk -> desk.run(n));
            twins("run(" + n + ") after ret", stopped, REFUSED, desk -> desk.run(n));
        }
        twins("run(1) after ret", stopped, 0, desk -> desk.run(1));
        twins("run(30) after ret", stopped, 0, desk -> desk.run(30));
        Consumer<Desk> broken = desk -> {
            busy(desk);
            desk.set(desk.state(16), 2);
            desk.run(1);
        };
        twins("run(1) after BAD", broken, 0, desk -> desk.run(1));
        twins("run(30) after BAD", broken, 0, desk -> desk.run(30));
    }

    /** Of all that can be asked only state(18) is another then. */
    private static void badRunStopsAlone() {
        Desk desk = new Desk();
        busy(desk);
        desk.set(desk.state(16), 2);
        String[] before = desk.snapshot().split(" ");
        Expect.due("run(5) where nothing can be READ", desk.run(5), BAD);
        String[] after = desk.snapshot().split(" ");
        Expect.same("state(18)", before[18] + " then " + after[18], "0 then 2");
        after[18] = "0";
        Expect.same("all else", String.join(" ", after), String.join(" ", before));
    }

    private static void draftIsEmptyWhateverTheAnswer() {
        Expect.sentence("The DRAFT is read as a LINE, and is empty then, whatever the answer");
        Desk desk = Desk.of(":a");
        for (int i = 0; i < 40; i++) {
            desk.accept("nop");
        }
        String[] lines = {"nop", "jump :q", ":a", "nop 1", "nap", "", ":b"};
        int[] answers = {FULL, FULL, LABEL, ARGUMENT, WORD, WORD, 102};
        for (int k = 0; k < lines.length; k++) {
            Expect.due("line \"" + lines[k] + "\"", desk.line(lines[k]), answers[k]);
            Expect.due("characters after it", desk.state(23), 0);
            Expect.due("the next line()", desk.line(), WORD);
        }
        Expect.due("put(65)", desk.put(65), 1);
    }
}
