import java.util.Arrays;

/** Promise 10: check. */
public final class Promise10CheckTest {
    private static final int NONE = -2;
    private static final int SHORT = 40;
    private static final int LONG = 41;
    private static final int TABLE = 43;

    public static void main(String[] args) {
        allIsWell();
        unreadable();
        strays();
        insideOfThings();
        tables();
        marksDoNotStay();
        fullCode();
        nothingChanges();
        Expect.finish();
    }

    private static void due(int want, int... units) {
        Expect.due("check() of " + Arrays.toString(units), Desk.ofUnits(units).check(), want);
    }

    private static void allIsWell() {
        Expect.sentence("NONE if all is well");
        due(NONE);
        due(NONE, 0);
        due(NONE, SHORT);
        due(NONE, LONG, 0);
        due(NONE, LONG, 2, 0);
        due(NONE, 0, SHORT + 256 * 255);
        due(NONE, 50, 2, 51, 65534, 56, 65532);
        due(NONE, TABLE, 2, 256, 1, 0, 77);
        due(NONE, 256, 1, 0, 77, TABLE, 65532);
        due(NONE, LONG, 2, 256, 1, 0, 2);
        due(NONE, SHORT + 256, 256, 1, 0, 0);
        Desk desk = Desk.of(":a", "jz v1 :b", "table v1 :c", "jump :a", ":b", "ret v0", ":c", "cases 1 :a :b");
        desk.assemble();
        Expect.due("check() of an assembled text", desk.check(), NONE);
    }

    private static void unreadable() {
        Expect.sentence("the first ADDRESS at which nothing can be read");
        due(0, 2);
        due(1, 0, 512);
        due(2, 0, 0, 19);
        due(3, 19, 2, 0, 2);
        due(0, 256, 5, 0, 0, 0, 0, 0, 0);
        due(4, 256, 1, 2, 2, 256, 1, 2);
        due(1, 0, 2, 2);
        // The stray jump at 0 is told only if all can be read.
        due(2, SHORT + 256 * 100, 0, 2);
    }

    private static void strays() {
        Expect.sentence("the least one of a thing with a d to an ADDRESS at which none of these things begins .. the end is none either");
        due(0, SHORT + 256 * 2, 19, 0);
        due(0, SHORT + 256);
        due(0, SHORT + 256 * 255);
        due(0, LONG, 2);
        due(0, LONG, 1);
        due(0, 50, 1);
        due(0, 51, 32767);
        due(0, 56, 32768);
        due(0, 56, 2);
        due(0, SHORT + 256 * 2, 256, 1, 0, 0);
        due(1, 0, LONG, 50, 56, 1);
        due(2, LONG, 2, 56, 1, 51, 1);
    }

    /** What could be READ inside of a thing is none of the things that are gone through. */
    private static void insideOfThings() {
        Expect.sentence("READING one thing behind the other");
        due(NONE, 19, SHORT + 256 * 100);
        due(NONE, 19, SHORT + 256 * 100, 0);
        due(NONE, 19, LONG, 0);
        due(NONE, 19, 2, 0);
        due(NONE, 256, 1, SHORT + 256 * 100, LONG);
        due(NONE, 256, 2, SHORT + 256 * 100, TABLE, 2);
        due(3, 19, SHORT + 256 * 100, 0, SHORT + 256 * 100);
        due(4, 256, 1, 56, 1, SHORT + 256);
    }

    private static void tables() {
        Expect.sentence("of table: not one that is cases");
        due(0, TABLE, 2, 0);
        due(0, TABLE, 0);
        due(0, TABLE, 2);
        due(0, TABLE, 65535);
        due(NONE, TABLE, 3, 0, 256, 1, 0, 0);
        due(0, TABLE, 4, 256, 1, 0, 0);
        // At 3 cases could be READ, but going through the CODE none begins there.
        due(0, TABLE, 3, 19, 256, 1, 0, 0);
    }

    private static void marksDoNotStay() {
        Expect.sentence("The CODE is gone through from ADDRESS 0 on");
        Desk desk = Desk.ofUnits(0, 0, SHORT + 256 * 255);
        Expect.due("check() with a thing at 1", desk.check(), NONE);
        desk.set(0, 19);
        Expect.due("check() with none at 1", desk.check(), 2);
        desk.set(0, 0);
        Expect.due("check() with a thing at 1 again", desk.check(), NONE);
        desk.accept("jump :a");
        desk.accept(":a");
        desk.assemble();
        Expect.due("check() of less code than before", desk.check(), 0);
    }

    private static void fullCode() {
        Expect.sentence("The CODE is gone through from ADDRESS 0 on");
        Desk desk = new Desk();
        for (int i = 0; i < 200; i++) {
            desk.set(i, 0);
        }
        Expect.due("check() of 200 units", desk.check(), NONE);
        desk.set(199, SHORT + 256);
        Expect.due("check() with a jump to 200", desk.check(), 199);
        desk.set(199, LONG);
        Expect.due("check() with half a jump at the end", desk.check(), 199);
    }

    private static void nothingChanges() {
        Expect.sentence("A call that answers a number below 0 changes nothing");
        Desk desk = Desk.of("const v1 5", "jump :a", ":a", "nop");
        desk.assemble();
        desk.run(2);
        String before = desk.snapshot();
        desk.check();
        Expect.same("all after check()", desk.snapshot(), before);
    }
}
