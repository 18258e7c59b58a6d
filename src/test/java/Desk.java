/** A UnitDesk with whole lines and texts, which sees to it that a test keeps to 512 calls. */
final class Desk {
    private final UnitDesk desk = new UnitDesk();
    private int calls;

    static Desk of(String... lines) {
        Desk made = new Desk();
        for (String line : lines) {
            made.accept(line);
        }
        return made;
    }

    /** A desk whose CODE is these units, set one by one. */
    static Desk ofUnits(int... units) {
        Desk made = new Desk();
        for (int i = 0; i < units.length; i++) {
            Expect.due("set(" + i + ", " + units[i] + ")", made.set(i, units[i]), i + 1);
        }
        return made;
    }

    private UnitDesk call() {
        calls++;
        if (calls > 512) {
            throw new IllegalStateException("a test makes more than 512 calls on one object");
        }
        return desk;
    }

    void accept(String line) {
        int answer = line(line);
        if (answer < 0) {
            Expect.due("line \"" + line + "\"", answer, 0);
        }
    }

    void type(String characters) {
        for (int i = 0; i < characters.length(); i++) {
            call().put(characters.charAt(i));
        }
    }

    int line(String line) {
        type(line);
        return call().line();
    }

    String tell(int a) {
        int length = told(a, -1);
        StringBuilder all = new StringBuilder();
        for (int k = 0; k < length; k++) {
            all.append((char) told(a, k));
        }
        return length < 0 ? String.valueOf(length) : all.toString();
    }

    /** All units of the CODE, with a space between each two. */
    String units() {
        StringBuilder all = new StringBuilder();
        int count = state(20);
        for (int i = 0; i < count; i++) {
            all.append(i == 0 ? "" : " ").append(unit(i));
        }
        return all.toString();
    }

    /** What can be asked of the object without changing it, so that two moments can be compared. */
    String snapshot() {
        StringBuilder all = new StringBuilder();
        for (int what = 0; what <= 24; what++) {
            all.append(state(what)).append(' ');
        }
        return all.append('|').append(units()).toString();
    }

    int put(int c) {
        return call().put(c);
    }

    int line() {
        return call().line();
    }

    int clear() {
        return call().clear();
    }

    int assemble() {
        return call().assemble();
    }

    int item(int i, int what) {
        return call().item(i, what);
    }

    int unit(int i) {
        return call().unit(i);
    }

    int set(int i, int w) {
        return call().set(i, w);
    }

    int read(int a, int what) {
        return call().read(a, what);
    }

    int check() {
        return call().check();
    }

    int told(int a, int k) {
        return call().told(a, k);
    }

    int run(int n) {
        return call().run(n);
    }

    int state(int what) {
        return call().state(what);
    }
}
