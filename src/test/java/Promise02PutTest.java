/** Promise 2: put. */
public final class Promise02PutTest {
    public static void main(String[] args) {
        edgesOfCharacters();
        fullAtForty();
        refusedChangesNothing();
        Expect.finish();
    }

    private static void edgesOfCharacters() {
        Expect.sentence("Character c (0 to 255) comes to the end of the DRAFT: how many it has");
        Desk desk = new Desk();
        Expect.due("put(0)", desk.put(0), 1);
        Expect.due("put(255)", desk.put(255), 2);
        Expect.due("put(-1)", desk.put(-1), -1);
        Expect.due("put(256)", desk.put(256), -1);
        Expect.due("put(least)", desk.put(Integer.MIN_VALUE), -1);
        Expect.due("put(greatest)", desk.put(Integer.MAX_VALUE), -1);
        Expect.due("characters", desk.state(23), 2);
        Expect.due("put(59)", desk.put(59), 3);
    }

    private static void fullAtForty() {
        Expect.sentence("FULL if it has 40");
        Desk desk = new Desk();
        desk.type("nop");
        for (int i = 4; i <= 40; i++) {
            Expect.due("put number " + i, desk.put(32), i);
        }
        Expect.due("put number 41", desk.put(32), -3);
        Expect.due("put(256) into a full draft", desk.put(256), -1);
        Expect.due("characters", desk.state(23), 40);
        Expect.due("the line of 40 characters", desk.line(), 0);
        Expect.due("put after the line", desk.put(32), 1);
    }

    private static void refusedChangesNothing() {
        Expect.sentence("A call that answers a number below 0 changes nothing");
        Desk desk = new Desk();
        desk.type("no");
        desk.put(-1);
        desk.put('p');
        Expect.due("nop with a refused character between", desk.line(), 0);
    }
}
