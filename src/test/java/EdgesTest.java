import java.io.IOException;

/** Each sentence of ../shared/DOC.md, promises 1 to 29 and the Terms, with its edges: none may be without a test. */
public final class EdgesTest {
    private EdgesTest() {
    }

    public static void main(String[] args) throws IOException {
        Edges e = new Edges();
        calls(e);
        new EdgesOfCoats(e).all();
        new EdgesOfTexts(e).all();
        new EdgesOfDays(e).all();
        new EdgesOfBest(e).all();
        new EdgesOfTold(e).all();
        new EdgesOfTheHost(e).all();
        e.end();
    }

    private static void calls(Edges e) {
        e.says("0", "An object is used for at most 512 calls after it has been made;");
        CoatsFitTheMood x = new CoatsFitTheMood();
        for (int i = 1; i <= 511; i++) e.is("call " + i, x.push(2, 23, i % 2 == 0 ? 1 : -1), i % 2 == 0 ? 50 : 49);
        e.is("call 512", x.told(223, 0), 49);
        e.says("0", "what later calls answer is free.");
        for (int i = 0; i < 2000; i++) x.push(2, 23, i % 2 == 0 ? 1 : -1);
        x.feed('e');
        x.text();
        x.chance(0, 10, 0, 500, 0);
        e.is("but a new object is as any", new CoatsFitTheMood().told(223, 0), 50);
    }
}
