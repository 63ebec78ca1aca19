import java.util.EnumMap;
import java.util.List;
import java.util.Map;
import java.util.function.Consumer;

/** Runs the tests of the document's boundary cases; each quotes the words that it would see broken. */
final class Edges {
    interface Call {
        int on(BurlPipes x);
    }

    /** A call of which one number is tried. */
    interface CallWith {
        int on(BurlPipes x, int v);
    }

    private final Check check = new Check("EdgesTest");
    private final Document document = new Document();
    private final Map<State, List<String>> untouched = new EnumMap<>(State.class);
    private String title = "";
    private int tests = 0;
    private final boolean[] named = new boolean[Document.PROMISES + 1];

    Edges() {
        for (State state : State.values()) {
            untouched.put(state, Traces.of(state::make));
        }
    }

    void test(int promise, String words, Consumer<Edges> body) {
        title = "promise " + promise + ", \"" + words + "\"";
        tests++;
        named[promise] = true;
        holds("stands in the document", document.quote(promise, words) || !document.isThere());
        body.accept(this);
    }

    void due(String what, long got, long want) {
        check.due(title + ": " + what, got, want);
    }

    void holds(String what, boolean is) {
        check.holds(title + ": " + what, is);
    }

    /** In the state each of the calls answers as due, and after them all nothing has changed. */
    void refused(State state, int due, Call... calls) {
        BurlPipes x = state.make();
        for (int i = 0; i < calls.length; i++) {
            due("refused call " + i + ", " + state, calls[i].on(x), due);
        }
        unchanged(state, y -> {
            for (Call call : calls) {
                call.on(y);
            }
        });
    }

    /** After the calls an object of the state answers to all as it would without them, but for the probes told. */
    void unchanged(State state, Consumer<BurlPipes> calls, String... but) {
        List<String> before = untouched.get(state);
        List<String> after = Traces.of(() -> {
            BurlPipes x = state.make();
            calls.accept(x);
            return x;
        });
        for (int i = 0; i < before.size(); i++) {
            String probe = before.get(i).split(":")[0];
            holds("nothing changed, " + state + ", asked for " + probe,
                    before.get(i).equals(after.get(i)) || List.of(but).contains(probe));
        }
    }

    /** A number just or far beside the bounds is refused in the state, and nothing changes. */
    void beside(State state, int low, int high, int due, CallWith call) {
        refused(state, due, x -> call.on(x, low - 1), x -> call.on(x, high + 1),
                x -> call.on(x, Integer.MIN_VALUE), x -> call.on(x, Integer.MAX_VALUE));
    }

    /** As beside() in each state: for bounds that are always the same, and hold ahead of a full store. */
    void beside(int low, int high, int due, CallWith call) {
        for (State state : State.values()) {
            beside(state, low, high, due, call);
        }
    }

    /** Both bounds are taken, each by an object of its own. */
    void taken(State state, int low, int high, int due, CallWith call) {
        due("the least, " + low, call.on(state.make(), low), due);
        due("the greatest, " + high, call.on(state.make(), high), due);
    }

    void end() {
        title = "the tests of the boundary cases";
        for (int promise = 1; promise <= Document.PROMISES; promise++) {
            holds("promise " + promise + " has one", named[promise]);
        }
        for (String words : document.unquoted()) {
            holds("no test quotes " + words, false);
        }
        System.out.println("EdgesTest: " + tests + " boundary cases");
        check.end();
    }
}
