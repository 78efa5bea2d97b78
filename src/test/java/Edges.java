import java.io.IOException;
import java.util.function.Supplier;

/** What the tests of edges share: the document's sentences, rows of calls with their answers, and refused calls. */
final class Edges {
    private static final int UNKNOWN = -101;

    private final Check check = new Check();
    private final Document document;

    Edges() throws IOException {
        document = new Document();
    }

    /** What is looked at from here on: words of a promise, or, of promise 0, of what stands ahead of all. */
    void sentence(int promise, String words) {
        check.part("promise " + promise + ", \"" + words + "\"");
        if (!document.quote(promise, words)) {
            check.fail("the document has no such words");
        }
    }

    /** Rows as "put(0, 0)=2"; several calls with one answer as "put(-1, 0) put(0, -1)=OUTSIDE". */
    void run(LaneOrder x, String... rows) {
        for (String row : rows) {
            int sign = row.lastIndexOf('=');
            long want = Calls.number(row.substring(sign + 1));
            for (String call : row.substring(0, sign).split("(?<=\\)) ")) {
                check.due(call, Calls.ask(x, call), want);
            }
        }
    }

    void page(String text, String... rows) {
        run(Calls.read(text), rows);
    }

    void fault(String text, int place) {
        check.due("fault() of " + text, Calls.ask(Calls.typed(text), "fault()"), place);
    }

    void due(String what, long got, long want) {
        check.due(what, got, want);
    }

    void same(String what, Object got, Object want) {
        check.same(what, got, want);
    }

    /** Each call is refused with this answer, and all goes on as if it had not been. */
    void refused(State[] states, String answer, String... calls) {
        for (State state : states) {
            refused(state, answer, calls);
        }
    }

    void refused(State state, String answer, String... calls) {
        refused(state.name(), state::make, answer, calls);
    }

    void refused(String name, Supplier<LaneOrder> state, String answer, String... calls) {
        String asItWas = tellings(state.get());
        for (String call : calls) {
            LaneOrder x = state.get();
            check.due(name + ": " + call, Calls.ask(x, call), Calls.number(answer));
            check.same(name + ": what all tells behind " + call, tellings(x), asItWas);
        }
    }

    /** All that can be told of an object, in fewer calls than it may be used for. */
    static String tellings(LaneOrder x) {
        StringBuilder all = new StringBuilder();
        all.append(x.digest()).append(' ').append(x.fault()).append(' ').append(x.calm()).append(" lanes:").append(lanes(x));
        for (int one = 0; one < x.count(0); one++) {
            for (int other = one + 1; other < x.count(0); other++) {
                all.append(' ').append(x.why(one, other));
            }
        }
        all.append(" image: ").append(x.restore()).append(' ').append(x.digest()).append(' ').append(x.calm());
        return all.toString();
    }

    static String order(LaneOrder x) {
        StringBuilder all = new StringBuilder();
        for (int place = 0; place < x.count(0); place++) {
            all.append(x.order(place));
        }
        return all.toString();
    }

    static String lanes(LaneOrder x) {
        StringBuilder all = new StringBuilder();
        for (int number = 0; x.lane(number, 0) != UNKNOWN; number++) {
            all.append(' ').append(x.lane(number, 0)).append('/').append(x.lane(number, 1)).append('/').append(x.lane(number, 2));
        }
        return all.toString().trim();
    }

    static String cuts(LaneOrder x) {
        StringBuilder all = new StringBuilder();
        for (int cut = 0; cut < x.count(1); cut++) {
            for (int what = 0; what <= 4; what++) {
                all.append(what == 0 ? " " : "/").append(x.cut(cut, what));
            }
        }
        return all.toString().trim();
    }

    void end(String name) {
        for (int promise = 0; promise <= Document.PROMISES; promise++) {
            check.part("promise " + promise);
            check.same("what no test of edges quotes", document.notQuoted(promise), "");
        }
        check.end(name);
    }
}
