import java.math.BigInteger;

/** Edges of what is told of all: promises 25 to 28. */
final class AllEdges {
    private final Edges edges;
    private BigInteger sum = BigInteger.ZERO;

    AllEdges(Edges edges) {
        this.edges = edges;
    }

    void look() {
        promise25();
        promise26();
        promise27();
        promise28();
    }

    private void promise25() {
        edges.sentence(25, "(one; the latest)");
        edges.page("b0011,t2233,n4455;0", "image()=3", "take(0)=2", "image()=2", "take(0)=1", "restore()=2", "box(0, 0)=1", "restore()=2");
        edges.sentence(25, "STATE: no PAGE.");
        edges.refused(State.WITHOUT_PAGE, "STATE", "image()");
    }

    private void promise26() {
        edges.sentence(0, "An IMAGE keeps the BOXES, the RULES, SEEN.");
        LaneOrder kept = Calls.read("t0044,b1144,n8899;03");
        edges.run(kept, "see(0, 0, true)=1", "see(2, 1, true)=2", "image()=3");
        edges.run(kept, "move(2, -7, -7)=0", "rules(1)=1", "change(0, 2)=1", "forget()=2", "see(1, 3, true)=1", "take(0)=2");
        for (int times = 0; times < 2; times++) {
            edges.run(kept, "restore()=3", "count(1)=1", "count(2)=2", "count(3)=2", "count(5)=2", "cut(0, 2)=4", "order(0)=0", "order(2)=2");
            edges.run(kept, "box(0, 0)=1", "box(2, 1)=8", "box(0, 8)=2", "box(1, 8)=31", "box(2, 8)=20", "why(0, 1)=0", "idle()=9");
            // What goes on is not the image itself.
            edges.run(kept, "change(0, 2)=1", "see(1, 0, true)=3", "rules(1)=1");
        }
        edges.sentence(26, "STATE: none was kept, or there is another PAGE since.");
        edges.refused(new State[] {State.NEW, State.TYPING, State.LONE}, "STATE", "restore()");
        edges.run(Calls.make(Calls.read("b0011;0"), "image()"), "restore()=1", "restore()=1");
        LaneOrder x = Calls.type(Calls.make(State.BUSY.make(), "blank()"), "b0011");
        edges.run(x, "page()=STATE", "restore()=7", "count(6)=5");
        Calls.type(x, ";0");
        edges.run(x, "page()=1", "restore()=STATE", "count(0)=1", "image()=1", "restore()=1");
        edges.refused("another page", () -> Calls.make(Calls.type(Calls.make(State.BUSY.make(), "blank()"), "b0011;0"), "page()"), "STATE", "restore()");
        // The same text again is another page, too.
        LaneOrder y = Calls.make(Calls.type(Calls.make(Calls.read("b0011;0"), "image()"), "b0011;0"), "page()");
        edges.run(y, "restore()=STATE", "count(7)=2");
    }

    private void promise27() {
        edges.sentence(27, "OUTSIDE.");
        edges.run(State.CROWDED.make(), "count(0)=8", "count(3)=4", "count(4)=2", "count(5)=6", "count(6)=54", "count(7)=1");
        edges.refused(State.values(), "OUTSIDE", "count(-1)", "count(8)", "count(MIN)", "count(MAX)");
        edges.sentence(27, "7 how often a PAGE was read");
        LaneOrder x = Calls.make(Calls.read("b0011;0"), "image()");
        edges.run(x, "page()=STATE", "restore()=1", "count(7)=1");
    }

    private void promise28() {
        edges.sentence(28, "31 times h, and it (as longs, wrapping)");
        for (State state : State.values()) {
            edges.due("digest of " + state, state.make().digest(), wrapped(state.make()));
        }
        edges.sentence(28, "of each BOX what box() tells for 0 to 9; the ORDER; of each CUT what cut() tells for 0 to 4; with a PAGE idle(), free(); "
            + "letters of the text; what count() tells for 0 to 7.");
        edges.due("digest of a new one", new LaneOrder().digest(), 1429L * 31 * 31 * 31 * 31 * 31 * 31 * 31 * 31);
        LaneOrder x = Calls.make(new LaneOrder(), "letter(1)", "letter(126)");
        edges.due("digest of two letters", x.digest(), ((1429L * 31 + 1) * 31 + 126) * 31 * 31 * 31 * 31 * 31 * 31 * 31 * 31 + 2 * 31);
    }

    private void add(long number) {
        sum = sum.multiply(BigInteger.valueOf(31)).add(BigInteger.valueOf(number));
    }

    /** The digest from what the other calls tell, without a bound, and only then wrapped. */
    private long wrapped(LaneOrder x) {
        sum = BigInteger.valueOf(1429);
        for (int box = 0; box < x.count(0); box++) {
            for (int what = 0; what <= 9; what++) {
                add(x.box(box, what));
            }
        }
        for (int place = 0; place < x.count(0); place++) {
            add(x.order(place));
        }
        for (int cut = 0; cut < x.count(1); cut++) {
            for (int what = 0; what <= 4; what++) {
                add(x.cut(cut, what));
            }
        }
        if (x.count(0) > 0) {
            add(x.idle());
            add(x.free());
        }
        addLetters(x);
        return sum.longValue();
    }

    private void addLetters(LaneOrder x) {
        String letters = switch (x.count(6)) {
            case 3 -> "t12";
            case 6 -> "b0011,";
            case 54 -> "b0011,t2233,n4455,f6677,c8899,c0088,b8091,b0819;3210~~";
            default -> "";
        };
        letters.chars().forEach(this::add);
        for (int what = 0; what <= 7; what++) {
            add(x.count(what));
        }
    }
}
