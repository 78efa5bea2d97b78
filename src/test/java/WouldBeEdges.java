/** Edges of what would be: promises 18 to 21. */
final class WouldBeEdges {
    private final Edges edges;

    WouldBeEdges(Edges edges) {
        this.edges = edges;
    }

    void look() {
        promise18();
        promise19();
        promise20();
        promise21();
        nothingIsDone();
    }

    private void promise18() {
        edges.sentence(18, "UNKNOWN: box.");
        edges.page("b0011;0", "without(0)=0");
        edges.run(State.CROWDED.make(), "without(7)=0");
        edges.refused(State.values(), "UNKNOWN", "without(-1)", "without(8)", "without(MIN)", "without(MAX)");
        edges.refused(State.WITHOUT_PAGE, "UNKNOWN", "without(0)");
        edges.refused(State.LONE, "UNKNOWN", "without(1)");
        edges.refused(State.BUSY, "UNKNOWN", "without(7)");
    }

    private void promise19() {
        edges.sentence(19, "(A move by which a BOX would begin below 0 or end above 999 is looked at likewise.)");
        edges.page("b0011;0", "calm()=4");
        // Two at the same place, by their numbers: 0 to the right, or 1 to the left, turns them.
        edges.page("b0022,b0022;3", "calm()=6");
        edges.page("b0022,b0022;2", "calm()=6");
        edges.page("b0022,b0022;1", "calm()=8");
        edges.run(atTheEnd("b0011;3"), "box(0, 3) box(1, 4)=999", "calm()=6", "box(0, 3) box(1, 4)=999");
        edges.run(atTheEnd("b0011;2"), "calm()=6");
        edges.run(atTheEnd("b0011;1"), "calm()=8");
        edges.sentence(19, "STATE: no PAGE.");
        edges.refused(State.WITHOUT_PAGE, "STATE", "calm()");
    }

    /** Two boxes from 997 to 999 both ways. */
    private static LaneOrder atTheEnd(String page) {
        LaneOrder x = Calls.make(Calls.read(page), "put(900, 900)", "put(900, 900)", "take(0)");
        for (int i = 0; i < 10; i++) {
            Calls.make(x, "move(0, 9, 9)", "move(1, 9, 9)");
        }
        return Calls.make(x, "move(0, 7, 7)", "move(1, 7, 7)");
    }

    private void promise20() {
        edges.sentence(20, "STATE: no PAGE.");
        edges.refused(State.WITHOUT_PAGE, "STATE", "idle()");
        edges.page("b1044,b0144;23", "idle()=8");
        edges.page("b1044,b0144;32", "idle()=4");
        edges.page("b1044,b0044;23", "idle()=4");
        edges.page("b0144,t0044,n1044;0", "idle()=0");
    }

    private void promise21() {
        edges.sentence(21, "NONE.");
        edges.page("b0011;0", "free()=NONE");
        edges.page("c0011,f2233;0", "free()=0", "take(0)=1", "free()=NONE", "put(8, 8)=2", "free()=0");
        edges.sentence(21, "STATE: no PAGE.");
        edges.refused(State.WITHOUT_PAGE, "STATE", "free()");
    }

    /** What would be is only told: these calls leave all as it was, as refused ones do. */
    private void nothingIsDone() {
        for (State state : State.WITH_PAGE) {
            String asItWas = Edges.tellings(state.make());
            for (String call : new String[] {"without(0)", "calm()", "idle()", "free()", "drawn(20, 1, 0)", "fault()", "digest()", "lane(0, 0)"}) {
                LaneOrder x = state.make();
                Calls.ask(x, call);
                edges.same(state + ": what all tells behind " + call, Edges.tellings(x), asItWas);
            }
        }
    }
}
