/** Edges of what is done: promises 12 to 17. */
final class DoneEdges {
    private static final String SEVEN = "b0011,b1122,b2233,b3344,b4455,b5566,b6677;0";

    private final Edges edges;

    DoneEdges(Edges edges) {
        this.edges = edges;
    }

    void look() {
        promise12();
        promise13();
        promise14();
        promise15();
        promise16();
        promise17();
    }

    private void promise12() {
        edges.sentence(12, "OUTSIDE: left, top (0 to 900)");
        edges.page("t0011;0", "put(0, 0)=2", "box(1, 0) box(1, 1) box(1, 2)=0", "box(1, 3) box(1, 4)=2");
        edges.page("t0011;0", "put(900, 0)=2", "box(1, 1)=900", "box(1, 2)=0", "box(1, 3)=902", "box(1, 4)=2");
        edges.page("t0011;0", "put(0, 900)=2", "box(1, 1)=0", "box(1, 2)=900", "box(1, 3)=2", "box(1, 4)=902");
        edges.refused(State.values(), "OUTSIDE", "put(-1, 0)", "put(0, -1)", "put(901, 0)", "put(0, 901)", "put(901, 901)", "put(MIN, 0)",
            "put(0, MIN)", "put(MAX, 0)", "put(0, MAX)");
        edges.sentence(12, "STATE: no PAGE");
        edges.refused(State.WITHOUT_PAGE, "STATE", "put(0, 0)", "put(900, 900)");
        edges.sentence(12, "FULL: there are eight.");
        edges.page(SEVEN, "put(900, 900)=8", "box(7, 1)=900", "put(0, 0) put(900, 900)=FULL", "count(0)=8", "take(0)=7", "put(0, 0)=8");
        edges.refused(State.CROWDED, "FULL", "put(0, 0)", "put(900, 900)");
    }

    private void promise13() {
        edges.sentence(13, "(those behind it have numbers 1 less; what is SEEN stays with the numbers)");
        LaneOrder x = Calls.make(Calls.read("t0011,n2233,f4455;0"), "see(0, 0, true)", "see(2, 2, true)");
        edges.run(x, "take(0)=2", "box(0, 0)=2", "box(1, 0)=3", "box(2, 0)=UNKNOWN", "box(0, 8)=2", "box(1, 8)=31", "count(5)=2");
        edges.run(x, "put(8, 8)=3", "box(2, 8)=16", "take(2)=2", "box(0, 0)=2", "box(1, 0)=3");
        edges.sentence(13, "UNKNOWN;");
        edges.refused(State.values(), "UNKNOWN", "take(-1)", "take(8)", "take(MIN)", "take(MAX)");
        edges.refused(State.WITHOUT_PAGE, "UNKNOWN", "take(0)");
        edges.refused(State.LONE, "UNKNOWN", "take(1)");
        edges.refused(State.BUSY, "UNKNOWN", "take(7)");
        edges.sentence(13, "STATE: it is the only one.");
        edges.refused(State.LONE, "STATE", "take(0)");
        edges.page("b0011,t2233;0", "take(0)=1", "take(0)=STATE", "box(0, 0)=1", "put(5, 5)=2", "take(1)=1", "take(0)=STATE");
        LaneOrder y = State.CROWDED.make();
        for (int left = 7; left >= 1; left--) {
            edges.run(y, "take(" + left + ")=" + left);
        }
        edges.run(y, "take(0)=STATE", "count(0)=1");
    }

    private void promise14() {
        edges.sentence(14, "UNKNOWN;");
        edges.refused(State.values(), "UNKNOWN", "move(-1, 0, 0)", "move(8, 0, 0)", "move(MIN, 0, 0)", "move(MAX, 1, 1)", "move(-1, 10, 0)");
        edges.refused(State.WITHOUT_PAGE, "UNKNOWN", "move(0, 0, 0)");
        edges.refused(State.LONE, "UNKNOWN", "move(1, 0, 0)");
        edges.refused(State.BUSY, "UNKNOWN", "move(7, 0, 0)");
        edges.sentence(14, "OUTSIDE: right, down (-9 to 9)");
        edges.run(State.BUSY.make(), "move(6, 9, -9)=1", "box(6, 1)=409", "box(6, 2)=391", "box(6, 3)=411", "box(6, 4)=393");
        edges.run(State.BUSY.make(), "move(6, -9, 9)=1", "box(6, 1)=391", "box(6, 2)=409", "box(6, 3)=393", "box(6, 4)=411");
        edges.run(State.BUSY.make(), "move(6, 0, 0)=1", "box(6, 1) box(6, 2)=400");
        edges.refused(State.BUSY, "OUTSIDE", "move(6, 10, 0)", "move(6, -10, 0)", "move(6, 0, 10)", "move(6, 0, -10)", "move(6, 10, -10)",
            "move(6, MIN, 0)", "move(6, 0, MIN)", "move(6, MAX, 0)", "move(6, 0, MAX)");
        edges.sentence(14, "(to the left, up: numbers below 0)");
        edges.page("b5678;0", "move(0, -1, 0)=0", "box(0, 1)=4", "box(0, 2)=6", "move(0, 0, -1)=0", "box(0, 1)=4", "box(0, 2)=5");
        edges.sentence(14, "or it would begin below 0");
        edges.page("b1257;0", "move(0, -1, -2)=0", "box(0, 1) box(0, 2)=0", "box(0, 3)=4", "box(0, 4)=5");
        edges.refused("at 1, 2", () -> Calls.read("b1257;0"), "OUTSIDE", "move(0, -2, 0)", "move(0, 0, -3)", "move(0, -9, 9)", "move(0, 9, -9)");
        edges.refused("at 0, 0", () -> Calls.read("b0044;0"), "OUTSIDE", "move(0, -1, 0)", "move(0, 0, -1)", "move(0, -1, 1)", "move(0, 1, -1)");
        edges.sentence(14, "or end above 999.");
        edges.run(DoneEdges.nearTheEnd(), "move(1, 9, 0)=1", "box(1, 3)=999", "box(1, 4)=992", "box(1, 1)=997", "move(1, 1, 0)=OUTSIDE");
        edges.run(DoneEdges.nearTheEnd(), "move(1, 0, 7)=1", "box(1, 3)=990", "box(1, 4)=999", "box(1, 2)=997", "move(1, 0, 1)=OUTSIDE");
        edges.refused("near the end", DoneEdges::nearTheEnd, "OUTSIDE", "move(1, 0, 8)", "move(1, -9, 8)", "move(1, 0, 9)");
        edges.refused("at the end", () -> Calls.make(nearTheEnd(), "move(1, 9, 7)"), "OUTSIDE", "move(1, 1, 0)", "move(1, 0, 1)", "move(1, 1, -1)", "move(1, -1, 1)");
    }

    /** A box from 988, 990 to 990, 992. */
    private static LaneOrder nearTheEnd() {
        LaneOrder x = Calls.make(Calls.read("b0011;0"), "put(898, 900)");
        for (int i = 0; i < 10; i++) {
            Calls.make(x, "move(1, 9, 9)");
        }
        return x;
    }

    private void promise15() {
        edges.sentence(15, "A BOX is of another KIND: of which it was.");
        edges.page("n0044,t1144,b0144;0", "order(0)=1", "change(1, 0)=1", "order(0)=0", "change(2, 1)=0", "order(0)=2", "change(2, 1)=1");
        LaneOrder x = Calls.read("f0011,c2233,b4455;0");
        edges.run(x, "box(1, 6)=0", "change(0, 0)=3", "box(1, 6)=NONE", "count(4)=0", "count(1)=2", "change(2, 3)=0", "box(1, 6)=2", "order(2)=1");
        edges.sentence(15, "UNKNOWN;");
        edges.refused(State.values(), "UNKNOWN", "change(-1, 0)", "change(8, 0)", "change(MIN, 0)", "change(MAX, 4)", "change(8, 5)");
        edges.refused(State.WITHOUT_PAGE, "UNKNOWN", "change(0, 0)");
        edges.refused(State.LONE, "UNKNOWN", "change(1, 0)");
        edges.refused(State.BUSY, "UNKNOWN", "change(7, 0)");
        edges.sentence(15, "OUTSIDE: kind (0 to 4).");
        edges.page("n0011;0", "change(0, 0)=2", "change(0, 4)=0", "change(0, 4)=4", "change(0, 3)=4", "change(0, 1)=3", "box(0, 0)=1");
        edges.refused(State.WITH_PAGE, "OUTSIDE", "change(0, -1)", "change(0, 5)", "change(0, MIN)", "change(0, MAX)");
    }

    private void promise16() {
        edges.sentence(16, "the first one the highest (a 0 ahead as a 4)");
        String heap = "n1044,t0144,b0044;3";
        edges.same("3, then 0", Edges.order(Calls.make(Calls.read(heap), "rules(34)")), "120");
        edges.same("0, then 3", Edges.order(Calls.make(Calls.read(heap), "rules(43)")), "120");
        edges.same("2, then 0", Edges.order(Calls.make(Calls.read(heap), "rules(24)")), "021");
        edges.same("0, then 2", Edges.order(Calls.make(Calls.read(heap), "rules(42)")), "102");
        edges.same("2, then 1", Edges.order(Calls.make(Calls.read(heap), "rules(21)")), "201");
        edges.same("0, then 1", Edges.order(Calls.make(Calls.read(heap), "rules(41)")), "120");
        edges.sentence(16, "OUTSIDE: digits (one to four, of 1, 2, 3, and 4 for RULE 0, unlike)");
        for (int digits = -5; digits <= 50000; digits++) {
            String told = Integer.toString(digits);
            boolean right = told.matches("[1-4]{1,4}") && told.chars().distinct().count() == told.length();
            edges.due("rules(" + told + "), no page", new LaneOrder().rules(digits), Calls.number(right ? "STATE" : "OUTSIDE"));
        }
        edges.page("b0011;0", "rules(1)=1", "rules(4)=1", "rules(12)=2", "rules(43)=2", "rules(321)=3", "rules(1234)=4", "rules(4321)=4", "count(3)=4");
        edges.refused(State.values(), "OUTSIDE", "rules(0)", "rules(5)", "rules(-1)", "rules(-4321)", "rules(11)", "rules(10)", "rules(1231)", "rules(12341)",
            "rules(43210)", "rules(MIN)", "rules(MAX)");
        edges.sentence(16, "STATE: no PAGE.");
        edges.refused(State.WITHOUT_PAGE, "STATE", "rules(1)", "rules(4)", "rules(1234)", "rules(4321)");
    }

    private void promise17() {
        edges.sentence(17, "All numbers of all BOXES times so much: the greatest number then.");
        edges.page("b0011,b2233;0", "scale(5)=15", "cut(0, 1) cut(0, 2) lane(1, 1) lane(1, 2)=5", "box(0, 3)=5", "box(1, 1)=10");
        edges.sentence(17, "OUTSIDE: by (1 to 5)");
        edges.page("b1234;0", "scale(1)=4", "box(0, 1)=1", "scale(5)=20", "box(0, 1)=5", "box(0, 2)=10", "box(0, 3)=15", "box(0, 4)=20");
        edges.refused(State.values(), "OUTSIDE", "scale(0)", "scale(6)", "scale(-1)", "scale(-5)", "scale(MIN)", "scale(MAX)");
        edges.sentence(17, "or it would be above 999");
        edges.run(Calls.make(Calls.read("b0011;0"), "put(331, 0)"), "scale(3)=999", "box(1, 3)=999", "box(1, 4)=6", "scale(2)=OUTSIDE", "scale(1)=999");
        edges.run(Calls.make(Calls.read("b0011;0"), "put(0, 331)"), "scale(3)=999", "box(1, 4)=999", "box(1, 3)=6");
        edges.run(Calls.make(Calls.read("b0011;0"), "put(0, 197)"), "scale(5)=995");
        edges.run(Calls.make(Calls.read("b0011;0"), "put(900, 900)", "take(1)"), "scale(5)=5", "put(0, 0)=2", "box(1, 3)=2");
        edges.run(State.CROWDED.make(), "scale(5)=50", "box(7, 4)=45", "scale(5)=250", "scale(4)=OUTSIDE", "scale(3)=750");
        edges.refused("200 down", () -> Calls.make(Calls.read("b0011;0"), "put(0, 198)"), "OUTSIDE", "scale(5)");
        edges.refused("200 to the right", () -> Calls.make(Calls.read("b0011;0"), "put(198, 0)"), "OUTSIDE", "scale(5)");
        edges.refused("500 to the right", () -> Calls.make(Calls.read("b0011,b2233;0"), "put(498, 0)", "take(0)"), "OUTSIDE", "scale(2)", "scale(5)");
        edges.sentence(17, "STATE: no PAGE.");
        edges.refused(State.WITHOUT_PAGE, "STATE", "scale(1)", "scale(5)");
    }
}
