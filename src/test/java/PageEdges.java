/** Edges of the page: promises 1 to 11. */
final class PageEdges {
    private static final String EIGHT = "b0011,b1122,b2233,b3344,b4455,b5566,b6677,b7788;3210";
    // An upright lane of 4, and level ones of 1 on each side: three cuts, two lanes of the whole.
    private static final String COLUMNS = "b0022,b0324,b6082,b6384;23";

    private final Edges edges;

    PageEdges(Edges edges) {
        this.edges = edges;
    }

    void look() {
        promise1();
        promise2();
        promise3();
        promise4();
        promise5();
        promise6();
        promise7();
        promise8();
        promise9();
        promise10();
        promise11();
    }

    private void promise1() {
        edges.sentence(1, "No PAGE.");
        for (int what = 0; what <= 7; what++) {
            edges.run(new LaneOrder(), "count(" + what + ")=0");
        }
        edges.run(new LaneOrder(), "order(0) cut(0, 0) lane(0, 0) why(0, 1) take(0) without(0)=UNKNOWN", "fault() blank() forget()=0");
        edges.run(new LaneOrder(), "page() put(0, 0) rules(1) scale(1) calm() idle() free() image() restore()=STATE", "digest()=1218781292503189");
    }

    private void promise2() {
        edges.sentence(2, "OUTSIDE: code (1 to 126)");
        edges.run(new LaneOrder(), "letter(1)=1", "letter(126)=2", "letter(2)=3", "letter(125)=4");
        edges.refused(State.values(), "OUTSIDE", "letter(0)", "letter(127)", "letter(-1)", "letter(128)", "letter(MIN)", "letter(MAX)");
        edges.sentence(2, "FULL: above 54.");
        LaneOrder x = Calls.typed(EIGHT);
        edges.run(x, "letter(1)=53", "letter(126)=54", "letter(98)=FULL", "count(6)=54", "blank()=54", "letter(98)=1");
        edges.refused(State.CROWDED, "FULL", "letter(1)", "letter(98)", "letter(126)");
    }

    private void promise3() {
        edges.sentence(3, "The text is empty: how many letters it had.");
        edges.run(new LaneOrder(), "blank()=0", "count(6)=0");
        edges.run(State.TYPING.make(), "blank()=6", "count(6) blank() fault()=0");
        edges.run(State.CROWDED.make(), "blank()=54", "count(6)=0", "count(0)=8", "count(5)=6", "letter(98)=1");
    }

    private void promise4() {
        edges.sentence(4, "the first letter of the text that no PAGE has there, behind those ahead of it");
        edges.fault("a", 0);
        edges.fault("bb", 1);
        edges.fault("b0011b", 5);
        edges.fault("b0011,b2233,", 12);
        edges.fault("b0011,;", 6);
        edges.fault("b0011;,", 6);
        edges.fault("b0011;0;", 7);
        edges.fault("b0011;0b", 7);
        edges.fault("xb0011;0x", 0);
        edges.fault(EIGHT + "0", 52);
        edges.fault(EIGHT + "~~", 52);
        edges.sentence(4, "how many letters it has, if there is none.");
        edges.fault("", 0);
        edges.fault("b", 1);
        edges.fault(EIGHT, 52);
        for (int length = 0; length <= EIGHT.length(); length++) {
            edges.fault(EIGHT.substring(0, length), length);
        }
        edges.page("b0011;0", "fault()=0");
        edges.sentence(4, "(LEFT and TOP are 0 to 8.)");
        edges.fault("b/", 1);
        edges.fault("b0", 2);
        edges.fault("b8", 2);
        edges.fault("b9", 1);
        edges.fault("b:", 1);
        edges.fault("b0/", 2);
        edges.fault("b00", 3);
        edges.fault("b08", 3);
        edges.fault("b09", 2);
        edges.fault("b889", 4);
        edges.fault("b8899", 5);
        edges.fault("b00:", 3);
        edges.fault("b001:", 4);
    }

    private void promise5() {
        edges.sentence(5, "(another one is gone, with all that was)");
        LaneOrder x = Calls.type(Calls.make(State.BUSY.make(), "blank()"), "t8899;1");
        edges.run(x, "page()=1", "count(0) count(3)=1", "count(1) count(4) count(5)=0", "box(0, 0)=1", "box(0, 8)=31", "box(1, 0)=UNKNOWN");
        edges.run(x, "restore()=STATE", "count(7)=2");
        edges.sentence(5, "the text is empty then.");
        edges.page(EIGHT, "count(6) blank() fault()=0", "page()=STATE", "letter(98)=1");
        edges.sentence(5, "STATE: it is none.");
        String[] none = {"", "b", "b0011", "b0011,", "b0011;", "b0011,;0", ";0", ",b0011;0", "b0011;00", "b0011;01230", "b0011;4", "b0011;0,",
            "b1010;0", "b9099;0", "b0011,b0011,b0011,b0011,b0011,b0011,b0011,b0011,b0011;"};
        for (String text : none) {
            edges.refused("behind " + text, () -> Calls.typed(text), "STATE", "page()");
            edges.refused("busy, behind " + text, () -> Calls.type(Calls.make(State.BUSY.make(), "blank()"), text), "STATE", "page()");
        }
        edges.refused(State.values(), "STATE", "page()");
    }

    private void promise6() {
        edges.sentence(6, "6 the FIGURE to which it is BOUND (NONE)");
        edges.page("f0011,c2233,n4455,b6677;0", "box(1, 6)=0", "box(0, 6) box(2, 6) box(3, 6)=NONE");
        edges.page("c2233;0", "box(0, 6)=NONE");
        edges.sentence(6, "7 by how many CUTS it came to its LEAF (NONE: it is BOUND)");
        edges.page("f0011,c2233,b4455;0", "box(0, 7) box(2, 7)=1", "box(1, 7)=NONE");
        edges.page("f0011,c2233;0", "box(0, 7)=0", "box(1, 7)=NONE");
        edges.page("c2233;0", "box(0, 7)=0");
        edges.sentence(6, "9 ASK (NONE)");
        edges.page("b0011,b2233;0", "see(1, 0, true)=1", "box(1, 9)=0", "see(1, 0, false)=2", "box(1, 9)=NONE", "box(0, 9)=1");
        edges.sentence(6, "UNKNOWN; OUTSIDE.");
        edges.page(EIGHT, "box(0, 0) box(7, 0)=0", "box(7, 4)=8", "box(0, 9) box(7, 9)=1");
        edges.refused(State.values(), "UNKNOWN", "box(-1, 0)", "box(8, 0)", "box(8, 9)", "box(MIN, 0)", "box(MAX, 9)", "box(-1, 10)", "box(MAX, MIN)");
        edges.refused(State.WITHOUT_PAGE, "UNKNOWN", "box(0, 0)", "box(0, -1)");
        edges.refused(State.LONE, "UNKNOWN", "box(1, 0)");
        edges.refused(State.BUSY, "UNKNOWN", "box(7, 0)");
        edges.refused(State.WITH_PAGE, "OUTSIDE", "box(0, -1)", "box(0, 10)", "box(0, MIN)", "box(0, MAX)");
    }

    private void promise7() {
        edges.sentence(7, "NONE: it is none such (the cast fails).");
        edges.page("b0011;0", "as(0, 0)=0", "as(0, 1) as(0, 2) as(0, 3) as(0, 4)=NONE");
        edges.page("b0011,c2233;0", "as(1, 0) as(1, 2) as(1, 4)=1", "as(1, 1) as(1, 3)=NONE");
        edges.page("b0011,n2233;0", "as(1, 0) as(1, 2)=1", "as(1, 1) as(1, 3) as(1, 4)=NONE");
        edges.sentence(7, "UNKNOWN; OUTSIDE.");
        edges.page("t0011,f2233;0", "as(0, 1)=0", "as(1, 3)=1");
        edges.refused(State.values(), "UNKNOWN", "as(-1, 0)", "as(8, 0)", "as(MIN, 0)", "as(MAX, 4)", "as(8, 5)");
        edges.refused(State.WITHOUT_PAGE, "UNKNOWN", "as(0, 0)");
        edges.refused(State.LONE, "UNKNOWN", "as(1, 0)");
        edges.refused(State.WITH_PAGE, "OUTSIDE", "as(0, -1)", "as(0, 5)", "as(0, MIN)", "as(0, MAX)");
    }

    private void promise8() {
        edges.sentence(8, "UNKNOWN: place.");
        edges.page("b0011;0", "order(0)=0");
        edges.page(EIGHT, "order(0)=0", "order(7)=7");
        edges.page("c0011,f2233;0", "order(0)=1", "order(1)=0");
        edges.refused(State.values(), "UNKNOWN", "order(-1)", "order(8)", "order(MIN)", "order(MAX)");
        edges.refused(State.WITHOUT_PAGE, "UNKNOWN", "order(0)");
        edges.refused(State.LONE, "UNKNOWN", "order(1)");
        edges.refused(State.BUSY, "UNKNOWN", "order(7)");
        edges.run(Calls.make(Calls.read(COLUMNS), "take(0)"), "order(2)=2", "order(3)=UNKNOWN");
    }

    private void promise9() {
        edges.sentence(9, "UNKNOWN; OUTSIDE.");
        edges.page(COLUMNS, "cut(0, 0)=0", "cut(0, 4)=2", "cut(2, 0) cut(2, 4)=1", "cut(3, 0)=UNKNOWN");
        edges.page(COLUMNS, "take(0)=3", "cut(1, 0)=1", "cut(2, 0)=UNKNOWN");
        edges.refused(State.values(), "UNKNOWN", "cut(-1, 0)", "cut(7, 0)", "cut(8, 0)", "cut(MIN, 0)", "cut(MAX, 4)", "cut(-1, 5)");
        edges.refused(new State[] {State.NEW, State.TYPING, State.LONE}, "UNKNOWN", "cut(0, 0)", "cut(0, 5)");
        edges.refused(State.BUSY, "UNKNOWN", "cut(1, 0)");
        edges.refused(new State[] {State.BUSY, State.CROWDED}, "OUTSIDE", "cut(0, -1)", "cut(0, 5)", "cut(0, MIN)", "cut(0, MAX)");
    }

    private void promise10() {
        edges.sentence(10, "(of all that are not BOUND)");
        edges.same("a caption in the lane, bound", Edges.lanes(Calls.read("f0011,c2233,b6677;0")), "1/1/5 0/1/5");
        edges.same("a caption in the lane, not bound", Edges.lanes(Calls.read("b0011,c2233,b6677;0")), "1/3/3 0/3/3 1/1/1 0/1/1");
        edges.same("all but one bound", Edges.lanes(Calls.read("c0011,c4455,f8899;0")), "");
        edges.sentence(10, "(of like ones as CUTS take them)");
        edges.same("level ones first, then by place", Edges.lanes(Calls.read("b6677,b3344,b0011;0")), "1/1/2 1/4/2 0/1/2 0/4/2");
        edges.same("the widest first", Edges.lanes(Calls.read("b0011,b3243,b7485;0")), "0/4/3 0/1/2 1/1/1 1/3/1");
        edges.same("like beginnings once", Edges.lanes(Calls.read("b0011,b0011,b2031,b2031;0")), "0/1/1");
        edges.sentence(10, "UNKNOWN: there are not so many");
        edges.page(COLUMNS, "lane(1, 0)=1", "lane(1, 1)=2", "lane(1, 2)=1", "lane(2, 0)=UNKNOWN");
        LaneOrder x = Calls.read("b0011,b2233,b4455,b6677,b8899;0");
        Calls.make(x, "put(10, 10)", "put(13, 13)", "put(16, 16)");
        edges.run(x, "lane(13, 0)=0", "lane(13, 1)=15", "lane(13, 2)=1", "lane(14, 0)=UNKNOWN", "lane(6, 0)=1", "lane(6, 1)=15", "lane(7, 0)=0");
        edges.refused(State.values(), "UNKNOWN", "lane(-1, 0)", "lane(14, 0)", "lane(MIN, 0)", "lane(MAX, 2)", "lane(-1, 3)");
        edges.refused(new State[] {State.NEW, State.TYPING, State.LONE}, "UNKNOWN", "lane(0, 0)", "lane(0, 3)");
        edges.refused(State.BUSY, "UNKNOWN", "lane(2, 0)");
        edges.sentence(10, "OUTSIDE.");
        edges.refused(new State[] {State.BUSY, State.CROWDED}, "OUTSIDE", "lane(0, -1)", "lane(0, 3)", "lane(0, MIN)", "lane(0, MAX)");
        edges.refused(State.BUSY, "OUTSIDE", "lane(1, 3)");
    }

    private void promise11() {
        edges.sentence(11, "UNKNOWN: one, other, or they are the same.");
        edges.page(EIGHT, "why(0, 7) why(7, 0)=3", "why(6, 7)=63");
        edges.refused(State.values(), "UNKNOWN", "why(0, 0)", "why(-1, 0)", "why(0, -1)", "why(8, 0)", "why(0, 8)", "why(8, 8)", "why(-1, -1)",
            "why(MIN, MAX)", "why(MAX, 0)", "why(0, MIN)");
        edges.refused(State.WITHOUT_PAGE, "UNKNOWN", "why(0, 1)", "why(1, 0)");
        edges.refused(State.LONE, "UNKNOWN", "why(0, 1)", "why(1, 0)");
        edges.refused(State.BUSY, "UNKNOWN", "why(6, 6)", "why(6, 7)", "why(7, 6)", "why(5, 5)");
    }
}
