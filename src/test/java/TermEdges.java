/** Edges that stand ahead of the promises: under "What it is" and "Terms". */
final class TermEdges {
    // Eight boxes without an end: a "," behind them would begin a ninth one.
    private static final String EIGHT = "b0011,b1122,b2233,b3344,b4455,b5566,b6677,b7788";

    private final Edges edges;

    TermEdges(Edges edges) {
        this.edges = edges;
    }

    void look() {
        uses();
        texts();
        lanes();
        cuts();
        leaves();
        captions();
        whys();
        wouldBe();
        seen();
        refusals();
    }

    private void uses() {
        edges.sentence(0, "NONE = -1, UNKNOWN = -101, OUTSIDE = -102, STATE = -103, FULL = -104");
        edges.due("NONE", LaneOrder.NONE, -1);
        edges.due("UNKNOWN", LaneOrder.UNKNOWN, -101);
        edges.due("OUTSIDE", LaneOrder.OUTSIDE, -102);
        edges.due("STATE", LaneOrder.STATE, -103);
        edges.due("FULL", LaneOrder.FULL, -104);
        edges.sentence(0, "An object is used for at most 512 calls after it has been made");
        LaneOrder x = new LaneOrder();
        for (int read = 1; read <= 63; read++) {
            // Seven letters and page(): eight calls.
            Calls.type(x, "b0011;0");
            edges.run(x, "page()=1");
        }
        edges.run(x, "put(3, 3)=2", "see(0, 0, true)=1", "image()=2", "take(0)=1", "forget()=1", "restore()=2", "count(5)=1", "count(7)=63");
    }

    private void texts() {
        edges.sentence(0, "LEFT less than RIGHT, TOP less than BOTTOM");
        edges.fault("b302", 3);
        edges.fault("b303", 3);
        edges.fault("b304", 4);
        edges.fault("b0312", 4);
        edges.fault("b0313", 4);
        edges.fault("b0314", 5);
        edges.run(Calls.typed("b3040;0"), "page()=STATE");
        edges.run(Calls.typed("b3041;0"), "page()=1");
        edges.sentence(0, "one to eight BOXES");
        edges.fault(";0", 0);
        edges.run(Calls.typed(";0"), "page()=STATE");
        edges.run(Calls.typed("b0011;0"), "page()=1");
        edges.fault(EIGHT, 47);
        edges.run(Calls.typed(EIGHT + ";0"), "page()=8", "count(0)=8");
        edges.fault(EIGHT + ",", 47);
        edges.fault(EIGHT + ",b8899;", 47);
        edges.run(Calls.typed(EIGHT + ",b8899;"), "page()=STATE");
        edges.sentence(0, "(numbered from 0)");
        edges.page("t0011,n2233;0", "box(0, 0)=1", "box(1, 0)=2", "box(2, 0)=UNKNOWN", "box(-1, 0)=UNKNOWN");
        edges.page(EIGHT + ";0", "box(7, 1)=7", "box(8, 1)=UNKNOWN");
        edges.sentence(0, "one to four different digits 0 to 3");
        edges.run(Calls.typed("b0011;"), "fault()=6", "page()=STATE");
        edges.page("b0011;0", "count(3)=1");
        edges.page("b0011;3", "count(3)=1");
        edges.page("b0011;3120", "count(3)=4");
        edges.fault("b0011;/", 6);
        edges.fault("b0011;4", 6);
        edges.fault("b0011;00", 7);
        edges.fault("b0011;0120", 9);
        for (char fifth = '0'; fifth <= '4'; fifth++) {
            edges.fault("b0011;3120" + fifth, 10);
        }
        edges.run(Calls.typed("b0011;31204"), "page()=STATE");
        edges.sentence(0, "At first there is none.");
        edges.run(new LaneOrder(), "count(0) count(3) count(7)=0", "box(0, 0)=UNKNOWN", "idle() image()=STATE");
        edges.sentence(0, "All are BOXES; a CAPTION is a NOTE, too.");
        edges.page("c0011,n2233;0", "as(0, 0) as(0, 2) as(0, 4)=0", "as(1, 0) as(1, 2)=1", "as(1, 4)=NONE");
    }

    private void lanesDue(String page, String upright, String level) {
        edges.same("lanes of " + page, Edges.lanes(Calls.read(page)), upright);
        edges.same("lanes of " + page + ", turned", Edges.lanes(Calls.read(turned(page))), level);
    }

    /** The page with left and right for top and bottom, and the other way round. */
    private static String turned(String page) {
        return page.replaceAll("([btnfc])(\\d)(\\d)(\\d)(\\d)", "$1$3$2$5$4");
    }

    private void lanes() {
        edges.sentence(0, "from a RIGHT of one of it to a greater LEFT of one of it");
        lanesDue("b0011,b1021;0", "", "");
        lanesDue("b0011,b2031;0", "0/1/1", "1/1/1");
        lanesDue("b8091,b0011;0", "0/1/7", "1/1/7");
        lanesDue("b0021,b1031;0", "", "");
        lanesDue("b0011;0", "", "");
        edges.sentence(0, "(none has a LEFT less than the end of the LANE and a RIGHT greater than its beginning)");
        lanesDue("b0021,b6081,b1021;0", "0/2/4", "1/2/4");
        lanesDue("b0021,b6081,b1031;0", "0/3/3", "1/3/3");
        lanesDue("b0021,b6081,b6071;0", "0/2/4", "1/2/4");
        lanesDue("b0021,b6081,b5071;0", "0/2/3", "1/2/3");
        lanesDue("b0021,b6081,b2061;0", "", "");
        lanesDue("b0021,b6081,b1071;0", "", "");
        lanesDue("b0021,b6081,b3051;0", "0/2/1 0/5/1", "1/2/1 1/5/1");
        lanesDue("b0021,b6081,b2051;0", "0/5/1", "1/5/1");
        lanesDue("b0021,b6081,b3061;0", "0/2/1", "1/2/1");
    }

    private void cuts() {
        edges.sentence(0, "(of like ones: level ones ahead of upright ones, then the one that lies at the least number)");
        edges.page("b0011,b2233;0", "cut(0, 0)=1", "cut(0, 2)=1");
        edges.page("b0011,b3243;0", "cut(0, 0)=0", "cut(0, 2)=2");
        edges.page("b0011,b2334;0", "cut(0, 0)=1", "cut(0, 2)=2");
        for (String page : new String[] {"b0011,b2031,b4051;0", "b4051,b2031,b0011;0", "b2031,b4051,b0011;0"}) {
            edges.page(page, "cut(0, 0)=0", "cut(0, 1)=1", "cut(1, 1)=3");
            edges.page(turned(page), "cut(0, 0)=1", "cut(0, 1)=1", "cut(1, 1)=3");
        }
        edges.sentence(0, "those that are upper, or on the left, are read first");
        edges.same("left ones", Edges.order(Calls.read("b2031,b0011;0")), "10");
        edges.same("upper ones", Edges.order(Calls.read("b0213,b0011;0")), "10");
        edges.same("upper ones, though on the right", Edges.order(Calls.read("b0213,b2031;0")), "10");
        edges.same("left ones, though below", Edges.order(Calls.read("b0213,b3041;0")), "01");
        edges.sentence(0, "CUTS are numbered from 0: that of the whole PART, then all of its first side, then all of its second one.");
        LaneOrder x = Calls.make(Calls.read("b0011,b2031,b4051,b6071,b8091;0"), "put(20, 0)", "put(30, 0)", "put(40, 0)");
        edges.same("seven cuts", Edges.cuts(x), "0/9/11/5/3 0/1/1/1/4 0/3/1/1/3 0/5/1/1/2 0/7/1/1/1 0/22/8/1/2 0/32/8/1/1");
        edges.run(x, "cut(7, 0)=UNKNOWN");
    }

    private void leaves() {
        edges.sentence(0, "A PART that has no LANE is a LEAF.");
        edges.page("b0011;0", "count(1)=0", "count(2)=1", "box(0, 7)=0");
        edges.page("b0011,b1122;0", "count(1)=0", "count(2)=1", "box(0, 7) box(1, 7)=0");
        edges.page("b0011,b2233;0", "count(1)=1", "count(2)=2", "box(0, 7) box(1, 7)=1");
        LaneOrder x = Calls.make(Calls.read("b0011,b2031,b4051,b6071,b8091;0"), "put(10, 0)", "put(13, 0)", "put(16, 0)");
        edges.run(x, "count(1)=7", "count(2)=8", "box(0, 7)=1", "box(5, 7)=6", "box(6, 7) box(7, 7)=7");
        edges.sentence(0, "if none does, the lesser number");
        edges.same("all alike", Edges.order(Calls.read("b0022,b0022,b0022;0123")), "012");
        edges.page("b0022,b0022,b0022;0123", "why(2, 1)=14", "why(0, 2)=4");
        edges.same("rules that are not there", Edges.order(Calls.read("b1144,t0044;1")), "01");
        edges.sentence(0, "of two that one is ahead which the first RULE that tells them apart says");
        edges.same("2, 3: like tops", Edges.order(Calls.read("b1044,b0044;23")), "10");
        edges.same("2, 3: tops by 1", Edges.order(Calls.read("b1044,b0144;23")), "01");
        edges.same("3, 2: lefts by 1", Edges.order(Calls.read("b1044,b0144;32")), "10");
        edges.sentence(0, "RULE 0: a TITLE is ahead of one that is none; 1: a NOTE is behind one that is none; 2: the lesser TOP is ahead; 3: the lesser LEFT.");
        edges.same("two titles, then numbers", Edges.order(Calls.read("b0099,t0099,f0099,t0099;0")), "1302");
        edges.same("two notes, then numbers", Edges.order(Calls.read("n0099,t0099,c0099,b0099;1")), "1302");
    }

    private void captions() {
        edges.sentence(0, "CAPTIONS are BOUND, if there is any FIGURE");
        edges.page("c0022,c1133;0", "count(4)=0", "box(0, 6) box(1, 6)=NONE", "box(0, 7) box(1, 7)=0");
        edges.page("c0022,c1133,f8899;0", "count(4)=2", "box(0, 6) box(1, 6)=2", "box(0, 7) box(1, 7)=NONE", "count(1)=0", "count(2)=1");
        edges.page("c0022,n1133,f8899;0", "count(4)=1", "box(1, 6) box(2, 6)=NONE");
        edges.sentence(0, "0, where they meet or lie over one another; of like ones the lesser number");
        edges.page("f0022,f2244,c1133;0", "box(2, 6)=0");
        edges.page("f0011,f2233,c1122;0", "box(2, 6)=0");
        edges.page("f0011,f3344,c2233;0", "box(2, 6)=1");
        edges.page("f0033,f2244,c3355;0", "box(2, 6)=0");
        edges.page("f0099,f4455,c4455;0", "box(2, 6)=0");
        edges.page("f0011,f4455,c2233;0", "box(2, 6)=0");
        edges.page("f4455,f0011,c2233;0", "box(2, 6)=0");
        edges.sentence(0, "how far apart they are from left to right, and from top to bottom, together");
        edges.page("f0011,f4354,c2233;0", "box(2, 6)=1");
        edges.page("f0011,f3445,c2233;0", "box(2, 6)=1");
        edges.page("f0819,f2233,c0011;0", "box(2, 6)=1");
        edges.page("f8091,f2233,c0011;0", "box(2, 6)=1");
        edges.page("f8899,c0011;0", "box(1, 6)=0");
        edges.sentence(0, "right behind each FIGURE come those that are BOUND to it, by their numbers");
        edges.same("behind the figure", Edges.order(Calls.read("c8899,f0011,c2233,b4455;0")), "1023");
        edges.same("behind each", Edges.order(Calls.read("c6677,c2233,f0011,f8899,c0022;0")), "21430");
    }

    private void whys() {
        edges.sentence(0, "0 to 3 the RULE, 4 the lesser number (of a LEAF), 5 a CUT, 6 one of both is BOUND.");
        String heap = "t0144,n1044,b0144,b0144;";
        edges.page(heap + "0", "why(1, 0)=0", "why(1, 2)=14");
        edges.page(heap + "1", "why(1, 0)=1", "why(1, 3)=31");
        edges.page(heap + "2", "why(1, 0)=12", "why(3, 2)=24");
        edges.page(heap + "3", "why(1, 0)=3", "why(3, 2)=24");
        edges.page("b0011,t2233;0", "why(0, 1) why(1, 0)=5");
        edges.page("f0011,c2233,b4455;0", "why(0, 1)=6", "why(1, 2)=16", "why(2, 0)=5");
        edges.page("f0011,c2233,c4455;0", "why(2, 1)=16");
    }

    private void wouldBe() {
        edges.sentence(0, "how many of the others come at another place than if it was just left out of the ORDER");
        edges.page("b0011;0", "without(0)=0");
        edges.page("b2031,b0011;0", "without(0) without(1)=0");
        // Rule 3 reads 1 ahead of 0 while box 2 closes the lane between them; without it 0 is the upper one.
        edges.page("b1021,b0213,b0023;3", "order(0)=1", "order(1)=2", "order(2)=0", "without(2)=2", "without(0) without(1)=0");
        edges.sentence(0, "how many of all moves of one BOX by 1 to the left, up, to the right, down (four of each) leave the ORDER as it is");
        // A move by 1 makes the two alike, and then the numbers tell; a move by 2 would turn them.
        edges.page("b0044,b1044;3", "calm()=8");
        edges.page("b0044,b0144;2", "calm()=8");
        edges.page("b1044,b0044;3", "calm()=6");
        edges.page("b0144,b0044;2", "calm()=6");
        edges.sentence(0, "could be left out (one alone, the others in order) with the ORDER as it is");
        // 2 and 3 tell the same: each of them can be left out, though both together could not.
        edges.page("b1144,b0044;0123", "idle()=15", "rules(23)=2", "idle()=12", "rules(3)=1", "idle()=0");
        edges.page("t0144,n1044,b0044;3012", "idle()=14", "rules(2413)=4", "idle()=11");
        edges.sentence(0, "(of one alone none can)");
        edges.page("b0011;0", "idle()=0");
        edges.page("b0011,b2233;3", "idle()=0");
        edges.page("b0011;03", "idle()=9");
        edges.page("b0011;0123", "idle()=15");
        edges.sentence(0, "of like ones the least number; none, if it is alone");
        edges.page("b0011;0", "free()=NONE");
        edges.page("b0011,b2233;0", "free()=0");
        edges.page("b0011,b0011,b0011;0", "free()=0");
        edges.page("b0021,b3051,b1041;0", "free()=2");
        edges.page("b0021,b1041,b3051,b1041;0", "free()=0");
    }

    private void seen() {
        edges.sentence(0, "SEEN (6 at most)");
        LaneOrder x = Calls.read("b0011,b2233;0");
        for (int i = 1; i <= 6; i++) {
            edges.run(x, "see(" + i % 2 + ", 3, false)=" + i);
        }
        edges.run(x, "see(0, 3, false) see(1, 0, true)=FULL", "count(5)=6");
        edges.sentence(0, "0 ahead of a plain one by RULE 0, 1 behind a plain one by RULE 1, 2 BOUND if there is a FIGURE, 3 one to which others are BOUND");
        int[] sorts = {2, 20, 16, 8};
        for (int what = 0; what < sorts.length; what++) {
            edges.page("b0011;0", "see(0, " + what + ", true)=1", "box(0, 8)=" + sorts[what]);
            edges.page("b0011;0", "see(0, " + what + ", false)=1", "box(0, 8)=" + (31 - sorts[what]));
        }
        edges.sentence(0, "(KINDS 0 to 4) it can be of, so that all that is SEEN of it is so: as bits");
        edges.page("c0011;0", "box(0, 8)=31", "see(0, 0, true)=1", "box(0, 8)=2", "see(0, 0, false)=2", "box(0, 8)=0");
        edges.page("c0011;0", "see(0, 3, true)=1", "box(0, 8)=8", "see(0, 1, true)=2", "box(0, 8)=0", "box(0, 0)=4");
        edges.sentence(0, "which of these (0 to 3) to ask next, so that fewest of these are left at worst: of like ones the least; none, if there are none.");
        edges.page("b0011;0", "box(0, 9)=1");
        edges.page("b0011;0", "see(0, 1, true)=1", "box(0, 8)=20", "box(0, 9)=2");
        edges.page("b0011;0", "see(0, 1, false)=1", "box(0, 8)=11", "box(0, 9)=0", "see(0, 0, false)=2", "box(0, 8)=9", "box(0, 9)=3");
        edges.page("b0011;0", "see(0, 2, true)=1", "box(0, 8)=16", "box(0, 9)=0");
        edges.page("b0011;0", "see(0, 2, true)=1", "see(0, 1, false)=2", "box(0, 8)=0", "box(0, 9)=NONE");
    }

    private void refusals() {
        edges.sentence(0, "of several the first as told by each call: UNKNOWN (a number names nothing), OUTSIDE (it is not as told), STATE (as told), FULL");
        edges.refused(State.WITHOUT_PAGE, "UNKNOWN", "box(0, 10)", "as(0, 5)", "cut(0, 5)", "lane(0, 3)", "move(0, 10, 10)", "change(0, 5)", "see(0, 4, true)");
        edges.refused(State.WITHOUT_PAGE, "OUTSIDE", "put(-1, 901)", "rules(0)", "scale(0)");
        edges.refused(State.LONE, "UNKNOWN", "take(1)", "move(1, -1, -10)", "cut(0, 5)", "lane(0, 3)");
        edges.refused(State.BUSY, "UNKNOWN", "box(7, 10)", "as(7, 5)", "cut(1, 5)", "lane(2, 3)", "move(7, 10, 10)", "change(7, 5)", "see(7, 4, true)");
        edges.refused(State.CROWDED, "UNKNOWN", "see(8, 4, true)", "see(8, 0, true)");
        edges.refused(State.CROWDED, "OUTSIDE", "letter(127)", "put(901, 0)", "see(0, 4, true)");
        edges.sentence(0, "they change nothing");
        // What tellings tell is not the same when something has changed: else refused() would see nothing.
        for (String change : new String[] {"letter(98)", "blank()", "put(0, 0)", "take(6)", "move(6, 1, 0)", "move(6, 0, -1)", "change(6, 1)",
            "rules(4132)", "scale(2)", "see(6, 3, true)", "forget()", "image()"}) {
            edges.same(change + " is told", Edges.tellings(Calls.make(State.BUSY.make(), change)).equals(Edges.tellings(State.BUSY.make())), false);
        }
    }
}
