import java.math.BigInteger;

/** Edges of what is seen and drawn: promises 22 to 24, and the draws. */
final class SeenEdges {
    private final Edges edges;
    private BigInteger seed = BigInteger.ZERO;

    SeenEdges(Edges edges) {
        this.edges = edges;
    }

    void look() {
        promise22();
        promise23();
        promise24();
        draws();
    }

    private void promise22() {
        edges.sentence(22, "UNKNOWN: box");
        edges.refused(State.values(), "UNKNOWN", "see(-1, 0, true)", "see(8, 0, true)", "see(MIN, 0, false)", "see(MAX, 3, true)", "see(8, 4, false)");
        edges.refused(State.WITHOUT_PAGE, "UNKNOWN", "see(0, 0, true)");
        edges.refused(State.LONE, "UNKNOWN", "see(1, 0, true)");
        edges.refused(State.BUSY, "UNKNOWN", "see(7, 0, true)");
        edges.sentence(22, "OUTSIDE: what (0 to 3)");
        edges.page("b0011;0", "see(0, 0, false)=1", "box(0, 8)=29", "see(0, 3, false)=2", "box(0, 8)=21");
        edges.refused(State.WITH_PAGE, "OUTSIDE", "see(0, -1, true)", "see(0, 4, false)", "see(0, MIN, true)", "see(0, MAX, false)");
        edges.sentence(22, "FULL.");
        edges.run(State.BUSY.make(), "count(5)=3", "see(0, 0, true)=4", "see(0, 0, true)=5", "see(6, 3, true)=6", "see(6, 3, true)=FULL");
        edges.refused(State.CROWDED, "FULL", "see(0, 0, true)", "see(7, 3, false)");
        edges.run(State.CROWDED.make(), "forget()=6", "see(0, 0, true)=1");
    }

    private void promise23() {
        edges.sentence(23, "Nothing is SEEN any more: how much was.");
        edges.run(new LaneOrder(), "forget()=0", "count(5)=0");
        edges.run(State.LONE.make(), "forget()=0");
        edges.run(State.CROWDED.make(), "forget()=6", "count(5) forget()=0", "box(0, 8) box(1, 8) box(2, 8) box(3, 8) box(7, 8)=31", "restore()=8", "count(5)=3");
    }

    private void promise24() {
        edges.sentence(24, "OUTSIDE: times (1 to 20), seed (0 at least), what.");
        edges.run(new LaneOrder(), "drawn(1, 0, 2)=" + seedAfter(20, 0), "drawn(20, 0, 2)=" + seedAfter(400, 0));
        edges.run(new LaneOrder(), "drawn(1, MAX, 2)=" + seedAfter(20, Integer.MAX_VALUE), "drawn(20, MAX, 2)=" + seedAfter(400, Integer.MAX_VALUE));
        edges.refused(State.values(), "OUTSIDE", "drawn(0, 0, 0)", "drawn(21, 0, 0)", "drawn(-1, 0, 0)", "drawn(MIN, 0, 0)", "drawn(MAX, 0, 0)",
            "drawn(1, -1, 0)", "drawn(20, MIN, 2)", "drawn(1, 0, -1)", "drawn(1, 0, 3)", "drawn(1, 0, MIN)", "drawn(1, 0, MAX)");
    }

    private long seedAfter(int draws, long first) {
        seed = BigInteger.valueOf(first);
        for (int i = 0; i < draws; i++) {
            draw(1);
        }
        return seed.longValueExact();
    }

    private int draw(int of) {
        seed = seed.multiply(BigInteger.valueOf(1103515245)).add(BigInteger.valueOf(12345)).mod(BigInteger.TWO.pow(31));
        return seed.divide(BigInteger.valueOf(65536)).mod(BigInteger.valueOf(of)).intValueExact();
    }

    private void draws() {
        edges.sentence(0, "1103515245 times it and 12345, its rest by 2 to the 31; then that by 65536 (rounded down), its rest.");
        for (int first : new int[] {0, 1, 2, 65535, 65536, 1 << 30, Integer.MAX_VALUE - 1, Integer.MAX_VALUE}) {
            for (int times : new int[] {1, 2, 19, 20}) {
                edges.run(new LaneOrder(), "drawn(" + times + ", " + first + ", 2)=" + seedAfter(20 * times, first));
            }
        }
        edges.sentence(0, "RIGHT 1 more than LEFT and a DRAW of 3, BOTTOM 1 more than TOP and a DRAW of 3");
        int typed = 0;
        int byNumber = 0;
        for (int first = 0; first < 3000; first++) {
            String page = drawnPage(first);
            // A number of two digits can't be typed.
            if (page.matches("(.\\d{4}[,;])+23")) {
                LaneOrder x = Calls.read(page);
                int isByNumber = Edges.order(x).equals("01234") ? 1 : 0;
                edges.run(new LaneOrder(), "drawn(1, " + first + ", 0)=" + x.count(1), "drawn(1, " + first + ", 1)=" + isByNumber);
                typed++;
                byNumber += isByNumber;
            }
        }
        edges.same("pages enough, some of them by number", typed > 100 && byNumber > 0, true);
    }

    private String drawnPage(int first) {
        seed = BigInteger.valueOf(first);
        StringBuilder page = new StringBuilder();
        for (int box = 0; box < 5; box++) {
            int left = draw(8);
            int top = draw(8);
            int right = left + 1 + draw(3);
            int bottom = top + 1 + draw(3);
            page.append(box == 0 ? "" : ",").append('b').append(left).append(top).append(right).append(bottom);
        }
        return page.append(";23").toString();
    }
}
