/** For each promise of the document: ordinary inputs, the edges it names, and wrong inputs. */
public final class PromiseTest {
    private static final int NONE = -1, UNKNOWN = -101, OUTSIDE = -102, STATE = -103, FULL = -104;
    private static final int[] WRONG = {-1, Integer.MIN_VALUE, Integer.MAX_VALUE};

    // Two columns of two boxes each: an upright lane of 4, level ones of 1.
    private static final String COLUMNS = "b0022,b0324,b6082,b6384;23";
    // No lane at all; the caption has no figure, so it is just a note.
    private static final String HEAP = "n0099,t1199,b2199,c3099;0123";
    // Caption 2 is as far from both figures, caption 3 lies over the first one.
    private static final String FIGURES = "f0011,f8899,c4455,c0022,n2233;0";
    // Box 4 lies over all; without it there are two columns.
    private static final String COVERED = "b0133,b5082,b0436,b5385,b0099;2";
    private static final String EIGHT = "b0011,b1122,b2233,b3344,b4455,b5566,b6677,b7788;3210";

    private static final Check check = new Check();

    public static void main(String[] args) {
        promise1();
        promise2();
        promise3();
        promise4();
        promise5();
        promise6();
        promise7();
        promise8();
        promise9();
        promise10();
        promise11();
        promise12();
        promise13();
        promise14();
        promise15();
        promise16();
        promise17();
        promise18();
        promise19();
        promise20();
        promise21();
        promise22();
        promise23();
        promise24();
        promise25();
        promise26();
        promise27();
        promise28();
        check.end("PromiseTest");
    }

    private static void due(String call, long got, long want) {
        check.due(call, got, want);
    }

    private static void type(LaneOrder x, String text) {
        for (int i = 0; i < text.length(); i++) {
            x.letter(text.charAt(i));
        }
    }

    private static LaneOrder typed(String text) {
        LaneOrder x = new LaneOrder();
        type(x, text);
        return x;
    }

    private static LaneOrder read(String page) {
        LaneOrder x = typed(page);
        int boxes = x.page();
        if (boxes < 1) {
            check.fail("the page " + page + " is not read: " + boxes);
        }
        return x;
    }

    private static String order(LaneOrder x) {
        StringBuilder all = new StringBuilder();
        for (int place = 0; place < x.count(0); place++) {
            all.append(x.order(place));
        }
        return all.toString();
    }

    private static String cuts(LaneOrder x) {
        StringBuilder all = new StringBuilder();
        for (int cut = 0; cut < x.count(1); cut++) {
            for (int what = 0; what <= 4; what++) {
                all.append(x.cut(cut, what)).append(what < 4 ? " " : "; ");
            }
        }
        return all.toString();
    }

    private static String lanes(LaneOrder x) {
        StringBuilder all = new StringBuilder();
        for (int number = 0; x.lane(number, 0) != UNKNOWN; number++) {
            all.append(x.lane(number, 0)).append(' ').append(x.lane(number, 1)).append(' ').append(x.lane(number, 2)).append("; ");
        }
        return all.toString();
    }

    private static String tell(LaneOrder x, int box, int... whats) {
        StringBuilder all = new StringBuilder();
        for (int what : whats) {
            all.append(x.box(box, what)).append(' ');
        }
        return all.toString().trim();
    }

    private static String counts(LaneOrder x) {
        StringBuilder all = new StringBuilder();
        for (int what = 0; what <= 7; what++) {
            all.append(x.count(what)).append(' ');
        }
        return all.toString().trim();
    }

    /** The digest, from what the other calls answer. */
    private static long folded(LaneOrder x, String text) {
        long h = 1429;
        for (int box = 0; box < x.count(0); box++) {
            for (int what = 0; what <= 9; what++) {
                h = 31 * h + x.box(box, what);
            }
        }
        for (int place = 0; place < x.count(0); place++) {
            h = 31 * h + x.order(place);
        }
        for (int cut = 0; cut < x.count(1); cut++) {
            for (int what = 0; what <= 4; what++) {
                h = 31 * h + x.cut(cut, what);
            }
        }
        if (x.count(0) > 0) {
            h = 31 * h + x.idle();
            h = 31 * h + x.free();
        }
        for (int i = 0; i < text.length(); i++) {
            h = 31 * h + text.charAt(i);
        }
        for (int what = 0; what <= 7; what++) {
            h = 31 * h + x.count(what);
        }
        return h;
    }

    private static void promise1() {
        check.part("promise 1");
        due("NONE", LaneOrder.NONE, NONE);
        due("UNKNOWN", LaneOrder.UNKNOWN, UNKNOWN);
        due("OUTSIDE", LaneOrder.OUTSIDE, OUTSIDE);
        due("STATE", LaneOrder.STATE, STATE);
        due("FULL", LaneOrder.FULL, FULL);
        LaneOrder x = new LaneOrder();
        check.same("counts", counts(x), "0 0 0 0 0 0 0 0");
        due("box", x.box(0, 0), UNKNOWN);
        due("box, wrong what", x.box(0, 10), UNKNOWN);
        due("as", x.as(0, 0), UNKNOWN);
        due("order", x.order(0), UNKNOWN);
        due("cut", x.cut(0, 0), UNKNOWN);
        due("lane", x.lane(0, 0), UNKNOWN);
        due("why", x.why(0, 1), UNKNOWN);
        due("put", x.put(0, 0), STATE);
        due("take", x.take(0), UNKNOWN);
        due("move", x.move(0, 0, 0), UNKNOWN);
        due("change", x.change(0, 0), UNKNOWN);
        due("rules", x.rules(1), STATE);
        due("scale", x.scale(1), STATE);
        due("without", x.without(0), UNKNOWN);
        due("calm", x.calm(), STATE);
        due("idle", x.idle(), STATE);
        due("free", x.free(), STATE);
        due("see", x.see(0, 0, true), UNKNOWN);
        due("forget", x.forget(), 0);
        due("image", x.image(), STATE);
        due("restore", x.restore(), STATE);
        due("page", x.page(), STATE);
        due("fault", x.fault(), 0);
        due("blank", x.blank(), 0);
        check.same("counts", counts(x), "0 0 0 0 0 0 0 0");
        LaneOrder y = read(COLUMNS);
        LaneOrder z = new LaneOrder();
        due("another object's boxes", z.count(0), 0);
        due("its own", y.count(0), 4);
    }

    private static void promise2() {
        check.part("promise 2");
        LaneOrder x = new LaneOrder();
        due("letter(0)", x.letter(0), OUTSIDE);
        due("letter(127)", x.letter(127), OUTSIDE);
        for (int code : WRONG) {
            due("letter(" + code + ")", x.letter(code), OUTSIDE);
        }
        due("letter(1)", x.letter(1), 1);
        due("letter(126)", x.letter(126), 2);
        for (int i = 3; i <= 54; i++) {
            due("letter", x.letter('b'), i);
        }
        due("letter, full", x.letter('b'), FULL);
        due("letter, wrong and full", x.letter(127), OUTSIDE);
        due("letters", x.count(6), 54);
        LaneOrder y = read(COLUMNS);
        due("letter with a page", y.letter('b'), 1);
        due("the page is still there", y.count(0), 4);
    }

    private static void promise3() {
        check.part("promise 3");
        LaneOrder x = typed("b00");
        due("blank", x.blank(), 3);
        due("blank, again", x.blank(), 0);
        due("letters", x.count(6), 0);
        type(x, "b0011;0");
        due("page", x.page(), 1);
        due("blank behind a page", x.blank(), 0);
        type(x, EIGHT + "xy");
        due("blank, full", x.blank(), 54);
        due("letter", x.letter('b'), 1);
    }

    private static void faultDue(String text, int want) {
        due("fault() of " + text, typed(text).fault(), want);
    }

    private static void promise4() {
        check.part("promise 4");
        faultDue("", 0);
        faultDue("b", 1);
        faultDue("x", 0);
        faultDue("B", 0);
        faultDue("0", 0);
        faultDue(";", 0);
        for (String kind : new String[] {"b", "t", "n", "f", "c"}) {
            faultDue(kind + "0011;0", 7);
        }
        faultDue("b8", 2);
        faultDue("b9", 1);
        faultDue("b08", 3);
        faultDue("b09", 2);
        faultDue("b/", 1);
        faultDue("b0/", 2);
        faultDue("b:", 1);
        faultDue("b301", 3);
        faultDue("b303", 3);
        faultDue("b304", 4);
        faultDue("b309", 4);
        faultDue("b30:", 3);
        faultDue("b0411", 4);
        faultDue("b0414", 4);
        faultDue("b0415", 5);
        faultDue("b041:", 4);
        faultDue("b0011", 5);
        faultDue("b00112", 5);
        faultDue("b0011,", 6);
        faultDue("b0011,,", 6);
        faultDue("b0011;", 6);
        faultDue("b0011;;", 6);
        faultDue("b0011;3", 7);
        faultDue("b0011;4", 6);
        faultDue("b0011;/", 6);
        faultDue("b0011;33", 7);
        faultDue("b0011;30", 8);
        faultDue("b0011;303", 8);
        faultDue("b0011;3,", 7);
        faultDue("b0011;3210", 10);
        faultDue("b0011;32100", 10);
        faultDue("b0011;32104", 10);
        faultDue("b0011,x", 6);
        faultDue("b0011,b2", 8);
        faultDue(EIGHT, 52);
        faultDue(EIGHT + "0", 52);
        faultDue(EIGHT.substring(0, 47), 47);
        faultDue(EIGHT.substring(0, 47) + ",", 47);
        faultDue(EIGHT.substring(0, 41) + ",", 42);
        LaneOrder x = read(COLUMNS);
        due("fault behind a page", x.fault(), 0);
        due("letters stay", typedThenFault("b0x").count(6), 3);
    }

    private static LaneOrder typedThenFault(String text) {
        LaneOrder x = typed(text);
        x.fault();
        return x;
    }

    private static void promise5() {
        check.part("promise 5");
        due("page, eight", typed(EIGHT).page(), 8);
        due("page, one", typed("c8899;0").page(), 1);
        for (String none : new String[] {"", "b", "b0011", "b0011,", "b0011;", "b0011,;0", ";0", "b0011;00", "b0011;01234", "b0100;0"}) {
            LaneOrder x = typed(none);
            due("page() of " + none, x.page(), STATE);
            due("letters of " + none, x.count(6), none.length());
            due("pages read", x.count(7), 0);
        }
        LaneOrder x = read(COLUMNS);
        due("letters then", x.count(6), 0);
        x.see(0, 0, true);
        x.image();
        type(x, "b0011");
        due("page, not whole", x.page(), STATE);
        due("the old one stays", x.count(0), 4);
        due("seen stays", x.count(5), 1);
        due("image stays", x.restore(), 4);
        type(x, ",t2233;10");
        due("page, another one", x.page(), 2);
        check.same("counts", counts(x), "2 1 2 2 0 0 0 2");
        due("the image is gone", x.restore(), STATE);
        check.same("box 1", tell(x, 1, 0, 1, 2, 3, 4, 8), "1 2 2 3 3 31");
    }

    private static void promise6() {
        check.part("promise 6");
        LaneOrder x = read(COLUMNS);
        check.same("box 3", tell(x, 3, 0, 1, 2, 3, 4, 5, 6, 7, 8, 9), "0 6 3 8 4 3 -1 2 31 1");
        LaneOrder y = read(FIGURES);
        check.same("the first figure", tell(y, 0, 0, 5, 6, 7), "3 0 -1 2");
        check.same("the second figure", tell(y, 1, 0, 5, 6, 7), "3 4 -1 1");
        check.same("a caption of like distances", tell(y, 2, 0, 5, 6, 7), "4 1 0 -1");
        check.same("a caption that lies over", tell(y, 3, 0, 5, 6, 7), "4 2 0 -1");
        check.same("a note", tell(y, 4, 0, 5, 6, 7), "2 3 -1 2");
        check.same("a heap", tell(read(HEAP), 3, 0, 5, 6, 7), "4 3 -1 0");
        due("distances are added", read("f0415,f7788,c4455;0").box(2, 6), 0);
        due("the nearer one", read("f0011,f5566,c3344;0").box(2, 6), 1);
        due("one that lies over is nearer than one beside", read("f0011,f2233,c2033;0").box(2, 6), 1);
        due("a touch is no distance", read("f0011,f6677,c5566;0").box(2, 6), 1);
        due("box(4)", x.box(4, 0), UNKNOWN);
        due("box, what 10", x.box(0, 10), OUTSIDE);
        due("box, both wrong", x.box(4, 10), UNKNOWN);
        for (int wrong : WRONG) {
            due("box", x.box(wrong, 0), UNKNOWN);
            due("box, what", x.box(0, wrong), OUTSIDE);
        }
        sortsAndAsk();
    }

    private static void sortsAndAsk() {
        String[] seen = {"0y", "0n", "1y", "1n", "2y", "2n", "3y", "3n", "0n1n", "1y2n", "1y2y", "0n1n3n", "0y1y", "0n1y3n"};
        int[] sorts = {2, 29, 20, 11, 16, 15, 8, 23, 9, 4, 16, 1, 0, 20};
        int[] ask = {0, 1, 2, 0, 0, 0, 0, 1, 3, 0, 0, 0, NONE, 2};
        for (int i = 0; i < seen.length; i++) {
            LaneOrder x = read("b0011,b2233;0");
            for (int j = 0; j < seen[i].length(); j += 2) {
                x.see(1, seen[i].charAt(j) - '0', seen[i].charAt(j + 1) == 'y');
            }
            due("sorts for " + seen[i], x.box(1, 8), sorts[i]);
            due("ask for " + seen[i], x.box(1, 9), ask[i]);
            due("sorts of the other one", x.box(0, 8), 31);
        }
    }

    private static void promise7() {
        check.part("promise 7");
        LaneOrder x = read("b0011,t1122,n2233,f3344,c4455;0");
        for (int box = 0; box < 5; box++) {
            for (int kind = 0; kind < 5; kind++) {
                boolean is = kind == 0 || kind == box || box == 4 && kind == 2;
                due("as(" + box + ", " + kind + ")", x.as(box, kind), is ? box : NONE);
            }
        }
        due("as(5, 0)", x.as(5, 0), UNKNOWN);
        due("as(0, 5)", x.as(0, 5), OUTSIDE);
        due("as(5, 5)", x.as(5, 5), UNKNOWN);
        for (int wrong : WRONG) {
            due("as", x.as(wrong, 0), UNKNOWN);
            due("as, kind", x.as(0, wrong), OUTSIDE);
        }
    }

    private static void promise8() {
        check.part("promise 8");
        check.same("columns", order(read(COLUMNS)), "0123");
        check.same("heap", order(read(HEAP)), "1203");
        check.same("heap by 1", order(read("n0099,t1199,b2199,c3099;1")), "1203");
        check.same("heap by 0", order(read("n0099,t1199,b2199,c3099;0")), "1023");
        check.same("heap by 2", order(read("n0099,t1199,b2199,c3099;2")), "0312");
        check.same("heap by 3", order(read("b3099,b2199,b1199,b0099;3")), "3210");
        check.same("heap by 2, then 3", order(read("b3099,b2199,b1199,b0099;23")), "3021");
        check.same("figures", order(read(FIGURES)), "02341");
        check.same("captions by their numbers", order(read("c0011,b2233,c8899,f4455;0")), "1302");
        check.same("covered", order(read(COVERED)), "14032");
        check.same("level ahead of upright", order(read("b4077,b0277,b0899;3")), "102");
        check.same("right column first by number, read last", order(read("b6082,b0022;2")), "10");
        check.same("upper first", order(read("b0688,b0022;3")), "10");
        LaneOrder x = read(COLUMNS);
        due("order(4)", x.order(4), UNKNOWN);
        for (int wrong : WRONG) {
            due("order", x.order(wrong), UNKNOWN);
        }
    }

    private static void promise9() {
        check.part("promise 9");
        check.same("columns", cuts(read(COLUMNS)), "0 2 4 2 2; 1 2 1 1 1; 1 2 1 1 1; ");
        check.same("figures", cuts(read(FIGURES)), "1 3 5 2 1; 1 1 1 1 1; ");
        check.same("heap", cuts(read(HEAP)), "");
        check.same("level ahead of like ones", cuts(read("b0011,b3344;0")), "1 1 2 1 1; ");
        check.same("the wider one, upright", cuts(read("b0011,b4354;0")), "0 1 3 1 1; ");
        check.same("the least number of like ones", cuts(read("b0415,b0213,b0011;0")), "1 1 1 1 2; 1 3 1 1 1; ");
        check.same("the first side first", cuts(read("b0011,b2031,b0819,b4859;0")), "1 1 7 2 2; 0 1 1 1 1; 0 1 3 1 1; ");
        check.same("a touch is no lane", cuts(read("b0011,b1122;0")), "");
        check.same("three on a side", cuts(read("b0012,b1032,b0113,b8091;0")), "0 3 5 3 1; ");
        LaneOrder x = read(COLUMNS);
        due("cut(3)", x.cut(3, 0), UNKNOWN);
        due("cut, what 5", x.cut(0, 5), OUTSIDE);
        due("cut, both wrong", x.cut(3, 5), UNKNOWN);
        for (int wrong : WRONG) {
            due("cut", x.cut(wrong, 0), UNKNOWN);
            due("cut, what", x.cut(0, wrong), OUTSIDE);
        }
    }

    private static void promise10() {
        check.part("promise 10");
        check.same("columns", lanes(read(COLUMNS)), "0 2 4; 1 2 1; ");
        check.same("figures, without the bound ones", lanes(read(FIGURES)), "1 3 5; 0 3 5; 1 1 1; 0 1 1; ");
        check.same("like ones", lanes(read("b0011,b3344,b6677;0")), "1 1 2; 1 4 2; 0 1 2; 0 4 2; ");
        check.same("each once", lanes(read("b0021,b1021,b3152,b4152;0")), "0 2 1; ");
        check.same("like level ones by place", lanes(read("b0819,b0011,b0415;0")), "1 1 3; 1 5 3; ");
        check.same("heap", lanes(read(HEAP)), "");
        LaneOrder x = read("b0011,b0011,b0011,b0011,b0011,b0011,b0011,b0011;0");
        for (int box = 1; box < 8; box++) {
            for (int times = 0; times < box; times++) {
                x.move(box, 3, 3);
            }
        }
        check.same("as many as there can be", lanes(x),
            "1 1 2; 1 4 2; 1 7 2; 1 10 2; 1 13 2; 1 16 2; 1 19 2; 0 1 2; 0 4 2; 0 7 2; 0 10 2; 0 13 2; 0 16 2; 0 19 2; ");
        LaneOrder y = read(COLUMNS);
        due("lane(2)", y.lane(2, 0), UNKNOWN);
        due("lane, what 3", y.lane(0, 3), OUTSIDE);
        due("lane, both wrong", y.lane(2, 3), UNKNOWN);
        for (int wrong : WRONG) {
            due("lane", y.lane(wrong, 0), UNKNOWN);
            due("lane, what", y.lane(0, wrong), OUTSIDE);
        }
    }

    private static void promise11() {
        check.part("promise 11");
        LaneOrder x = read(HEAP);
        due("by rule 0", x.why(1, 2), 10);
        due("by rule 0, other way", x.why(2, 1), 10);
        due("by rule 1", x.why(0, 2), 21);
        due("by rule 3", x.why(0, 3), 3);
        x.rules(2);
        due("by rule 2", x.why(0, 1), 2);
        due("by number", x.why(1, 2), 14);
        due("by number", x.why(3, 0), 4);
        x.rules(4123);
        x.rules(4);
        due("rules that are gone tell nothing", x.why(0, 2), 4);
        LaneOrder y = read(COLUMNS);
        due("by a cut", y.why(3, 1), 15);
        LaneOrder z = read(FIGURES);
        due("a caption and its figure", z.why(2, 0), 6);
        due("a caption and another one", z.why(3, 2), 26);
        due("a caption and a note", z.why(4, 3), 36);
        due("none of both is bound", z.why(1, 4), 45);
        due("why(0, 0)", x.why(0, 0), UNKNOWN);
        due("why(0, 4)", x.why(0, 4), UNKNOWN);
        due("why(4, 0)", x.why(4, 0), UNKNOWN);
        for (int wrong : WRONG) {
            due("why", x.why(wrong, 0), UNKNOWN);
            due("why, other", x.why(0, wrong), UNKNOWN);
            due("why, both", x.why(wrong, wrong), UNKNOWN);
        }
    }

    private static void promise12() {
        check.part("promise 12");
        LaneOrder x = read("t0011;0");
        due("put", x.put(0, 4), 2);
        check.same("the last one", tell(x, 1, 0, 1, 2, 3, 4, 5), "0 0 4 2 6 1");
        due("put, farthest", x.put(900, 900), 3);
        check.same("the last one", tell(x, 2, 0, 1, 2, 3, 4), "0 900 900 902 902");
        due("cuts", x.count(1), 2);
        due("put(901, 0)", x.put(901, 0), OUTSIDE);
        due("put(0, 901)", x.put(0, 901), OUTSIDE);
        for (int wrong : WRONG) {
            due("put, left", x.put(wrong, 0), OUTSIDE);
            due("put, top", x.put(0, wrong), OUTSIDE);
            due("put, no page", new LaneOrder().put(wrong, 0), OUTSIDE);
        }
        due("put, no page", new LaneOrder().put(900, 900), STATE);
        for (int boxes = 4; boxes <= 8; boxes++) {
            due("put", x.put(boxes, boxes), boxes);
        }
        due("put, a ninth one", x.put(0, 0), FULL);
        due("put, a ninth one, outside", x.put(-1, 0), OUTSIDE);
        due("boxes", x.count(0), 8);
    }

    private static void promise13() {
        check.part("promise 13");
        LaneOrder x = read("t0011,n2233,f4455;0");
        x.see(0, 0, true);
        x.see(1, 3, true);
        x.see(2, 2, true);
        due("take", x.take(0), 2);
        check.same("those behind it", tell(x, 0, 0, 1, 2, 3, 4, 5), "2 2 2 3 3 0");
        check.same("those behind it", tell(x, 1, 0, 1, 2, 3, 4, 5), "3 4 4 5 5 1");
        check.same("seen stays with the numbers", x.box(0, 8) + " " + x.box(1, 8) + " " + x.count(5), "2 8 3");
        due("put", x.put(8, 8), 3);
        due("seen stays with a number that comes again", x.box(2, 8), 16);
        due("take, the last one", x.take(2), 2);
        due("take(2)", x.take(2), UNKNOWN);
        due("take", x.take(1), 1);
        due("take, the only one", x.take(0), STATE);
        due("take, unknown", x.take(1), UNKNOWN);
        for (int wrong : WRONG) {
            due("take", x.take(wrong), UNKNOWN);
        }
        due("boxes", x.count(0), 1);
        for (String page : new String[] {"f0011,c2233;0", "c0011,f2233;0"}) {
            LaneOrder y = read(page);
            due("its figure is taken", y.take(page.indexOf('f') / 6), 1);
            due("bound", y.count(4), 0);
        }
        LaneOrder z = read(COVERED);
        z.take(4);
        check.same("the order then", order(z), "0213");
        due("the cuts then", z.count(1), 3);
    }

    private static void promise14() {
        check.part("promise 14");
        LaneOrder x = read(COLUMNS);
        due("move", x.move(2, 0, 1), 2);
        check.same("where it is", tell(x, 2, 1, 2, 3, 4), "6 1 8 3");
        due("move, back", x.move(2, 0, -1), 3);
        due("move, far", x.move(3, 9, 9), 3);
        check.same("where it is", tell(x, 3, 1, 2, 3, 4), "15 12 17 13");
        due("move, not at all", x.move(3, 0, 0), 3);
        due("move, far back", x.move(3, -9, -9), 3);
        check.same("where it is", tell(x, 3, 1, 2, 3, 4), "6 3 8 4");
        due("move to the edges", x.move(3, -6, -3), 2);
        check.same("where it is", tell(x, 3, 1, 2, 3, 4), "0 0 2 1");
        due("move, back", x.move(3, 6, 3), 3);
        due("move, far", x.move(3, 9, 9), 3);
        due("left of 0", x.move(0, -1, 0), OUTSIDE);
        due("above 0", x.move(0, 0, -1), OUTSIDE);
        due("too far right", x.move(0, 10, 0), OUTSIDE);
        due("too far down", x.move(0, 0, 10), OUTSIDE);
        due("too far left", x.move(3, -10, 0), OUTSIDE);
        due("too far up", x.move(3, 0, -10), OUTSIDE);
        due("unknown and too far", x.move(4, 10, 0), UNKNOWN);
        for (int wrong : WRONG) {
            due("move", x.move(wrong, 0, 0), UNKNOWN);
            if (wrong != -1) {
                due("move, right", x.move(3, wrong, 0), OUTSIDE);
                due("move, down", x.move(3, 0, wrong), OUTSIDE);
            }
        }
        check.same("where it is", tell(x, 3, 1, 2, 3, 4), "15 12 17 13");
        movedToTheEnd();
    }

    private static void movedToTheEnd() {
        LaneOrder x = read("b0011;0");
        x.put(900, 900);
        for (int i = 0; i < 10; i++) {
            due("move", x.move(1, 9, 9), 1);
        }
        due("move to the end", x.move(1, 7, 7), 1);
        due("beyond it, right", x.move(1, 1, 0), OUTSIDE);
        due("beyond it, down", x.move(1, 0, 1), OUTSIDE);
        check.same("at the end", tell(x, 1, 1, 2, 3, 4), "997 997 999 999");
        due("moves at the end leave the order", x.calm(), 8);
        check.same("at the end", tell(x, 1, 1, 2, 3, 4), "997 997 999 999");
    }

    private static void promise15() {
        check.part("promise 15");
        LaneOrder x = read(HEAP);
        due("change", x.change(1, 2), 1);
        due("change, back", x.change(1, 1), 2);
        due("change to the same", x.change(1, 1), 1);
        due("a figure comes", x.change(2, 3), 0);
        due("the caption is bound", x.box(3, 6), 2);
        due("the figure goes", x.change(2, 4), 3);
        due("nothing is bound", x.count(4), 0);
        check.same("order", order(x), "1032");
        due("change(4, 0)", x.change(4, 0), UNKNOWN);
        due("change(0, 5)", x.change(0, 5), OUTSIDE);
        due("change(4, 5)", x.change(4, 5), UNKNOWN);
        for (int wrong : WRONG) {
            due("change", x.change(wrong, 0), UNKNOWN);
            due("change, kind", x.change(0, wrong), OUTSIDE);
        }
        due("it is still a note", x.box(0, 0), 2);
    }

    private static void promise16() {
        check.part("promise 16");
        LaneOrder x = read(HEAP);
        due("rules(4)", x.rules(4), 1);
        check.same("order by 0", order(x), "1023");
        due("rules(24)", x.rules(24), 2);
        check.same("order by 2, 0", order(x), "0312");
        due("rules(142)", x.rules(142), 3);
        check.same("order by 1, 0, 2", order(x), "1203");
        due("rules(3214)", x.rules(3214), 4);
        check.same("order by 3, 2, 1, 0", order(x), "0123");
        due("rules(4123)", x.rules(4123), 4);
        for (int wrong : new int[] {0, 5, 10, 40, 104, 11, 44, 121, 4124, 12341, 43210, 12345, 6, 19, -1, -12, Integer.MIN_VALUE, Integer.MAX_VALUE}) {
            due("rules(" + wrong + ")", x.rules(wrong), OUTSIDE);
            due("rules(" + wrong + "), no page", new LaneOrder().rules(wrong), OUTSIDE);
        }
        due("rules, no page", new LaneOrder().rules(4321), STATE);
        due("how many", x.count(3), 4);
        check.same("order", order(x), "1203");
    }

    private static void promise17() {
        check.part("promise 17");
        LaneOrder x = read("b0123,b4587;0");
        due("scale(1)", x.scale(1), 8);
        due("scale(5)", x.scale(5), 40);
        check.same("box 1", tell(x, 1, 1, 2, 3, 4), "20 25 40 35");
        check.same("cut", cuts(x), "1 15 10 1 1; ");
        due("scale(5)", x.scale(5), 200);
        due("scale(5), beyond", x.scale(5), OUTSIDE);
        due("scale(4)", x.scale(4), 800);
        due("scale(2), beyond", x.scale(2), OUTSIDE);
        due("scale(1)", x.scale(1), 800);
        for (int wrong : new int[] {0, 6, -1, Integer.MIN_VALUE, Integer.MAX_VALUE}) {
            due("scale(" + wrong + ")", x.scale(wrong), OUTSIDE);
            due("scale(" + wrong + "), no page", new LaneOrder().scale(wrong), OUTSIDE);
        }
        due("scale, no page", new LaneOrder().scale(5), STATE);
        scaledToTheEnd();
    }

    private static void scaledToTheEnd() {
        LaneOrder x = read("b0011;0");
        x.put(331, 0);
        due("just 999", x.scale(3), 999);
        LaneOrder y = read("b0011;0");
        y.put(0, 498);
        due("just 1000", y.scale(2), OUTSIDE);
        due("it is as it was", y.box(1, 4), 500);
        y.take(1);
        due("the greatest one is taken", y.scale(5), 5);
        due("the first one is the greatest", read("b0068,b0011;0").scale(2), 16);
    }

    private static void promise18() {
        check.part("promise 18");
        LaneOrder x = read(COVERED);
        due("the one over all", x.without(4), 4);
        due("another one", x.without(0), 0);
        due("boxes", x.count(0), 5);
        due("the only one", read("b0011;0").without(0), 0);
        LaneOrder y = read("f6677,c0011,b3344;0");
        check.same("order", order(y), "201");
        due("a figure", y.without(0), 2);
        due("a caption", y.without(1), 0);
        due("without(5)", x.without(5), UNKNOWN);
        for (int wrong : WRONG) {
            due("without", x.without(wrong), UNKNOWN);
        }
    }

    private static void promise19() {
        check.part("promise 19");
        due("far apart", read("b0011,b5566;2").calm(), 8);
        due("alone", read("b0011;0").calm(), 4);
        due("one above the other, by number", read("b0022,b0122;2").calm(), 8);
        due("one above the other", read("b0122,b0022;2").calm(), 6);
        due("one left of the other", read("b1022,b0022;3").calm(), 6);
        due("one left of the other by 2", read("b2044,b0044;3").calm(), 8);
        due("one above the other by 2", read("b0244,b0044;2").calm(), 8);
        LaneOrder x = read("b0122,b0022;2");
        x.calm();
        check.same("as it was", tell(x, 0, 1, 2, 3, 4) + " " + tell(x, 1, 1, 2, 3, 4), "0 1 2 2 0 0 2 2");
        due("no page", new LaneOrder().calm(), STATE);
    }

    private static void promise20() {
        check.part("promise 20");
        LaneOrder x = read(HEAP);
        due("heap", x.idle(), 13);
        x.rules(1);
        due("one alone", x.idle(), 0);
        x.rules(32);
        due("3, then 2", x.idle(), 4);
        x.rules(23);
        due("2, then 3", x.idle(), 8);
        due("both matter", read("b3099,b2199,b1199,b0099;23").idle(), 0);
        due("all idle", read("b0011,b5566;0123").idle(), 15);
        due("only rules that are there", read("b0011,b5566;31").idle(), 10);
        due("how many rules", x.count(3), 2);
        due("no page", new LaneOrder().idle(), STATE);
    }

    private static void promise21() {
        check.part("promise 21");
        due("covered", read(COVERED).free(), 4);
        due("like ones", read(COLUMNS).free(), 0);
        due("alone", read("b0011;0").free(), NONE);
        due("a bound one costs no cut", read("b0011,b2233,f4455,c8899;0").free(), 2);
        due("heap", read(HEAP).free(), 0);
        due("no page", new LaneOrder().free(), STATE);
        LaneOrder x = read(COVERED);
        x.free();
        due("boxes", x.count(0), 5);
    }

    private static void promise22() {
        check.part("promise 22");
        LaneOrder x = read("b0011,b2233;0");
        due("see", x.see(0, 0, false), 1);
        due("see", x.see(0, 3, false), 2);
        due("see, the same again", x.see(0, 3, false), 3);
        due("sorts", x.box(0, 8), 21);
        due("see", x.see(1, 1, true), 4);
        due("see", x.see(1, 2, true), 5);
        due("see(2, 0)", x.see(2, 0, true), UNKNOWN);
        due("see(0, 4)", x.see(0, 4, true), OUTSIDE);
        due("see(2, 4)", x.see(2, 4, true), UNKNOWN);
        for (int wrong : WRONG) {
            due("see", x.see(wrong, 0, true), UNKNOWN);
            due("see, what", x.see(0, wrong, true), OUTSIDE);
        }
        due("see, the sixth", x.see(1, 1, false), 6);
        due("see, a seventh", x.see(0, 0, false), FULL);
        due("see, full and unknown", x.see(2, 0, false), UNKNOWN);
        due("see, full and outside", x.see(0, 4, false), OUTSIDE);
        due("how much", x.count(5), 6);
        due("sorts, none", x.box(1, 8), 0);
        due("ask, none", x.box(1, 9), NONE);
        due("its kind stays", x.box(1, 0), 0);
    }

    private static void promise23() {
        check.part("promise 23");
        LaneOrder x = read("b0011,b2233;0");
        due("forget, nothing", x.forget(), 0);
        x.see(0, 0, true);
        x.see(1, 1, true);
        due("forget", x.forget(), 2);
        due("sorts", x.box(0, 8), 31);
        due("how much", x.count(5), 0);
        due("forget, again", x.forget(), 0);
        due("see", x.see(0, 1, false), 1);
        due("sorts", x.box(0, 8), 11);
    }

    private static void promise24() {
        check.part("promise 24");
        LaneOrder x = read(COLUMNS);
        long before = x.digest();
        due("cuts", x.drawn(10, 1061, 0), 20);
        due("by number", x.drawn(6, 5, 1), 1);
        due("by number, by left, too", x.drawn(20, 6, 1), 0);
        due("by number, by left, too", x.drawn(20, 11, 1), 1);
        due("the seed then", x.drawn(3, 1062, 2), 60625690);
        due("the same again", x.drawn(3, 1062, 2), 60625690);
        due("the seed of two, one by one", x.drawn(1, x.drawn(1, 0, 2), 2), x.drawn(2, 0, 2));
        due("cuts of two, one by one", x.drawn(1, 7, 0) + x.drawn(1, x.drawn(1, 7, 2), 0), x.drawn(2, 7, 0));
        due("times 0", x.drawn(0, 0, 0), OUTSIDE);
        due("times 21", x.drawn(21, 0, 0), OUTSIDE);
        due("what 3", x.drawn(1, 0, 3), OUTSIDE);
        for (int wrong : WRONG) {
            due("times", x.drawn(wrong, 0, 0), OUTSIDE);
            due("what", x.drawn(1, 0, wrong), OUTSIDE);
        }
        due("seed -1", x.drawn(1, -1, 0), OUTSIDE);
        due("seed, least", x.drawn(1, Integer.MIN_VALUE, 0), OUTSIDE);
        due("seed, greatest", x.drawn(20, Integer.MAX_VALUE, 2), seedAfter(20 * 20, Integer.MAX_VALUE));
        due("seed 0", x.drawn(20, 0, 2), seedAfter(20 * 20, 0));
        due("the page is as it was", x.digest(), before);
        due("no page", new LaneOrder().drawn(10, 1061, 0), 20);
    }

    private static long seedAfter(int draws, long seed) {
        for (int i = 0; i < draws; i++) {
            seed = (1103515245L * seed + 12345) % (1L << 31);
        }
        return seed;
    }

    private static void promise25() {
        check.part("promise 25");
        LaneOrder x = read(COLUMNS);
        due("image", x.image(), 4);
        x.take(0);
        due("image, the latest", x.image(), 3);
        x.take(0);
        due("restore", x.restore(), 3);
        due("no page", new LaneOrder().image(), STATE);
        long before = x.digest();
        x.image();
        due("nothing else changes", x.digest(), before);
    }

    private static void promise26() {
        check.part("promise 26");
        LaneOrder x = read(HEAP);
        due("restore, no image", x.restore(), STATE);
        x.see(0, 0, true);
        x.image();
        long kept = x.digest();
        x.move(0, 1, 0);
        x.change(1, 3);
        x.rules(2);
        x.put(20, 20);
        x.take(0);
        x.scale(2);
        x.forget();
        x.see(1, 1, true);
        x.see(1, 2, true);
        type(x, "b00");
        due("restore", x.restore(), 4);
        due("the text stays", x.count(6), 3);
        x.blank();
        due("all is as it was", x.digest(), kept);
        x.take(3);
        due("restore, again", x.restore(), 4);
        due("all is as it was", x.digest(), kept);
        x.change(0, 1);
        x.image();
        x.change(0, 0);
        x.restore();
        due("the image is not what goes on", x.box(0, 0), 1);
        type(x, HEAP);
        due("another page", x.page(), 4);
        due("restore, another page", x.restore(), STATE);
        due("image", x.image(), 4);
        due("restore", x.restore(), 4);
        due("pages read", x.count(7), 2);
    }

    private static void promise27() {
        check.part("promise 27");
        LaneOrder x = read(FIGURES);
        check.same("figures", counts(x), "5 2 3 1 2 0 0 1");
        x.see(0, 0, true);
        type(x, "b0011;1");
        check.same("figures", counts(x), "5 2 3 1 2 1 7 1");
        x.page();
        check.same("one", counts(x), "1 0 1 1 0 0 0 2");
        check.same("columns", counts(read(COLUMNS)), "4 3 4 2 0 0 0 1");
        due("count(8)", x.count(8), OUTSIDE);
        for (int wrong : WRONG) {
            due("count", x.count(wrong), OUTSIDE);
        }
    }

    private static void promise28() {
        check.part("promise 28");
        LaneOrder x = new LaneOrder();
        due("digest, no page", x.digest(), folded(x, ""));
        type(x, "b0~");
        due("digest, no page, a text", x.digest(), folded(x, "b0~"));
        for (String page : new String[] {COLUMNS, HEAP, FIGURES, COVERED, EIGHT, "c8899;3"}) {
            LaneOrder y = read(page);
            due("digest of " + page, y.digest(), folded(y, ""));
            y.see(0, 2, true);
            type(y, "t1");
            due("digest of " + page + ", seen", y.digest(), folded(y, "t1"));
            due("digest, again", y.digest(), folded(y, "t1"));
        }
        long h = 1429;
        for (int i = 0; i < 8; i++) {
            h *= 31;
        }
        due("digest of a new one", new LaneOrder().digest(), h);
    }
}
