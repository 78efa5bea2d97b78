/** States of an object in which calls are refused. */
enum State {
    /** Nothing was called. */
    NEW,
    /** No page; a text that is not whole. */
    TYPING,
    /** One box, no image, nothing seen. */
    LONE,
    /** Seven boxes, 0 to 4 in one leaf where every rule matters, 5 bound, 6 far from all; an image of another state; a text. */
    BUSY,
    /** As many boxes, letters and sights as there can be. */
    CROWDED;

    static final State[] WITHOUT_PAGE = {NEW, TYPING};
    static final State[] WITH_PAGE = {LONE, BUSY, CROWDED};

    LaneOrder make() {
        LaneOrder x = new LaneOrder();
        switch (this) {
            case NEW:
                return x;
            case TYPING:
                return Calls.type(x, "b0011,");
            case LONE:
                return Calls.make(Calls.type(x, "n1234;13"), "page()");
            case BUSY:
                Calls.make(Calls.type(x, "t1257,b0367,n1275,f2275,n2257,c8899;2031"), "page()");
                Calls.make(x, "put(400, 400)", "see(0, 0, false)", "see(1, 1, true)", "image()");
                Calls.make(x, "move(1, 1, 0)", "change(4, 1)", "rules(4123)", "see(6, 3, true)");
                return Calls.type(x, "t12");
            default:
                Calls.make(Calls.type(x, "b0011,t2233,n4455,f6677,c8899,c0088,b8091,b0819;3210"), "page()");
                Calls.make(x, "see(0, 0, true)", "see(1, 1, true)", "see(2, 2, true)", "image()");
                Calls.make(x, "see(3, 3, true)", "see(7, 0, false)", "see(7, 0, false)", "move(6, 1, 1)");
                return Calls.type(x, "b0011,t2233,n4455,f6677,c8899,c0088,b8091,b0819;3210~~");
        }
    }
}
