import java.util.Objects;

/** Counts the answers that are not the ones that are due, and prints them. */
final class Check {
    private int wrong;
    private int looked;
    private String part = "";

    void part(String name) {
        part = name;
    }

    void due(String call, long got, long want) {
        looked++;
        if (got != want) {
            fail(call + " answered " + got + ", due is " + want);
        }
    }

    void same(String what, Object got, Object want) {
        looked++;
        if (!Objects.equals(got, want)) {
            fail(what + " is " + got + ", due is " + want);
        }
    }

    void fail(String what) {
        wrong++;
        if (wrong <= 40) {
            System.out.println(part + ": " + what);
        }
    }

    boolean isClean() {
        return wrong == 0;
    }

    void end(String name) {
        System.out.println(name + ": " + looked + " answers looked at, " + wrong + " wrong");
        if (wrong != 0 || looked == 0) {
            System.exit(1);
        }
    }
}
