/** Counts and prints the answers that are not the ones that are due. */
final class Checks {
    private final String name;
    private int looked;
    private int wrong;

    Checks(String name) {
        this.name = name;
    }

    void due(String call, long got, long want) {
        looked++;
        if (got != want) {
            wrong++;
            System.out.println(name + ": " + call + " answered " + got + ", due is " + want);
        }
    }

    void holds(String what, boolean does) {
        due(what, does ? 1 : 0, 1);
    }

    int wrongSoFar() {
        return wrong;
    }

    void end() {
        System.out.println(name + ": " + looked + " answers looked at, " + wrong + " not as due");
        if (wrong != 0 || looked == 0) {
            System.exit(1);
        }
    }
}
