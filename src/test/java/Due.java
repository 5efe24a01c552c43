/** Prints every answer that is not the one that is due, and ends a test with exit code 1 if one was. */
final class Due {
    private String part = "";
    private int asked;
    private int wrong;

    void part(String name) {
        part = name;
    }

    void is(String call, int got, int want) {
        asked++;
        if (got != want) {
            wrong++;
            System.out.println(part + ": " + call + " answered " + got + ", due is " + want);
        }
    }

    void isTrue(String what, boolean holds) {
        asked++;
        if (!holds) {
            wrong++;
            System.out.println(part + ": " + what + " does not hold");
        }
    }

    void end(String name) {
        System.out.println(name + ": " + asked + " asked, " + wrong + " wrong");
        if (wrong > 0) {
            System.exit(1);
        }
    }
}
