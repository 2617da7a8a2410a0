/** Counts and prints the answers that are not as due. */
final class Due {
    private int wrong = 0;
    private int looked = 0;
    private String about = "";

    void about(String text) {
        about = text;
    }

    void is(String call, Object got, Object want) {
        looked++;
        if (!want.equals(got)) {
            wrong++;
            System.out.println(about + ": " + call + " answered " + got + ", due is " + want);
        }
    }

    int wrong() {
        return wrong;
    }

    void end() {
        System.out.println(looked + " answers, " + wrong + " not as due");
        if (wrong != 0 || looked == 0) {
            System.exit(1);
        }
    }
}
