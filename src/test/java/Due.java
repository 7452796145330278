/** What a test holds against what is due: it prints each answer that is not, with the promise and the line of the test. */
final class Due {
    private int promise;
    private int answers;
    private int wrong;

    void promise(int number) {
        promise = number;
    }

    void is(long got, long want) {
        answers++;
        if (got != want) {
            wrong++;
            StackTraceElement at = new Throwable().getStackTrace()[1];
            System.out.println("promise " + promise + ", " + at.getFileName() + ":" + at.getLineNumber() + ": answered " + got + ", due is " + want);
        }
    }

    /** Several answers that are due one behind the other. */
    void are(long[] got, long... want) {
        answers++;
        if (!java.util.Arrays.equals(got, want)) {
            wrong++;
            StackTraceElement at = new Throwable().getStackTrace()[1];
            System.out.println("promise " + promise + ", " + at.getFileName() + ":" + at.getLineNumber() + ": answered "
                + java.util.Arrays.toString(got) + ", due is " + java.util.Arrays.toString(want));
        }
    }

    /** Of what is no answer: whether it holds. */
    void holds(boolean holds, String otherwise) {
        answers++;
        if (!holds) {
            wrong++;
            System.out.println(otherwise);
        }
    }

    void end() {
        System.out.println(wrong == 0 ? answers + " answers are as due" : wrong + " answers are not as due");
        if (wrong != 0) {
            System.exit(1);
        }
    }
}
