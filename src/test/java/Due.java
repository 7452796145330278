import java.util.Arrays;

/** What a test holds against what is due: it prints each answer that is not, with the promise, the sentence and the line of the test. */
final class Due {
    private int promise;
    private String sentence = "";
    private int answers;
    private int wrong;

    void promise(int number) {
        promise = number;
        sentence = "";
    }

    /** The words of the document that the answers from here on hold; promise 0 is what stands ahead of promise 1. */
    void says(int number, String words) {
        promise = number;
        sentence = " (" + words + ")";
    }

    void is(long got, long want) {
        answers++;
        if (got != want) {
            tell("answered " + got + ", due is " + want);
        }
    }

    /** Several answers that are due one behind the other. */
    void are(long[] got, long... want) {
        answers++;
        if (!Arrays.equals(got, want)) {
            tell("answered " + Arrays.toString(got) + ", due is " + Arrays.toString(want));
        }
    }

    /** Of what is no answer: whether it holds. */
    void holds(boolean holds, String otherwise) {
        answers++;
        if (!holds) {
            tell(otherwise);
        }
    }

    private void tell(String fault) {
        wrong++;
        StackTraceElement at = new Throwable().getStackTrace()[2];
        System.out.println("promise " + promise + sentence + ", " + at.getFileName() + ":" + at.getLineNumber() + ": " + fault);
    }

    void end() {
        System.out.println(wrong == 0 ? answers + " answers are as due" : wrong + " answers are not as due");
        if (wrong != 0) {
            System.exit(1);
        }
    }
}
