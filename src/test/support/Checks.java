/** What every test of the project needs: it tells what is not as due, and ends with exit code 1 if there was any. */
abstract class Checks {
    static final int MIN = Integer.MIN_VALUE;
    static final int MAX = Integer.MAX_VALUE;
    static final int A = 5;
    static final int B = 6;
    static final int C = 7;
    /** What an object does after so many calls is free. */
    static final int MOST_CALLS = 512;

    private static int wrong = 0;

    static void check(boolean good, String fault) {
        if (!good) {
            wrong++;
            System.out.println(fault);
        }
    }

    static void due(String call, int got, int want) {
        check(got == want, call + " answered " + got + ", due is " + want);
    }

    /** A right side as rule() takes it, first sign first. */
    static int row(int... signs) {
        int number = 0;
        for (int sign : signs) {
            number = number * 9 + sign + 1;
        }
        return number;
    }

    static void finish() {
        System.out.println(wrong == 0 ? "all is as due" : wrong + " things are not as due");
        if (wrong != 0) {
            System.exit(1);
        }
    }
}
