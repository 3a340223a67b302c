/** Counts and prints the answers that are not as due. */
final class Checks {
    private int asked = 0;
    private int wrong = 0;

    void due(String call, long got, long want) {
        asked++;
        if (got != want) {
            wrong++;
            System.out.println(call + " answered " + got + ", due is " + want);
        }
    }

    void holds(String what, boolean so) {
        due(what, so ? 1 : 0, 1);
    }

    void end() {
        System.out.println(asked + " answers, " + wrong + " not as due");
        if (wrong != 0) {
            System.exit(1);
        }
    }

    /** The answer of the last byte typed. */
    static int typeAll(HandedSlips x, String text) {
        int answer = 0;
        for (char c : text.toCharArray()) {
            answer = x.type(c);
        }
        return answer;
    }

    static int readText(HandedSlips x, String text) {
        x.clear();
        typeAll(x, text);
        return x.read();
    }
}
