/** What the project's tests share: answers compared with those that are due, and texts fed whole. */
final class Check {
    private final String title;
    private int asked = 0;
    private int wrong = 0;

    Check(String title) {
        this.title = title;
    }

    void due(String what, long got, long want) {
        asked++;
        if (got != want) {
            wrong++;
            if (wrong <= 40) {
                System.out.println(title + ": " + what + " answered " + got + ", due is " + want);
            }
        }
    }

    void holds(String what, boolean holds) {
        due(what, holds ? 1 : 0, 1);
    }

    boolean anyWrong() {
        return wrong != 0;
    }

    void end() {
        System.out.println(title + ": " + asked + " asked, " + wrong + " wrong");
        if (wrong != 0 || asked == 0) {
            System.exit(1);
        }
    }

    /** Feeds a text, sign by sign. */
    static void feed(OuterIdeals x, String text) {
        for (int i = 0; i < text.length(); i++) {
            x.feed(text.charAt(i));
        }
    }

    /** Feeds a text and reads it. */
    static int read(OuterIdeals x, String text) {
        feed(x, text);
        return x.read();
    }

    static OuterIdeals with(String text) {
        OuterIdeals x = new OuterIdeals();
        int answer = read(x, text);
        if (answer < 0) {
            throw new IllegalStateException("not in form: " + text + " " + answer);
        }
        return x;
    }
}
