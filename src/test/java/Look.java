import java.util.StringJoiner;

/** All that an object tells of itself, as a text, so that two of them can be compared. */
final class Look {
    private Look() {
    }

    /** What is so, without the tape and the latest FAULT; the object stays as it is. */
    static String around(NewsCows cows) {
        StringJoiner text = new StringJoiner(" ");
        rows(text, "count", cows, 5);
        rows(text, "now", cows, 6);
        for (int c = 0; c < cows.count(1); c++) {
            rows(text, "cow", cows, 8, c);
        }
        for (int n = 0; n < cows.count(2); n++) {
            rows(text, "news", cows, 6, n);
        }
        for (int f = 0; f < cows.count(0); f++) {
            rows(text, "farm", cows, 4, f);
            for (int day = Math.max(0, cows.now(0) - 5); day < cows.now(0); day++) {
                text.add(Integer.toString(cows.pails(f, day)));
            }
        }
        text.add("said " + cows.said(-1) + " " + cows.said(0) + " " + cows.said(1));
        return text.toString();
    }

    /** What other calls told last; the object stays as it is. */
    static String last(NewsCows cows) {
        StringJoiner text = new StringJoiner(" ");
        rows(text, "planAt", cows, 3);
        rows(text, "written", cows, 4);
        return text.add("told " + cows.told() + " parted " + cows.parted() + " surely " + cows.surely() + " ask " + cows.ask()).toString();
    }

    /** What comes of it: acts undone, and images. The object is another one then. */
    static String behind(NewsCows cows) {
        StringJoiner text = new StringJoiner(" ", " ahead ", "");
        text.add(cows.ahead(9) + "");
        for (int left = cows.undo(); left >= 0; left = cows.undo()) {
            text.add("undo " + left + " " + cows.now(0) + " " + cows.now(3) + " " + cows.now(4) + " " + cows.now(2));
        }
        for (int k = 0; k < 2; k++) {
            text.add("restore " + cows.restore(k) + " " + cows.now(0) + " " + cows.now(4) + " " + cows.count(1) + " " + cows.said(-1));
        }
        return text.toString();
    }

    private static void rows(StringJoiner text, String call, NewsCows cows, int end, int... which) {
        text.add(call);
        for (int what = 0; what < end; what++) {
            text.add(Run.shown(which.length == 0 ? Run.answer(cows, call, what) : Run.answer(cows, call, which[0], what)));
        }
    }
}
