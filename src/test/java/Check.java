/** What the tests share: due answers, and texts fed to the TAPE. */
final class Check {
    private int wrong = 0;
    private int made = 0;
    private String said = "";

    /** The document's words against which the answers behind this are held; a quote that is not there is wrong. */
    void said(int section, String words) {
        said = "[" + words + "] ";
        due("the quote stands in section " + section, Document.section(section).contains(words), true);
    }

    void due(String what, long got, long want) {
        made++;
        if (got != want) {
            wrong++;
            System.out.println(said + what + " answered " + got + ", due is " + want);
        }
    }

    void due(String what, boolean got, boolean want) {
        due(what, got ? 1 : 0, want ? 1 : 0);
    }

    /** Ends the program: 1 if an answer was not as due. */
    void finish() {
        System.out.println(made + " answers, " + wrong + " not as due");
        System.exit(wrong == 0 && made > 0 ? 0 : 1);
    }

    /** Feeds a text, twenty bytes a call. */
    static int feed(WeatherMarbles x, String text) {
        int size = x.count(4);
        for (int i = 0; i < text.length(); i += 20) {
            size = x.feed(four(text, i), four(text, i + 4), four(text, i + 8), four(text, i + 12), four(text, i + 16));
        }
        return size;
    }

    private static int four(String text, int from) {
        int number = 0;
        for (int i = from; i < from + 4; i++) {
            number = number << 8 | (i < text.length() ? text.charAt(i) & 255 : 0);
        }
        return number;
    }

    /** A new object with this YARD. */
    static WeatherMarbles yard(String text) {
        WeatherMarbles x = new WeatherMarbles();
        lay(x, text);
        return x;
    }

    static void lay(WeatherMarbles x, String text) {
        feed(x, text);
        if (x.text(0) < 1) {
            throw new IllegalStateException("no yard: " + text);
        }
    }

    /** Lays a plain YARD, whatever the TAPE holds. */
    static void lay0(WeatherMarbles x) {
        x.end(0);
        lay(x, "b;m");
    }

    /** Tells a LAW and lets it hold: its number. */
    static int holds(WeatherMarbles x, String text) {
        feed(x, text);
        int number = x.text(1);
        if (!x.law(number) || number < 0) {
            throw new IllegalStateException("no law: " + text);
        }
        return number;
    }

    /** The FAULT of a text on a new object. */
    static int fault(int sort, String text) {
        WeatherMarbles x = new WeatherMarbles();
        feed(x, text);
        return x.fault(sort);
    }

    static boolean boyThrows(WeatherMarbles x, int boy, int what) {
        try {
            x.boy(boy, what);
            return false;
        } catch (java.util.NoSuchElementException e) {
            return true;
        }
    }
}
