/** What the tests share: answers that are due, texts typed, halls told. */
abstract class Due {
    static final int BAD = -1, NOT = -2, FULL = -3, NONE = -4, NULL = -11, CAST = -12, INDEX = -13, SIZE = -14;
    static final int LEAST = Integer.MIN_VALUE, MOST = Integer.MAX_VALUE;
    static final int RING = 0, THIRDS = 1;
    /** Eight of which each may touch each. */
    static final String PROPS = "1p;1p;1p;1p;1p;1p;1p;1p";
    /** Eight of which each may touch the next one alone. */
    static final String CHAIN = "1;1:0;1:1;1:2;1:3;1:4;1:5;1:6";
    private static int wrong = 0;
    private static int asked = 0;
    private static int sentences = 0;
    private static String what = "";

    /** Names the promise (0: a term) and the sentence that the answers from here on are due to. */
    static void by(int promise, String sentence) {
        sentences++;
        what = (promise == 0 ? "terms" : "promise " + promise) + ", " + sentence;
    }

    static void due(String call, long got, long want) {
        asked++;
        if (got != want) {
            wrong++;
            System.out.println(what + ": " + call + " answered " + got + ", due is " + want);
        }
    }

    static void due(String call, String got, String want) {
        asked++;
        if (!got.equals(want)) {
            wrong++;
            System.out.println(what + ": " + call + " is " + got + ", due is " + want);
        }
    }

    /** Types a text on an empty tape, whose bytes come by eights. */
    static void type(BesideQuotes x, String text) {
        for (int from = 0; from < text.length(); from += 8) {
            int to = Math.min(text.length(), from + 8);
            long w = 0;
            for (int k = from; k < to; k++) {
                w = w << 8 | text.charAt(k);
            }
            due("type " + text, x.type(w, to - from), to);
        }
    }

    static int books(BesideQuotes x, String text) {
        type(x, text);
        return x.books();
    }

    static int hall(BesideQuotes x, String text) {
        type(x, text);
        return x.hall();
    }

    static BesideQuotes made(String books, String hall) {
        BesideQuotes x = new BesideQuotes();
        if (books.length() > 0) {
            due("books " + books, books(x, books), books.split(";").length);
        }
        due("hall " + hall, hall(x, hall), hall.length());
        return x;
    }

    static BesideQuotes ruled(int law, String books, String hall) {
        BesideQuotes x = made(books, hall);
        due("rule", x.rule(law, 1), 0);
        return x;
    }

    static BesideQuotes withSheet(String books, String hall, int lane, long... items) {
        BesideQuotes x = made(books, hall);
        due("sheet", x.sheet(0, lane, items.length), items.length);
        for (int i = 0; i < items.length; i++) {
            due("item", x.item(0, lane, i, items[i]), 1);
        }
        return x;
    }

    static String hallOf(BesideQuotes x) {
        StringBuilder got = new StringBuilder();
        for (int place = 0; x.at(place) >= 0; place++) {
            got.append(x.at(place));
        }
        return got.toString();
    }

    static void dueHall(BesideQuotes x, String want) {
        due("the hall", hallOf(x), want);
    }

    /** The i-th of the rows of a set, or its refusal. */
    static String rowOf(BesideQuotes x, int set, int i) {
        StringBuilder got = new StringBuilder();
        for (int place = 0; place < Integer.bitCount(set); place++) {
            got.append(x.row(set, i, place));
        }
        return got.toString();
    }

    static String forgedOf(BesideQuotes x, int set) {
        StringBuilder got = new StringBuilder();
        for (int place = 0; place < Integer.bitCount(set); place++) {
            got.append(x.forged(set, place));
        }
        return got.toString();
    }

    static void end() {
        System.out.println(sentences + " sentences, " + asked + " answers, " + wrong + " not as due");
        if (wrong != 0) {
            System.exit(1);
        }
    }
}
