/**
 * Each refused call: its answer, of several the first that the call names, and that nothing has changed by it:
 * a twin on which it was not called answers alike to all that can be asked.
 */
public final class RefusalTest extends Due {
    /** A call on an object. */
    private interface Call {
        int on(BesideQuotes x);
    }

    /** How an object comes to be as it is ahead of the call. */
    private interface Maker {
        BesideQuotes make();
    }

    private static final String EIGHT = "3:1;2:2;5:34;1:5;4;2:46;7p;9:0";
    private static Maker maker = BesideQuotes::new;
    private static int promise = 0;

    private static void refused(String sentence, Call call, int want) {
        by(promise, sentence);
        BesideQuotes untouched = maker.make();
        BesideQuotes asked = maker.make();
        due("the call", call.on(asked), want);
        due("what is told of it behind the call", probe(asked), probe(untouched));
    }

    /** All that can be asked; what is asked by changing it comes last, and is asked once. */
    private static String probe(BesideQuotes x) {
        StringBuilder told = new StringBuilder();
        probeLibrary(x, told);
        probeSheets(x, told);
        told.append("| tape ").append(x.type(' ', 1)).append(' ').append(x.hall()).append(' ').append(hallOf(x));
        probeByChange(x, told);
        told.append("| restore ").append(x.restore());
        probeLibrary(x, told);
        probeByChange(x, told);
        return told.toString();
    }

    private static void probeLibrary(BesideQuotes x, StringBuilder told) {
        told.append("| counts");
        for (int what = 0; what < 6; what++) {
            told.append(' ').append(x.count(what));
        }
        told.append(" hall ").append(hallOf(x)).append(" judged ").append(x.judged()).append(" touches ");
        for (int book = 0; book < 8; book++) {
            for (int other = 0; other < book; other++) {
                told.append(x.touch(book, other));
            }
        }
    }

    private static void probeSheets(BesideQuotes x, StringBuilder told) {
        for (int sheet = 0; sheet < 4; sheet++) {
            told.append("| sheet ").append(sheet);
            for (int lane = 0; lane < 3; lane++) {
                // INDEX tells the lane, as nothing is written
                if (x.item(sheet, lane, -1, 0) == INDEX) {
                    told.append(" lane ").append(lane);
                    for (int i = 0; x.copy(sheet, i, sheet, i, 1) == 1; i++) {
                        told.append(' ').append(x.walk(sheet, lane, i, 1));
                    }
                }
            }
        }
    }

    private static void probeByChange(BesideQuotes x, StringBuilder told) {
        told.append("| quotes ");
        for (int pair = 0; pair < 64; pair++) {
            if (pair / 8 != pair % 8) {
                told.append(x.quote(pair / 8, pair % 8, false));
            }
        }
        told.append(" hates ");
        for (int pair = 0; pair < 64; pair++) {
            if (pair / 8 < pair % 8) {
                told.append(x.hate(pair / 8, pair % 8, false));
            }
        }
        for (int book = 0; book < 8; book++) {
            told.append(' ').append(x.prop(book, false)).append(x.thick(book, 1));
        }
        told.append(" laws ").append(x.rule(0, 0)).append(x.rule(1, 0));
    }

    /** An image of five books; then eight, six of them in the hall, two hate, the sheets 0, 1, 2 of lanes 0, 1, 2. */
    private static BesideQuotes rich() {
        BesideQuotes x = made("1;2:0;3p;4:12;5", "2130");
        x.rule(THIRDS, 1);
        x.hate(2, 4, true);
        x.image();
        due("books", books(x, EIGHT), 8);
        due("hall", hall(x, "012354"), 6);
        x.hate(0, 6, true);
        x.rule(RING, 1);
        x.sheet(0, 0, 3);
        x.sheet(1, 1, 5);
        x.sheet(2, 2, 4);
        for (int i = 0; i < 3; i++) {
            x.item(0, 0, i, 5 - i);
            x.item(1, 1, i, 2 * i);
            x.item(2, 2, i, 6 + i);
        }
        x.item(1, 1, 3, 6);
        return x;
    }

    private static BesideQuotes richWithTape() {
        BesideQuotes x = rich();
        type(x, "31 0");
        return x;
    }

    private static BesideQuotes withTape(int many) {
        BesideQuotes x = made("1;1", "1");
        for (int k = 1; k <= many; k++) {
            due("type", x.type(k == 1 ? '0' : ' ', 1), k);
        }
        return x;
    }

    private static void calls(int number, Maker from) {
        promise = number;
        maker = from;
    }

    private static void book() {
        calls(2, BesideQuotes::new);
        refused("BAD: a thickness of 0", x -> x.book(0), BAD);
        refused("BAD: a thickness below 0", x -> x.book(-1), BAD);
        refused("BAD: a thickness of 10", x -> x.book(10), BAD);
        refused("BAD: the least number", x -> x.book(LEAST), BAD);
        refused("BAD: the greatest number", x -> x.book(MOST), BAD);
        calls(2, RefusalTest::richWithTape);
        refused("FULL: 8", x -> x.book(1), FULL);
        refused("BAD ahead of FULL", x -> x.book(10), BAD);
        refused("BAD ahead of FULL", x -> x.book(0), BAD);
    }

    private static void pairs() {
        calls(3, RefusalTest::richWithTape);
        for (boolean is : new boolean[] {true, false}) {
            for (int bad : new int[] {-1, 8, 32, LEAST, MOST}) {
                calls(3, RefusalTest::richWithTape);
                refused("BAD: one that is not there", x -> x.quote(bad, 1, is), BAD);
                refused("BAD: another one that is not there", x -> x.quote(1, bad, is), BAD);
                refused("BAD: both are not there", x -> x.quote(bad, bad, is), BAD);
                calls(4, RefusalTest::richWithTape);
                refused("BAD: one that is not there", x -> x.hate(bad, 1, is), BAD);
                refused("BAD: another one that is not there", x -> x.hate(1, bad, is), BAD);
                calls(5, RefusalTest::richWithTape);
                refused("BAD: one that is not there", x -> x.prop(bad, is), BAD);
            }
            calls(3, RefusalTest::richWithTape);
            refused("BAD: also itself", x -> x.quote(0, 0, is), BAD);
            refused("BAD: also itself, the last one", x -> x.quote(7, 7, is), BAD);
            calls(4, RefusalTest::richWithTape);
            refused("BAD: also itself", x -> x.hate(0, 0, is), BAD);
            refused("BAD: also itself, the last one", x -> x.hate(7, 7, is), BAD);
            calls(3, BesideQuotes::new);
            refused("BAD: no book is there", x -> x.quote(0, 1, is), BAD);
            calls(4, BesideQuotes::new);
            refused("BAD: no book is there", x -> x.hate(0, 1, is), BAD);
            calls(5, BesideQuotes::new);
            refused("BAD: no book is there", x -> x.prop(0, is), BAD);
        }
    }

    private static void thickRuleTouch() {
        calls(6, RefusalTest::richWithTape);
        for (int bad : new int[] {-1, 0, 10, LEAST, MOST}) {
            refused("BAD: v is not 1 .. 9", x -> x.thick(2, bad), BAD);
        }
        for (int bad : new int[] {-1, 8, LEAST, MOST}) {
            calls(6, RefusalTest::richWithTape);
            refused("BAD: a book that is not there", x -> x.thick(bad, 5), BAD);
            calls(8, RefusalTest::richWithTape);
            refused("BAD: one that is not there", x -> x.touch(bad, 1), BAD);
            refused("BAD: another one that is not there", x -> x.touch(1, bad), BAD);
        }
        refused("BAD: also itself", x -> x.touch(3, 3), BAD);
        refused("BAD: also itself, a prop", x -> x.touch(6, 6), BAD);
        calls(6, BesideQuotes::new);
        refused("BAD: no book is there", x -> x.thick(0, 1), BAD);
        calls(8, BesideQuotes::new);
        refused("BAD: no book is there", x -> x.touch(0, 1), BAD);
        calls(7, RefusalTest::richWithTape);
        for (int bad : new int[] {-1, 2, LEAST, MOST}) {
            refused("BAD: no law", x -> x.rule(bad, 0), BAD);
            refused("BAD: RING is 0, 1", x -> x.rule(RING, bad), BAD);
            refused("BAD: THIRDS is 0, 1", x -> x.rule(THIRDS, bad), BAD);
        }
    }

    private static void type() {
        calls(9, RefusalTest::richWithTape);
        for (int bad : new int[] {0, -1, 9, LEAST, MOST}) {
            refused("BAD: n", x -> x.type(0x3131313131313131L, bad), BAD);
        }
        for (long bad : new long[] {31, 127, 0, 255, 128}) {
            refused("BAD: the byte is not 32 .. 126", x -> x.type(bad, 1), BAD);
            refused("BAD: the first byte is not", x -> x.type(bad << 56 | 0x31313131313131L, 8), BAD);
            refused("BAD: the last byte is not, none comes", x -> x.type(0x3131313131313100L | bad, 8), BAD);
            refused("BAD: one in the middle is not, none comes", x -> x.type(0x310031L | bad << 8, 3), BAD);
        }
        calls(9, () -> withTape(60));
        refused("FULL: 60", x -> x.type('1', 1), FULL);
        refused("FULL: 60, eight more", x -> x.type(0x3131313131313131L, 8), FULL);
        refused("BAD ahead of FULL: a byte", x -> x.type(31, 1), BAD);
        refused("BAD ahead of FULL: n", x -> x.type('1', 9), BAD);
        calls(9, () -> withTape(59));
        refused("FULL: 60, of two none comes", x -> x.type(0x3131L, 2), FULL);
        calls(9, () -> withTape(53));
        refused("FULL: 60, of eight none comes", x -> x.type(0x3131313131313131L, 8), FULL);
    }

    private static void faults() {
        calls(10, RefusalTest::rich);
        refused("a FAULT: an empty tape", x -> x.books(), -20);
        refused("a FAULT: a byte that can't stand there (those told stay)", x -> books(x, "9;8p:0,"), -26);
        refused("a FAULT: the end (those told stay)", x -> books(x, "9;8p:0;"), -27);
        refused("a FAULT: one that does not come (those told stay)", x -> books(x, "9;8p:0;7:4"), -29);
        refused("a FAULT: nine (those told stay)", x -> books(x, "9;9;9;9;9;9;9;9;9"), -35);
        calls(11, RefusalTest::rich);
        refused("a FAULT: a byte that can't stand there (that told stays)", x -> hall(x, "76x"), -22);
        refused("a FAULT: a book that is not there (that told stays)", x -> hall(x, "768"), -22);
        refused("a FAULT: one twice (that told stays)", x -> hall(x, "76 6"), -23);
        refused("a FAULT: nine (that told stays)", x -> hall(x, "765432100"), -28);
        calls(11, BesideQuotes::new);
        refused("a FAULT: no book is there", x -> hall(x, "0"), -20);
        calls(10, BesideQuotes::new);
        refused("a FAULT: blanks alone", x -> books(x, "  "), -22);
    }

    private static void atCountJudged() {
        calls(12, RefusalTest::richWithTape);
        for (int bad : new int[] {-1, 6, 7, 8, LEAST, MOST}) {
            refused("BAD: none is there", x -> x.at(bad), BAD);
        }
        calls(13, RefusalTest::richWithTape);
        for (int bad : new int[] {-1, 6, LEAST, MOST}) {
            refused("BAD: what is not 0 .. 5", x -> x.count(bad), BAD);
        }
        calls(12, BesideQuotes::new);
        refused("BAD: the hall is empty", x -> x.at(0), BAD);
        calls(14, BesideQuotes::new);
        refused("NONE: the empty hall is LAWFUL", x -> x.judged(), NONE);
    }

    private static void sets() {
        for (int bad : new int[] {-1, 256, 257, LEAST, MOST}) {
            calls(15, RefusalTest::richWithTape);
            refused("BAD: also books that are not there", x -> x.rows(bad), BAD);
            calls(16, RefusalTest::richWithTape);
            refused("BAD: books that are not there", x -> x.row(bad, 0, 0), BAD);
            calls(17, RefusalTest::richWithTape);
            refused("BAD: books that are not there", x -> x.cut(bad), BAD);
            calls(20, RefusalTest::richWithTape);
            refused("BAD: books that are not there", x -> x.forged(bad, -1), BAD);
            calls(21, RefusalTest::richWithTape);
            refused("BAD: books that are not there", x -> x.apart(bad, 0, 1), BAD);
            calls(23, RefusalTest::richWithTape);
            refused("BAD: books that are not there", x -> x.burnt(0, 0, bad, 3, -1), BAD);
        }
        Maker three = () -> made("1;1:0;1:1", "01");
        calls(15, three);
        refused("BAD: the first that is not there", x -> x.rows(8), BAD);
        refused("BAD: one of those told is not there", x -> x.rows(15), BAD);
        calls(16, three);
        refused("BAD: the first that is not there", x -> x.row(8, 0, 0), BAD);
        calls(17, three);
        refused("BAD: the first that is not there", x -> x.cut(8), BAD);
        calls(20, three);
        refused("BAD: the first that is not there", x -> x.forged(8, -1), BAD);
        calls(21, three);
        refused("BAD: the first that is not there", x -> x.apart(11, 0, 1), BAD);
        calls(23, three);
        refused("BAD: the first that is not there", x -> x.burnt(0, 0, 8, 1, -1), BAD);
    }

    private static void row() {
        calls(16, () -> made(CHAIN, "01"));
        for (int bad : new int[] {-1, 3, 8, LEAST, MOST}) {
            refused("BAD: also a place that it has not", x -> x.row(7, 0, bad), BAD);
            refused("BAD ahead of NONE: the set has no rows", x -> x.row(13, 0, bad), BAD);
        }
        refused("BAD: the empty row has no place", x -> x.row(0, 0, 0), BAD);
        refused("BAD: i below 0", x -> x.row(7, -1, 0), BAD);
        refused("BAD: i below 0, the least", x -> x.row(7, LEAST, 0), BAD);
        refused("BAD ahead of NONE: i below 0, no rows", x -> x.row(13, -1, 0), BAD);
        refused("NONE: there is no i-th, of two", x -> x.row(7, 2, 0), NONE);
        refused("NONE: there is no i-th, the greatest", x -> x.row(7, MOST, 2), NONE);
        refused("NONE: there is no first", x -> x.row(13, 0, 0), NONE);
        calls(16, () -> made(PROPS, ""));
        refused("NONE: there is no i-th, of 40320", x -> x.row(255, 40320, 7), NONE);
    }

    private static void cut() {
        calls(17, () -> made(CHAIN, "01"));
        refused("NONE: none shows it of the empty set", x -> x.cut(0), NONE);
        refused("NONE: none shows it of one", x -> x.cut(128), NONE);
        refused("NONE: none shows it where there is a row", x -> x.cut(255), NONE);
        calls(17, () -> ruled(RING, PROPS, "01"));
        refused("NONE: by RING, none shows it where there is a row", x -> x.cut(255), NONE);
        refused("NONE: by RING, none shows it of the empty set", x -> x.cut(0), NONE);
    }

    private static void moves() {
        for (int bad : new int[] {-1, 8, 32, LEAST, MOST}) {
            calls(18, RefusalTest::richWithTape);
            refused("BAD: a book that is not there", x -> x.put(bad), BAD);
            calls(19, RefusalTest::richWithTape);
            refused("BAD: a book that is not there", x -> x.lend(bad), BAD);
        }
        calls(18, RefusalTest::richWithTape);
        refused("NOT: it stands", x -> x.put(0), NOT);
        refused("NOT: it stands, the last one", x -> x.put(4), NOT);
        refused("NONE: there is no such row", x -> x.put(7), NONE);
        calls(19, RefusalTest::richWithTape);
        refused("NOT: it does not stand", x -> x.lend(6), NOT);
        refused("NONE: there is no such row", x -> x.lend(2), NONE);
        calls(18, BesideQuotes::new);
        refused("BAD: no book is there", x -> x.put(0), BAD);
        calls(19, BesideQuotes::new);
        refused("BAD: no book is there", x -> x.lend(0), BAD);
        calls(18, () -> made("1;1;1:0", "01"));
        refused("NOT ahead of NONE: it stands, and there is no row", x -> x.put(0), NOT);
        refused("NONE: the hall was not LAWFUL and can't be", x -> x.put(2), NONE);
        calls(19, () -> made("1;1;1:0", "01"));
        refused("NOT ahead of NONE: it does not stand, and there is no row", x -> x.lend(2), NOT);
        calls(19, () -> made("1;1;1:01", "021"));
        refused("NONE: those left may not TOUCH", x -> x.lend(2), NONE);
        calls(19, () -> ruled(RING, "1;1:0;1:1;1:02", "0123"));
        refused("NONE: by RING, the ends of those left may not TOUCH", x -> x.lend(0), NONE);
        calls(18, () -> ruled(RING, "1;1:0;1:1", "01"));
        refused("NONE: by RING, three in a chain", x -> x.put(2), NONE);
    }

    private static void forged() {
        calls(20, RefusalTest::richWithTape);
        refused("BAD: also an empty set", x -> x.forged(0, -1), BAD);
        refused("BAD: also an empty set, a place", x -> x.forged(0, 0), BAD);
        for (int bad : new int[] {-2, 3, 8, LEAST, MOST}) {
            refused("BAD: a place that the row has not", x -> x.forged(7, bad), BAD);
            refused("BAD ahead of NONE: a place", x -> x.forged(65, bad == 3 ? 2 : bad), BAD);
        }
        refused("NONE: in no row, how many", x -> x.forged(65, -1), NONE);
        refused("NONE: in no row, a place", x -> x.forged(65, 1), NONE);
        calls(20, BesideQuotes::new);
        refused("BAD: no book is there", x -> x.forged(1, -1), BAD);
        calls(20, () -> {
            BesideQuotes x = ruled(RING, PROPS, "");
            x.hate(0, 1, true);
            return x;
        });
        refused("NONE: by RING, three of which two hate one another", x -> x.forged(7, -1), NONE);
        refused("NONE: by RING, three of which two hate one another, a place", x -> x.forged(7, 2), NONE);
    }

    private static void apartFree() {
        calls(21, RefusalTest::richWithTape);
        refused("BAD: also itself", x -> x.apart(7, 1, 1), BAD);
        refused("BAD: also one not of it", x -> x.apart(7, 3, 1), BAD);
        refused("BAD: also another one not of it", x -> x.apart(7, 1, 3), BAD);
        refused("BAD: the empty set has none", x -> x.apart(0, 0, 1), BAD);
        for (int bad : new int[] {-1, 8, 32, 33, LEAST, MOST}) {
            refused("BAD: a book that is not there", x -> x.apart(7, bad, 1), BAD);
            refused("BAD: another book that is not there", x -> x.apart(7, 1, bad), BAD);
        }
        refused("NONE: it has no ROWS", x -> x.apart(0xA0, 5, 7), NONE);
        refused("BAD ahead of NONE: itself, and no ROWS", x -> x.apart(0xA0, 5, 5), BAD);
        refused("BAD ahead of NONE: one not of it, and no ROWS", x -> x.apart(0xA0, 5, 6), BAD);
        refused("NONE: by RING, a chain of three", x -> x.apart(7, 0, 1), NONE);
        calls(22, RefusalTest::richWithTape);
        for (int bad : new int[] {0, -1, 7, 8, 9, LEAST, MOST}) {
            refused("BAD: k is not 1 .. 8, or more than THE HALL has", x -> x.free(bad), BAD);
        }
        calls(22, BesideQuotes::new);
        refused("BAD: more than the empty hall has", x -> x.free(1), BAD);
        calls(22, () -> made(PROPS, "01234567"));
        refused("BAD: nine", x -> x.free(9), BAD);
    }

    private static void burnt() {
        calls(23, RefusalTest::richWithTape);
        for (int bad : new int[] {-1, 6, 8, LEAST, MOST}) {
            refused("BAD: b is no place", x -> x.burnt(0, bad, 255, 3, -1), BAD);
            refused("BAD: a is no place", x -> x.burnt(bad, 5, 255, 3, -1), BAD);
            refused("BAD: a and b are no place", x -> x.burnt(bad, bad, 255, 3, -1), BAD);
        }
        refused("BAD: a behind b", x -> x.burnt(2, 1, 255, 3, -1), BAD);
        for (int bad : new int[] {0, -1, 100, LEAST, MOST}) {
            refused("BAD: not so thick", x -> x.burnt(1, 1, 255, bad, -1), BAD);
        }
        for (int bad : new int[] {-2, 0, 3, LEAST, MOST}) {
            refused("BAD: k is not a .. b", x -> x.burnt(1, 2, 255, 7, bad), BAD);
            refused("BAD ahead of NONE: k is not a .. b", x -> x.burnt(1, 2, 0, 7, bad), BAD);
        }
        refused("NONE: there is none of the empty set", x -> x.burnt(1, 1, 0, 2, -1), NONE);
        refused("NONE: there is none of the empty set, a place", x -> x.burnt(1, 1, 0, 2, 1), NONE);
        refused("NONE: none is so thick", x -> x.burnt(1, 1, 255, 99, -1), NONE);
        refused("NONE: fewer books than places", x -> x.burnt(1, 2, 2, 2, -1), NONE);
        calls(23, () -> made(PROPS, ""));
        refused("BAD: the empty hall has no place", x -> x.burnt(0, 0, 255, 1, -1), BAD);
    }

    private static void restore() {
        calls(25, BesideQuotes::new);
        refused("NONE: there is none", x -> x.restore(), NONE);
        calls(25, () -> made(PROPS, "0123"));
        refused("NONE: there is none, books are", x -> x.restore(), NONE);
    }

    private static void walk() {
        calls(26, RefusalTest::richWithTape);
        for (int bad : new int[] {0, -1, 7, LEAST, MOST}) {
            refused("BAD: n", x -> x.walk(1, 1, 0, bad), BAD);
            refused("BAD ahead of NULL", x -> x.walk(3, 1, 0, bad), BAD);
            refused("BAD ahead of CAST", x -> x.walk(1, 0, 0, bad), BAD);
            refused("BAD ahead of INDEX", x -> x.walk(1, 1, -1, bad), BAD);
        }
        for (int bad : new int[] {-1, 4, LEAST, MOST}) {
            refused("BAD: no sheet", x -> x.walk(bad, 1, 0, 1), BAD);
            refused("BAD: no lane", x -> x.walk(1, bad == 4 ? 3 : bad, 0, 1), BAD);
            refused("BAD ahead of NULL: no lane", x -> x.walk(3, bad == 4 ? 3 : bad, 0, 1), BAD);
        }
        refused("NULL", x -> x.walk(3, 0, 0, 1), NULL);
        refused("NULL ahead of INDEX", x -> x.walk(3, 0, -1, 1), NULL);
        refused("CAST: ints as bytes", x -> x.walk(1, 0, 0, 1), CAST);
        refused("CAST: longs as ints", x -> x.walk(2, 1, 0, 1), CAST);
        refused("CAST: bytes as longs", x -> x.walk(0, 2, 0, 1), CAST);
        refused("CAST ahead of INDEX", x -> x.walk(1, 2, 5, 1), CAST);
        refused("CAST ahead of NOT", x -> x.walk(2, 1, 0, 1), CAST);
        refused("INDEX: behind the end", x -> x.walk(1, 1, 5, 1), INDEX);
        refused("INDEX: over the end", x -> x.walk(1, 1, 4, 2), INDEX);
        refused("INDEX: ahead", x -> x.walk(1, 1, -1, 1), INDEX);
        refused("INDEX: ahead, though the end is not", x -> x.walk(1, 1, -1, 6), INDEX);
        refused("INDEX: far", x -> x.walk(1, 1, MOST, 6), INDEX);
        refused("INDEX: far ahead", x -> x.walk(1, 1, LEAST, 6), INDEX);
        refused("INDEX ahead of NOT", x -> x.walk(2, 2, 0, 5), INDEX);
        refused("NOT: behind the last place", x -> x.walk(1, 1, 0, 4), NOT);
        refused("NOT: behind the last place, the first one", x -> x.walk(1, 1, 3, 1), NOT);
        refused("NOT: a long", x -> x.walk(2, 2, 0, 1), NOT);
        calls(26, () -> withSheet("1;1", "01", 2, -1, 1L << 32, Long.MIN_VALUE, Long.MAX_VALUE));
        for (int i = 0; i < 4; i++) {
            int at = i;
            refused("NOT: no place", x -> x.walk(0, 2, at, 1), NOT);
        }
        calls(26, () -> withSheet("1;1", "", 1, 0));
        refused("NOT: the empty hall has no place", x -> x.walk(0, 1, 0, 1), NOT);
        calls(26, () -> withSheet("1;1", "01", 1));
        refused("INDEX: an empty row", x -> x.walk(0, 1, 0, 1), INDEX);
    }

    private static void joined() {
        calls(27, RefusalTest::richWithTape);
        for (int bad : new int[] {0, -1, 9, LEAST, MOST}) {
            refused("BAD: n", x -> x.joined(1, 1, 0, bad), BAD);
            refused("BAD ahead of NULL", x -> x.joined(3, 1, 0, bad), BAD);
            refused("BAD ahead of CAST", x -> x.joined(1, 0, 0, bad), BAD);
            refused("BAD ahead of INDEX", x -> x.joined(1, 1, -1, bad), BAD);
        }
        for (int bad : new int[] {-1, 4, LEAST, MOST}) {
            refused("BAD: no sheet", x -> x.joined(bad, 1, 0, 1), BAD);
            refused("BAD: no lane", x -> x.joined(1, bad == 4 ? 3 : bad, 0, 1), BAD);
            refused("BAD ahead of NULL: no lane", x -> x.joined(3, bad == 4 ? 3 : bad, 0, 1), BAD);
        }
        refused("NULL", x -> x.joined(3, 0, 0, 1), NULL);
        refused("NULL ahead of INDEX", x -> x.joined(3, 0, -1, 1), NULL);
        refused("CAST: longs as bytes", x -> x.joined(2, 0, 0, 1), CAST);
        refused("CAST: bytes as ints", x -> x.joined(0, 1, 0, 1), CAST);
        refused("CAST: ints as longs", x -> x.joined(1, 2, 0, 1), CAST);
        refused("CAST ahead of INDEX", x -> x.joined(1, 2, 5, 1), CAST);
        refused("INDEX: behind the end", x -> x.joined(1, 1, 5, 1), INDEX);
        refused("INDEX: over the end", x -> x.joined(1, 1, 4, 2), INDEX);
        refused("INDEX: ahead", x -> x.joined(1, 1, -1, 1), INDEX);
        refused("INDEX: far", x -> x.joined(1, 1, MOST, 8), INDEX);
        refused("INDEX: far ahead", x -> x.joined(1, 1, LEAST, 8), INDEX);
        refused("INDEX ahead of NOT", x -> x.joined(1, 1, 0, 8), INDEX);
        refused("NOT: one stands in THE HALL", x -> x.joined(1, 1, 0, 1), NOT);
        refused("NOT: one is no BOOK", x -> x.joined(2, 2, 2, 1), NOT);
        refused("NONE: none is LAWFUL", x -> x.joined(2, 2, 1, 1), NONE);
        calls(27, () -> withSheet(CHAIN, "01", 2, 2, 2, 3, 1, 8, -1, 1L << 32 | 2, Long.MIN_VALUE));
        refused("NOT: one is told twice", x -> x.joined(0, 2, 0, 2), NOT);
        refused("NOT: one is told twice, the first is fine", x -> x.joined(0, 2, 0, 3), NOT);
        refused("NOT: the last one stands", x -> x.joined(0, 2, 1, 3), NOT);
        refused("NOT ahead of NONE: it stands, and may not TOUCH", x -> x.joined(0, 2, 2, 2), NOT);
        for (int i = 4; i < 8; i++) {
            int at = i;
            refused("NOT: one is no BOOK", x -> x.joined(0, 2, at, 1), NOT);
        }
        refused("NONE: none is LAWFUL, 3 behind 1", x -> x.joined(0, 2, 2, 1), NONE);
        calls(27, () -> withSheet(CHAIN, "02", 0, 3));
        refused("NONE: THE HALL itself is not LAWFUL", x -> x.joined(0, 0, 0, 1), NONE);
    }

    private static void sheetDrop() {
        calls(28, RefusalTest::richWithTape);
        for (int bad : new int[] {-1, 4, LEAST, MOST}) {
            refused("BAD: no sheet", x -> x.sheet(bad, 0, 1), BAD);
            refused("BAD: no lane", x -> x.sheet(0, bad == 4 ? 3 : bad, 1), BAD);
            refused("BAD ahead of SIZE: no sheet", x -> x.sheet(bad, 0, -1), BAD);
            refused("BAD ahead of SIZE: no lane", x -> x.sheet(0, bad == 4 ? 3 : bad, -1), BAD);
        }
        refused("BAD: also n above 16", x -> x.sheet(0, 0, 17), BAD);
        refused("BAD: also n above 16, the greatest", x -> x.sheet(3, 2, MOST), BAD);
        refused("SIZE: n below 0", x -> x.sheet(0, 0, -1), SIZE);
        refused("SIZE: n below 0, the least", x -> x.sheet(3, 2, LEAST), SIZE);
        calls(29, RefusalTest::richWithTape);
        for (int bad : new int[] {-1, 4, LEAST, MOST}) {
            refused("BAD: no sheet", x -> x.drop(bad), BAD);
        }
        refused("NULL", x -> x.drop(3), NULL);
    }

    private static void item() {
        calls(30, RefusalTest::richWithTape);
        for (int bad : new int[] {-1, 4, LEAST, MOST}) {
            refused("BAD: no sheet", x -> x.item(bad, 1, 0, 1), BAD);
            refused("BAD: no lane", x -> x.item(1, bad == 4 ? 3 : bad, 0, 1), BAD);
            refused("BAD ahead of NULL: no lane", x -> x.item(3, bad == 4 ? 3 : bad, 0, 1), BAD);
        }
        refused("NULL", x -> x.item(3, 1, 0, 1), NULL);
        refused("NULL ahead of INDEX", x -> x.item(3, 1, -1, 1), NULL);
        refused("CAST", x -> x.item(1, 2, 0, 1), CAST);
        refused("CAST ahead of INDEX", x -> x.item(1, 2, 5, 1), CAST);
        refused("INDEX: behind the end", x -> x.item(1, 1, 5, 1), INDEX);
        refused("INDEX: behind the end, of bytes", x -> x.item(0, 0, 3, 1), INDEX);
        refused("INDEX: behind the end, of longs", x -> x.item(2, 2, 4, 1), INDEX);
        refused("INDEX: ahead", x -> x.item(1, 1, -1, 1), INDEX);
        refused("INDEX: far", x -> x.item(1, 1, MOST, 1), INDEX);
        refused("INDEX: far ahead", x -> x.item(1, 1, LEAST, 1), INDEX);
        calls(30, () -> withSheet("1;1", "01", 1));
        refused("INDEX: an empty row", x -> x.item(0, 1, 0, 1), INDEX);
    }

    private static void copy() {
        calls(31, () -> {
            BesideQuotes x = richWithTape();
            due("a second row of ints", x.sheet(0, 1, 3), 3);
            return x;
        });
        for (int bad : new int[] {-1, 4, LEAST, MOST}) {
            refused("BAD: no sheet", x -> x.copy(bad, 0, 1, 0, 1), BAD);
            refused("BAD: no other sheet", x -> x.copy(1, 0, bad, 0, 1), BAD);
            refused("BAD ahead of NULL", x -> x.copy(3, 0, bad, 0, 1), BAD);
            refused("BAD ahead of NULL", x -> x.copy(bad, 0, 3, 0, 1), BAD);
        }
        refused("NULL: the first", x -> x.copy(3, 0, 1, 0, 1), NULL);
        refused("NULL: the other", x -> x.copy(1, 0, 3, 0, 1), NULL);
        refused("NULL: both", x -> x.copy(3, 0, 3, 0, 1), NULL);
        refused("NULL ahead of INDEX", x -> x.copy(1, -1, 3, 0, 1), NULL);
        refused("CAST: of unlike LANES", x -> x.copy(1, 0, 2, 0, 1), CAST);
        refused("CAST: of unlike LANES, none", x -> x.copy(1, 0, 2, 0, 0), CAST);
        refused("CAST ahead of INDEX", x -> x.copy(1, -1, 2, 0, 1), CAST);
        refused("CAST ahead of INDEX", x -> x.copy(1, 0, 2, 0, -1), CAST);
        refused("INDEX: i below 0", x -> x.copy(1, -1, 0, 0, 1), INDEX);
        refused("INDEX: j below 0", x -> x.copy(1, 0, 0, -1, 1), INDEX);
        refused("INDEX: n below 0", x -> x.copy(1, 1, 0, 1, -1), INDEX);
        refused("INDEX: the least n", x -> x.copy(1, 1, 0, 1, LEAST), INDEX);
        refused("INDEX: over the end of the first", x -> x.copy(0, 1, 1, 0, 3), INDEX);
        refused("INDEX: over the end of the other", x -> x.copy(1, 0, 0, 1, 3), INDEX);
        refused("INDEX: none, from behind the end", x -> x.copy(0, 4, 1, 0, 0), INDEX);
        refused("INDEX: none, to behind the end", x -> x.copy(1, 0, 0, 4, 0), INDEX);
        refused("INDEX: far i", x -> x.copy(1, MOST, 0, 0, 1), INDEX);
        refused("INDEX: far j", x -> x.copy(1, 0, 0, MOST, 1), INDEX);
        refused("INDEX: the greatest n", x -> x.copy(1, 1, 0, 1, MOST), INDEX);
        refused("INDEX: over the end of the same one", x -> x.copy(1, 0, 1, 2, 4), INDEX);
    }

    public static void main(String[] args) {
        book();
        pairs();
        thickRuleTouch();
        type();
        faults();
        atCountJudged();
        sets();
        row();
        cut();
        moves();
        forged();
        apartFree();
        burnt();
        restore();
        walk();
        joined();
        sheetDrop();
        item();
        copy();
        end();
    }
}
