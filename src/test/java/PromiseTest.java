/** Each promise of the document by hand: ordinary inputs, the edges that it names, wrong inputs. */
public final class PromiseTest extends Due {
    private static final int[] WRONG = {-1, LEAST, MOST};

    private static void newObject() {
        BesideQuotes x = new BesideQuotes();
        for (int what = 0; what < 6; what++) {
            due("count " + what, x.count(what), 0);
        }
        due("at", x.at(0), BAD);
        due("prop", x.prop(0, true), BAD);
        due("restore", x.restore(), NONE);
        due("ring", x.rule(0, 0), 0);
        due("thirds", x.rule(1, 0), 0);
        for (int sheet = 0; sheet < 4; sheet++) {
            due("drop", x.drop(sheet), NULL);
        }
        due("no tape", x.type('0', 1), 1);
    }

    private static void book() {
        BesideQuotes x = new BesideQuotes();
        due("thin", x.book(0), BAD);
        due("thick", x.book(10), BAD);
        for (int book = 0; book < 8; book++) {
            due("book", x.book(9 - book), book);
        }
        due("bad ahead of full", x.book(0), BAD);
        due("full", x.book(1), FULL);
        due("many", x.count(0), 8);
        for (int book = 0; book < 8; book++) {
            due("thickness", x.thick(book, 5), 9 - book);
            due("no prop", x.prop(book, false), 0);
        }
        due("no quote", x.count(2), 0);
    }

    private static void quote() {
        BesideQuotes x = made("1;1;1", "");
        due("new", x.quote(0, 1, true), 0);
        due("again", x.quote(0, 1, true), 1);
        due("the other way", x.quote(1, 0, true), 0);
        due("two", x.count(2), 2);
        due("off", x.quote(0, 1, false), 1);
        due("off again", x.quote(0, 1, false), 0);
        due("one is left", x.count(2), 1);
        due("touch", x.touch(0, 1), 1);
        due("itself", x.quote(1, 1, true), BAD);
        due("no such", x.quote(0, 3, true), BAD);
        for (int bad : WRONG) {
            due("bad", x.quote(bad, 0, true), BAD);
            due("bad", x.quote(0, bad, false), BAD);
        }
    }

    private static void hate() {
        BesideQuotes x = made("1p;1:0;1", "");
        due("touch", x.touch(0, 1), 1);
        due("new", x.hate(0, 1, true), 0);
        due("both ways", x.hate(1, 0, true), 1);
        due("one pair", x.count(3), 1);
        due("no touch", x.touch(1, 0), 0);
        due("off", x.hate(1, 0, false), 1);
        due("off again", x.hate(0, 1, false), 0);
        due("touch again", x.touch(1, 0), 1);
        due("itself", x.hate(2, 2, true), BAD);
        due("no such", x.hate(3, 0, true), BAD);
        for (int bad : WRONG) {
            due("bad", x.hate(bad, 0, true), BAD);
            due("bad", x.hate(0, bad, false), BAD);
        }
    }

    private static void prop() {
        BesideQuotes x = made("1;1;1", "");
        due("new", x.prop(1, true), 0);
        due("again", x.prop(1, true), 1);
        due("touch", x.touch(0, 1), 1);
        due("touch", x.touch(1, 2), 1);
        due("no touch", x.touch(0, 2), 0);
        due("off", x.prop(1, false), 1);
        due("off again", x.prop(1, false), 0);
        due("no touch", x.touch(0, 1), 0);
        due("no such", x.prop(3, true), BAD);
        for (int bad : WRONG) {
            due("bad", x.prop(bad, true), BAD);
        }
    }

    private static void thick() {
        BesideQuotes x = made("3;7", "01");
        due("was", x.thick(0, 9), 3);
        due("was", x.thick(0, 1), 9);
        due("sum", x.count(5), 8);
        due("0", x.thick(1, 0), BAD);
        due("10", x.thick(1, 10), BAD);
        due("unchanged", x.thick(1, 7), 7);
        due("no such", x.thick(2, 1), BAD);
        for (int bad : WRONG) {
            due("bad", x.thick(bad, 1), BAD);
            due("bad", x.thick(0, bad), BAD);
        }
    }

    private static void rule() {
        BesideQuotes x = new BesideQuotes();
        for (int what = 0; what < 2; what++) {
            due("was", x.rule(what, 1), 0);
            due("was", x.rule(what, 1), 1);
            due("bad", x.rule(what, 2), BAD);
            due("bad", x.rule(what, -1), BAD);
            due("was", x.rule(what, 0), 1);
        }
        due("no such law", x.rule(2, 0), BAD);
        due("no such law", x.rule(-1, 0), BAD);
        x.rule(0, 1);
        x.rule(1, 1);
        due("books", books(x, "1:2;1:2;1"), 3);
        due("laws outlast books", x.touch(0, 1), 1);
        due("laws outlast books", x.rule(0, 0), 1);
    }

    private static void touch() {
        BesideQuotes x = made("1:2;1:2;1;1:4;1p", "");
        due("one quotes", x.touch(0, 2), 1);
        due("one is quoted", x.touch(2, 0), 1);
        due("a third, no law", x.touch(0, 1), 0);
        x.rule(1, 1);
        due("a third", x.touch(0, 1), 1);
        due("no third", x.touch(0, 3), 0);
        due("prop", x.touch(4, 0), 1);
        x.hate(0, 1, true);
        due("a third, hated", x.touch(1, 0), 0);
        due("a new one", x.book(1), 5);
        due("a prop that was there", x.touch(5, 4), 1);
        x.hate(0, 4, true);
        due("a prop, hated", x.touch(0, 4), 0);
        due("itself", x.touch(4, 4), BAD);
        due("no such", x.touch(0, 6), BAD);
        for (int bad : WRONG) {
            due("bad", x.touch(bad, 0), BAD);
            due("bad", x.touch(0, bad), BAD);
        }
    }

    private static void type() {
        BesideQuotes x = new BesideQuotes();
        due("n 0", x.type('1', 0), BAD);
        due("n 9", x.type('1', 9), BAD);
        due("31", x.type(31, 1), BAD);
        due("127", x.type(127, 1), BAD);
        due("above 127", x.type(0x31B1L, 2), BAD);
        due("a zero ahead", x.type('1', 2), BAD);
        due("higher bytes are not looked at", x.type(-1L << 8 | '9', 1), 1);
        due("the highest first", x.type((';' << 8) + '4', 2), 3);
        due("books", x.books(), 2);
        due("first", x.thick(0, 1), 9);
        due("second", x.thick(1, 1), 4);
        due("32, 126", x.type(0x207EL, 2), 2);
        for (int k = 0; k < 7; k++) {
            due("eight", x.type(0x2020202020202020L, 8), 10 + 8 * k);
        }
        due("59 and 2 are too many", x.type(0x202020L, 3), FULL);
        due("bad ahead of full", x.type(31, 3), BAD);
        due("60", x.type(0x2020L, 2), 60);
        due("full", x.type(0x20L, 1), FULL);
        due("the tape is still as it was", x.hall(), -22 + 1);
        due("and is empty then", x.type(' ', 1), 1);
    }

    private static void booksText() {
        BesideQuotes x = new BesideQuotes();
        due("empty", books(x, ""), -20);
        due("blanks alone", books(x, "   "), -23);
        due("0", books(x, "0"), -20);
        due("a blank ahead", books(x, "  0"), -22);
        due("end behind ;", books(x, "1; "), -23);
        due("end behind :", books(x, "1: "), -23);
        due("p twice", books(x, "1pp"), -22);
        due("p behind quotes", books(x, "1:1p;1"), -23);
        due("two digits", books(x, "12"), -21);
        due("itself", books(x, "1;1:1"), -24);
        due("twice", books(x, "1:121;1;1"), -24);
        due("8 can't be", books(x, "1:8;x"), -22);
        due("nine", books(x, "1;1;1;1;1;1;1;1;1"), -35);
        due("a missing one", books(x, "1:2;1"), -22);
        due("the first missing one", books(x, "1:175;1:3"), -23);
        due("the byte that can't stand is ahead", books(x, "1:7;x"), -24);
        due("nothing was told", x.count(0), 0);
        due("fine", books(x, " 9 p : 1 ; 3 "), 2);
        due("prop", x.prop(0, true), 1);
        due("no prop", x.prop(1, false), 0);
        due("thick", x.thick(0, 9), 9);
        due("quotes", x.quote(0, 1, true), 1);
        x.hate(0, 1, true);
        due("hall", hall(x, "10"), 2);
        due("a fault", books(x, "1;"), -22);
        due("books stay", x.count(0), 2);
        due("hates stay", x.count(3), 1);
        dueHall(x, "10");
        due("in their place", books(x, "1;2;3:01"), 3);
        due("no prop is left", x.prop(0, false), 0);
        due("none hate", x.count(3), 0);
        due("no hall", x.count(1), 0);
        due("quotes", x.count(2), 2);
        due("tape is empty", x.type('1', 1), 1);
    }

    private static void hallText() {
        BesideQuotes x = made("1;1;1", "");
        due("not lawful", hall(x, " 2 01"), 3);
        dueHall(x, "201");
        due("twice", hall(x, "0 10"), -23);
        due("no such", hall(x, "03"), -21);
        due("no digit", hall(x, "0:"), -21);
        due("stays", x.count(1), 3);
        dueHall(x, "201");
        due("blanks", hall(x, "  "), 0);
        dueHall(x, "");
        due("fault, then an empty tape", hall(x, "9"), -20);
        due("empty", x.type('1', 1), 1);
    }

    private static void at() {
        BesideQuotes x = made("1;1;1", "20");
        due("0", x.at(0), 2);
        due("1", x.at(1), 0);
        due("2", x.at(2), BAD);
        for (int bad : WRONG) {
            due("bad", x.at(bad), BAD);
        }
    }

    private static void count() {
        BesideQuotes x = made("2:12;3:0;4;5p", "31");
        x.hate(0, 2, true);
        due("books", x.count(0), 4);
        due("in the hall", x.count(1), 2);
        due("quotes", x.count(2), 3);
        due("hated pairs", x.count(3), 1);
        due("pairs that touch", x.count(4), 4);
        due("thickness of the hall", x.count(5), 8);
        due("6", x.count(6), BAD);
        for (int bad : WRONG) {
            due("bad", x.count(bad), BAD);
        }
    }

    private static void judged() {
        String chain = "1;1:0;1:1;1:2";
        due("lawful", made(chain, "0123").judged(), NONE);
        due("the first", made(chain, "0213").judged(), 0);
        due("in the middle", made(chain, "1203").judged(), 1);
        due("empty", made(chain, "").judged(), NONE);
        BesideQuotes x = made(chain, "012");
        x.rule(0, 1);
        due("the last place", x.judged(), 2);
        due("two", hall(x, "01"), 2);
        due("two are no ring", x.judged(), NONE);
        x.quote(0, 3, true);
        due("four", hall(x, "1230"), 4);
        due("a ring", x.judged(), NONE);
    }

    private static void rows() {
        BesideQuotes x = made("1;1:0;1:0;1:0;1p", "");
        due("none", x.rows(0), 1);
        due("one", x.rows(4), 1);
        due("two", x.rows(3), 2);
        due("two leaves", x.rows(6), 0);
        due("star", x.rows(7), 2);
        due("star of three", x.rows(15), 0);
        // leaf 0 leaf prop leaf and its like: 3! for the leaves, 2 for the order of 0 and the prop
        due("with a prop", x.rows(31), 12);
        x.rule(0, 1);
        due("a ring of three leaves", x.rows(31), 0);
        due("a ring of four", x.rows(0x17), 8);
        due("a ring of two", x.rows(3), 2);
        due("not there", x.rows(32), BAD);
        for (int bad : WRONG) {
            due("bad", x.rows(bad), BAD);
        }
        BesideQuotes all = made("1p;1p;1p;1p;1p;1p;1p;1p", "");
        due("8!", all.rows(255), 40320);
        all.rule(0, 1);
        due("8! in a ring", all.rows(255), 40320);
        due("256", all.rows(256), BAD);
    }

    private static void row() {
        BesideQuotes x = made("1;1:0;1:0;1:0;1p", "");
        int[][] want = {{1, 0, 2, 4, 3}, {1, 0, 3, 4, 2}, {1, 4, 2, 0, 3}, {1, 4, 3, 0, 2}, {2, 0, 1, 4, 3}};
        for (int i = 0; i < want.length; i++) {
            for (int place = 0; place < 5; place++) {
                due("row " + i, x.row(31, i, place), want[i][place]);
            }
        }
        due("the last", x.row(31, 11, 0), 3);
        due("no such", x.row(31, 12, 0), NONE);
        due("no such", x.row(31, Integer.MAX_VALUE, 4), NONE);
        due("place 5", x.row(31, 0, 5), BAD);
        due("bad ahead of none", x.row(31, 12, 5), BAD);
        due("place -1", x.row(31, 0, -1), BAD);
        due("i -1", x.row(31, -1, 0), BAD);
        due("set", x.row(32, 0, 0), BAD);
        due("the empty row has no place", x.row(0, 0, 0), BAD);
        BesideQuotes all = made("1p;1p;1p;1p;1p;1p;1p;1p", "");
        for (int place = 0; place < 8; place++) {
            due("first", all.row(255, 0, place), place);
            due("last", all.row(255, 40319, place), 7 - place);
        }
        due("none", all.row(255, 40320, 0), NONE);
    }

    private static void cut() {
        BesideQuotes star = made("1;1:0;1:0;1:0", "");
        due("star", star.cut(15), 1);
        due("path", star.cut(7), NONE);
        due("two parts", star.cut(6), 0);
        due("empty", star.cut(0), NONE);
        due("one", star.cut(2), NONE);
        star.rule(0, 1);
        due("path in a ring", star.cut(7), 1);
        due("two are no ring", star.cut(3), NONE);
        due("two parts of two", star.cut(6), 0);
        due("not there", star.cut(16), BAD);
        due("bad", star.cut(-1), BAD);
        // 0 and 1 each touch 2, 3, 4, 5, which touch nothing else
        BesideQuotes pair = made("1;1;1:01;1:01;1:01;1:01", "");
        due("two", pair.cut(63), 3);
        due("all three of the leaves fit", pair.cut(31), NONE);
        pair.rule(0, 1);
        due("not in a ring", pair.cut(31), 3);
        // in a ring the empty set does not show it, though there are two parts
        BesideQuotes parts = made("1:12;1:2;1;1:45;1:5;1", "");
        due("by the empty one", parts.cut(63), 0);
        parts.rule(0, 1);
        due("by one", parts.cut(63), 1);
        BesideQuotes triangle = made("1:12;1:2;1", "");
        triangle.rule(0, 1);
        due("triangle", triangle.cut(7), NONE);
        BesideQuotes lone = made("1;1:2;1", "");
        due("0 alone", lone.cut(7), 0);
        BesideQuotes chain = made("1;1:0;1:1;1:2;1:3;1:4;1:5;1:6", "");
        due("a long part", chain.cut(255), NONE);
        chain.rule(0, 1);
        due("a long part in a ring", chain.cut(255), 2);
    }

    private static void put() {
        BesideQuotes x = made("1;1:0;1:1;1:2", "02");
        due("between", x.put(1), 0);
        dueHall(x, "012");
        due("it stands", x.put(1), NOT);
        due("no such", x.put(4), BAD);
        due("bad", x.put(-1), BAD);
        due("hall", hall(x, "10"), 2);
        // 012 and 210 are lawful: by 210 none is moved
        due("put", x.put(2), 0);
        dueHall(x, "210");
        due("hall", hall(x, "13"), 2);
        due("no row", x.put(0), NONE);
        dueHall(x, "13");
        BesideQuotes free = made("1p;1p;1p;1p", "31");
        due("the first of like ones", free.put(0), 0);
        dueHall(free, "031");
        BesideQuotes moved = made("1;1:0;1:1;1:2", "013");
        // 0123 keeps 0, 1, 3; 3210 keeps one
        due("kept", moved.put(2), 0);
        dueHall(moved, "0123");
        due("hall", hall(moved, "301"), 3);
        due("moved", moved.put(2), 1);
        dueHall(moved, "0123");
        BesideQuotes ring = made("1:13;1:2;1:3;1", "");
        ring.rule(0, 1);
        due("hall", hall(ring, "310"), 3);
        // 0123 keeps one of 3, 1, 0; 1032 keeps 1, 0; 3210 keeps all
        due("by ring", ring.put(2), 0);
        dueHall(ring, "3210");
        BesideQuotes empty = made("1;1", "");
        due("into the empty hall", empty.put(1), 0);
        dueHall(empty, "1");
    }

    private static void lend() {
        BesideQuotes x = made("1;1:0;1:1;1:2", "0123");
        due("the last", x.lend(3), 0);
        dueHall(x, "012");
        due("it does not stand", x.lend(3), NOT);
        due("no such", x.lend(4), BAD);
        due("bad", x.lend(-1), BAD);
        due("no row", x.lend(1), NONE);
        dueHall(x, "012");
        due("down", x.lend(0), 0);
        due("down", x.lend(1), 0);
        due("to none", x.lend(2), 0);
        dueHall(x, "");
        // without 1 only 2 0 3 and 3 0 2 are left
        BesideQuotes star = made("1:123;1:3;1;1", "2013");
        due("lent", star.lend(1), 0);
        dueHall(star, "203");
        BesideQuotes turned = made("1:123;1:23;1;1", "3120");
        due("moved", turned.lend(1), 1);
        dueHall(turned, "203");
        BesideQuotes bad = made("1;1:0;1:1;1:2", "0231");
        due("a hall that is not lawful", bad.lend(3), 1);
        dueHall(bad, "012");
    }

    private static void forged() {
        BesideQuotes x = made("1;1:0;1:0;1:0", "");
        due("star", x.forged(15, -1), 1);
        int[] want = {1, 0, 2, 3};
        for (int place = 0; place < 4; place++) {
            due("the first row", x.forged(15, place), want[place]);
        }
        x.hate(2, 3, true);
        due("2 and 3 hate", x.forged(15, -1), 1);
        int[] hated = {1, 2, 0, 3};
        for (int place = 0; place < 4; place++) {
            due("no hated ones side by side", x.forged(15, place), hated[place]);
        }
        x.hate(1, 2, true);
        x.hate(1, 3, true);
        due("in no row", x.forged(14, -1), NONE);
        due("in no row", x.forged(14, 0), NONE);
        due("one", x.forged(8, -1), 0);
        due("one", x.forged(8, 0), 3);
        due("empty", x.forged(0, -1), BAD);
        due("place", x.forged(8, 1), BAD);
        due("place", x.forged(8, -2), BAD);
        due("set", x.forged(16, -1), BAD);
        due("bad ahead of none", x.forged(14, 3), BAD);
        BesideQuotes chain = made("1;1:0;1:1", "");
        due("a row", chain.forged(7, -1), 0);
        due("from 0 on", chain.forged(7, 0), 0);
        due("from 0 on", chain.forged(7, 2), 2);
        chain.rule(0, 1);
        due("a ring", chain.forged(7, -1), 1);
        due("two are no ring", chain.forged(5, -1), 1);
        chain.hate(0, 2, true);
        due("hated ends", chain.forged(7, -1), NONE);
        due("a hated pair", chain.forged(5, -1), NONE);
        chain.rule(0, 0);
        due("no ring", chain.forged(7, 1), 1);
    }

    private static void apart() {
        BesideQuotes x = made("1;1:0;1:1;1:2;1", "");
        due("the ends", x.apart(15, 0, 3), 2);
        due("in the middle", x.apart(15, 3, 1), 1);
        due("side by side", x.apart(15, 1, 2), 0);
        due("no rows", x.apart(31, 0, 1), NONE);
        due("no rows", x.apart(5, 0, 2), NONE);
        due("itself", x.apart(15, 1, 1), BAD);
        due("not of it", x.apart(7, 1, 3), BAD);
        due("not of it", x.apart(7, 3, 1), BAD);
        due("not there", x.apart(7, 1, 5), BAD);
        due("bad", x.apart(7, -1, 1), BAD);
        due("bad", x.apart(7, 1, 40), BAD);
        due("set", x.apart(32, 1, 2), BAD);
        x.quote(0, 3, true);
        x.rule(0, 1);
        due("both ways round", x.apart(15, 0, 3), 0);
        due("both ways round", x.apart(15, 0, 2), 1);
        due("two", x.apart(3, 0, 1), 0);
        x.quote(0, 3, false);
        due("the ends do not touch", x.apart(15, 0, 2), NONE);
        // 0 2 1 3 has two between, and can be told from 3 on as well; in a ring 0 and 3 are side by side
        BesideQuotes ends = made("1:2;1:23;1;1", "");
        due("the ends", ends.apart(15, 0, 3), 2);
        due("the ends", ends.apart(15, 3, 0), 2);
        due("of three", ends.apart(7, 0, 1), 1);
        BesideQuotes all = made("1p;1p;1p;1p;1p;1p;1p;1p", "");
        due("all", all.apart(255, 3, 5), 6);
        all.rule(0, 1);
        due("all, in a ring", all.apart(255, 3, 5), 3);
        due("seven, in a ring", all.apart(127, 3, 5), 2);
    }

    private static void free() {
        BesideQuotes x = made("1;1:0;1:1;1:2", "0123");
        due("one", x.free(1), 2);
        due("two", x.free(2), 3);
        due("three", x.free(3), 4);
        due("all", x.free(4), 1);
        due("more than there are", x.free(5), BAD);
        due("0", x.free(0), BAD);
        for (int bad : WRONG) {
            due("bad", x.free(bad), BAD);
        }
        x.rule(0, 1);
        due("in a ring", x.free(1), 0);
        due("two of a ring", x.free(2), 3);
        BesideQuotes all = made("1p;1p;1p;1p;1p;1p;1p;1p", "01234567");
        due("70", all.free(4), 70);
        due("8", all.free(8), 1);
        due("9", all.free(9), BAD);
    }

    private static void burnt() {
        BesideQuotes x = made("2;3:0;4:1;5:2;3:02", "0123");
        // between 0 and 2 there fit 1 and 4, both 3 thick
        due("one place", x.burnt(1, 1, 31, 3, -1), 2);
        due("the first", x.burnt(1, 1, 31, 3, 1), 1);
        due("of a set", x.burnt(1, 1, 16, 3, 1), 4);
        due("of the empty set", x.burnt(1, 1, 0, 3, -1), NONE);
        due("too thick", x.burnt(1, 1, 31, 4, -1), NONE);
        due("too thick", x.burnt(1, 1, 31, 99, 1), NONE);
        due("standing elsewhere", x.burnt(1, 1, 4, 4, -1), NONE);
        due("at the end", x.burnt(2, 3, 31, 9, -1), 1);
        due("at the end", x.burnt(2, 3, 31, 9, 3), 3);
        due("at the end", x.burnt(2, 3, 31, 7, 2), 2);
        due("at the end", x.burnt(2, 3, 31, 7, 3), 4);
        due("all", x.burnt(0, 3, 15, 14, -1), 2);
        due("all", x.burnt(0, 3, 15, 14, 0), 0);
        x.rule(0, 1);
        due("round the end", x.burnt(2, 3, 31, 9, -1), NONE);
        due("round the end", x.burnt(2, 3, 31, 7, 3), 4);
        due("all, a ring", x.burnt(0, 3, 15, 14, -1), NONE);
        due("all, a ring", x.burnt(0, 3, 23, 12, -1), 8);
        due("the first place, beside the last", x.burnt(0, 0, 31, 2, -1), NONE);
        due("hall", hall(x, "01"), 2);
        due("two are no ring", x.burnt(0, 1, 31, 5, -1), 4);
        due("a > b", x.burnt(1, 0, 31, 3, -1), BAD);
        due("a", x.burnt(-1, 0, 31, 3, -1), BAD);
        due("b", x.burnt(0, 2, 31, 3, -1), BAD);
        due("set", x.burnt(0, 0, 32, 3, -1), BAD);
        due("thick 0", x.burnt(0, 0, 31, 0, -1), BAD);
        due("thick 100", x.burnt(0, 0, 31, 100, -1), BAD);
        due("k", x.burnt(1, 1, 31, 3, 0), BAD);
        due("k", x.burnt(0, 0, 31, 3, 1), BAD);
        due("k", x.burnt(0, 0, 31, 3, -2), BAD);
        due("bad ahead of none", x.burnt(0, 0, 0, 3, 1), BAD);
        due("no hall", hall(x, ""), 0);
        due("no hall", x.burnt(0, 0, 31, 3, -1), BAD);
        BesideQuotes all = made("1p;1p;1p;1p;1p", "0123");
        due("but 0, 2, 3", all.burnt(1, 1, 31, 1, -1), 2);
        due("but 0, 2, 3", all.burnt(1, 1, 31, 1, 1), 1);
        due("but 0, 1", all.burnt(2, 3, 31, 2, -1), 6);
        due("but 3", all.burnt(0, 2, 31, 3, -1), 24);
        due("but 3", all.burnt(0, 2, 31, 3, 2), 2);
        // 4 may stand beside 1, but not beside 3, which is behind it by the ring
        BesideQuotes ring = made("1;1:0;1:1;1:20;1:1", "0123");
        due("no ring", ring.burnt(0, 0, 31, 1, -1), 2);
        ring.rule(0, 1);
        due("beside the last one", ring.burnt(0, 0, 31, 1, -1), 1);
        due("beside the last one", ring.burnt(0, 0, 31, 1, 0), 0);
        due("beside the first one", ring.burnt(3, 3, 31, 1, 3), 3);
    }

    private static void image() {
        BesideQuotes x = made("1;2:0;3p", "10");
        x.hate(0, 2, true);
        x.rule(0, 1);
        x.sheet(1, 0, 3);
        due("image", x.image(), 1);
        due("image changes nothing", x.count(4), 2);
        due("a new one", books(x, "9"), 1);
        due("in place of the old one", x.image(), 1);
        due("restore", x.restore(), 1);
        due("one", x.count(0), 1);
        BesideQuotes none = new BesideQuotes();
        due("of nothing", none.image(), 1);
        none.book(1);
        due("restore", none.restore(), 1);
        due("nothing", none.count(0), 0);
    }

    private static void restore() {
        BesideQuotes x = made("1;2:0;3p", "10");
        due("none", x.restore(), NONE);
        x.hate(0, 2, true);
        x.rule(0, 1);
        x.rule(1, 0);
        x.image();
        x.hate(0, 2, false);
        x.prop(2, false);
        x.quote(1, 0, false);
        x.quote(2, 0, true);
        x.thick(1, 9);
        x.rule(0, 0);
        x.rule(1, 1);
        x.book(4);
        x.quote(3, 0, true);
        due("hall", hall(x, "3"), 1);
        due("a sheet", x.sheet(1, 0, 3), 3);
        type(x, "21");
        for (int again = 0; again < 2; again++) {
            due("restore", x.restore(), 1);
            due("books", x.count(0), 3);
            due("quotes", x.count(2), 1);
            due("hates", x.count(3), 1);
            due("touches", x.count(4), 2);
            due("thickness", x.count(5), 3);
            due("prop", x.prop(2, true), 1);
            due("ring", x.rule(0, 1), 1);
            due("thirds", x.rule(1, 0), 0);
            dueHall(x, "10");
        }
        due("a new book quotes none", x.book(1), 3);
        due("a new book quotes none", x.count(2), 1);
        due("sheets stay", x.drop(1), 3);
        due("the tape stays", x.hall(), 2);
        dueHall(x, "21");
    }

    private static void walk() {
        BesideQuotes x = withSheet("1;2;3;4;9", "0123", 1, 3, 3, 0, 2, 4, -1, 1);
        due("to the end", x.walk(0, 1, 0, 1), 10);
        due("there", x.walk(0, 1, 0, 2), 10);
        due("back to 0", x.walk(0, 1, 0, 3), 16);
        due("forth to 2", x.walk(0, 1, 0, 4), 21);
        due("no place", x.walk(0, 1, 0, 5), NOT);
        x.item(0, 1, 4, 0);
        x.item(0, 1, 5, 3);
        due("six", x.walk(0, 1, 0, 6), 33);
        x.item(0, 1, 4, 4);
        x.item(0, 1, 5, -1);
        due("no place", x.walk(0, 1, 5, 1), NOT);
        x.rule(0, 1);
        due("behind the last one", x.walk(0, 1, 0, 1), 4);
        due("round", x.walk(0, 1, 0, 3), 5);
        due("either way", x.walk(0, 1, 0, 4), 10);
        due("two", hall(x, "30"), 2);
        due("a ring of two", x.walk(0, 1, 6, 1), 1);
        due("n 0", x.walk(0, 1, 0, 0), BAD);
        due("n 7", x.walk(0, 1, 0, 7), BAD);
        due("sheet", x.walk(-1, 1, 0, 1), BAD);
        due("sheet", x.walk(4, 1, 0, 1), BAD);
        due("lane", x.walk(0, 3, 0, 1), BAD);
        due("lane", x.walk(1, -1, 0, 1), BAD);
        due("nothing", x.walk(1, 1, -1, 1), NULL);
        due("another lane", x.walk(0, 2, 9, 1), CAST);
        due("behind the end", x.walk(0, 1, 7, 1), INDEX);
        due("over the end", x.walk(0, 1, 5, 3), INDEX);
        due("ahead", x.walk(0, 1, -1, 1), INDEX);
        due("far", x.walk(0, 1, Integer.MAX_VALUE, 1), INDEX);
        due("long", withSheet("1;2", "01", 2, 1L << 32).walk(0, 2, 0, 1), NOT);
        due("byte", withSheet("1;2", "01", 0, 257).walk(0, 0, 0, 1), 3);
        due("no hall", withSheet("1;2", "", 0, 0).walk(0, 0, 0, 1), NOT);
    }

    private static void joined() {
        String chain = "1;1:0;1:1;1:2;1:3";
        due("as they are", withSheet(chain, "01", 0, 2, 3).joined(0, 0, 0, 2), 0);
        due("second turned", withSheet(chain, "01", 0, 3, 2).joined(0, 0, 0, 2), 1);
        due("first turned", withSheet(chain, "10", 1, 2, 3).joined(0, 1, 0, 2), 2);
        due("both turned", withSheet(chain, "10", 2, 3, 2).joined(0, 2, 0, 2), 3);
        due("none", withSheet(chain, "01", 0, 3, 4).joined(0, 0, 0, 2), NONE);
        due("not lawful inside", withSheet(chain, "01", 0, 2, 4).joined(0, 0, 0, 2), NONE);
        due("to the empty hall", withSheet(chain, "", 0, 3, 2, 1).joined(0, 0, 0, 3), 0);
        BesideQuotes x = withSheet(chain, "012", 1, 3, 4, 4, 5, 2, -1);
        due("one", x.joined(0, 1, 0, 1), 0);
        dueHall(x, "012");
        x.rule(0, 1);
        due("no ring", x.joined(0, 1, 0, 2), NONE);
        x.quote(4, 0, true);
        due("a ring", x.joined(0, 1, 0, 2), 0);
        due("told twice", x.joined(0, 1, 1, 2), NOT);
        due("no book", x.joined(0, 1, 3, 1), NOT);
        due("it stands", x.joined(0, 1, 4, 1), NOT);
        due("no book", x.joined(0, 1, 5, 1), NOT);
        due("n 0", x.joined(0, 1, 0, 0), BAD);
        due("n 9", x.joined(0, 1, 0, 9), BAD);
        due("sheet", x.joined(4, 1, 0, 1), BAD);
        due("lane", x.joined(0, 3, 0, 1), BAD);
        due("nothing", x.joined(2, 1, 0, 1), NULL);
        due("another lane", x.joined(0, 0, 9, 1), CAST);
        due("over the end", x.joined(0, 1, 5, 2), INDEX);
        due("ahead", x.joined(0, 1, -1, 2), INDEX);
        due("index ahead of not", x.joined(0, 1, 3, 8), INDEX);
        due("long", withSheet(chain, "01", 2, (1L << 32) + 2).joined(0, 2, 0, 1), NOT);
        BesideQuotes eight = withSheet("1p;1p;1p;1p;1p;1p;1p;1p", "", 0, 7, 6, 5, 4, 3, 2, 1, 0);
        due("eight", eight.joined(0, 0, 0, 8), 0);
    }

    private static void sheet() {
        BesideQuotes x = new BesideQuotes();
        due("0", x.sheet(0, 0, 0), 0);
        due("16", x.sheet(3, 2, 16), 16);
        due("17", x.sheet(0, 0, 17), BAD);
        due("-1", x.sheet(0, 0, -1), SIZE);
        due("least", x.sheet(0, 0, Integer.MIN_VALUE), SIZE);
        due("sheet", x.sheet(4, 0, -1), BAD);
        due("sheet", x.sheet(-1, 0, 1), BAD);
        due("lane", x.sheet(0, 3, -1), BAD);
        due("lane", x.sheet(0, -1, 1), BAD);
        due("unchanged", x.drop(0), 0);
        x.book(1);
        due("hall", hall(x, "0"), 1);
        due("item", x.item(3, 2, 0, 9), 1);
        due("new", x.sheet(3, 2, 1), 1);
        due("items are 0", x.walk(3, 2, 0, 1), 1);
    }

    private static void drop() {
        BesideQuotes x = new BesideQuotes();
        x.sheet(2, 1, 7);
        due("had", x.drop(2), 7);
        due("nothing", x.drop(2), NULL);
        due("item", x.item(2, 1, 0, 0), NULL);
        due("4", x.drop(4), BAD);
        for (int bad : WRONG) {
            due("bad", x.drop(bad), BAD);
        }
    }

    private static void item() {
        BesideQuotes x = made("1;2", "01");
        x.sheet(0, 0, 2);
        x.sheet(1, 1, 2);
        x.sheet(2, 2, 2);
        long v = (3L << 32) + 1;
        for (int lane = 0; lane < 3; lane++) {
            due("item", x.item(lane, lane, 1, v), 1);
            due("its lowest bits", x.walk(lane, lane, 1, 1), lane == 2 ? NOT : 3);
            due("the other one", x.walk(lane, lane, 0, 1), 1);
        }
        due("byte", x.item(0, 0, 1, 256), 1);
        due("byte", x.walk(0, 0, 1, 1), 1);
        due("int", x.item(1, 1, 1, 256), 1);
        due("int", x.walk(1, 1, 1, 1), NOT);
        due("sheet", x.item(4, 0, 0, 0), BAD);
        due("sheet", x.item(-1, 0, 0, 0), BAD);
        due("lane", x.item(3, 3, 0, 0), BAD);
        due("lane", x.item(3, -1, 0, 0), BAD);
        due("nothing", x.item(3, 0, -1, 0), NULL);
        due("another lane", x.item(0, 1, 9, 0), CAST);
        due("behind the end", x.item(0, 0, 2, 0), INDEX);
        due("ahead", x.item(0, 0, -1, 0), INDEX);
    }

    private static void dueItems(BesideQuotes x, int sheet, int... want) {
        for (int i = 0; i < want.length; i++) {
            // places 0 to 7 are 1, 2, .. 8 long ahead
            due("item " + i, x.walk(sheet, 1, i, 1), want[i] + 1);
        }
    }

    private static void copy() {
        BesideQuotes x = withSheet("1;1;1;1;1;1;1;1", "01234567", 1, 0, 1, 2, 3, 4);
        due("up", x.copy(0, 0, 0, 1, 4), 4);
        dueItems(x, 0, 0, 0, 1, 2, 3);
        due("down", x.copy(0, 2, 0, 1, 3), 3);
        dueItems(x, 0, 0, 1, 2, 3, 3);
        x.sheet(1, 1, 3);
        due("to another", x.copy(0, 2, 1, 1, 2), 2);
        dueItems(x, 1, 0, 2, 3);
        due("none", x.copy(0, 5, 1, 3, 0), 0);
        due("behind the end", x.copy(0, 6, 1, 3, 0), INDEX);
        due("behind the end", x.copy(0, 5, 1, 4, 0), INDEX);
        due("over the end", x.copy(0, 0, 1, 0, 4), INDEX);
        due("over the end", x.copy(1, 0, 0, 0, 4), INDEX);
        due("below 0", x.copy(0, 0, 1, 0, -1), INDEX);
        due("ahead", x.copy(0, -1, 1, 0, 1), INDEX);
        due("ahead", x.copy(0, 0, 1, -1, 1), INDEX);
        due("far", x.copy(0, Integer.MAX_VALUE, 1, 0, Integer.MAX_VALUE), INDEX);
        due("far", x.copy(0, 1, 1, 1, Integer.MAX_VALUE), INDEX);
        due("least", x.copy(0, 1, 1, 1, Integer.MIN_VALUE), INDEX);
        dueItems(x, 1, 0, 2, 3);
        x.sheet(2, 0, 3);
        due("unlike lanes", x.copy(0, -1, 2, 0, 1), CAST);
        due("nothing", x.copy(3, 0, 2, 0, 1), NULL);
        due("nothing", x.copy(2, -1, 3, 0, 1), NULL);
        due("sheet", x.copy(4, 0, 3, 0, 1), BAD);
        due("sheet", x.copy(3, 0, -1, 0, 1), BAD);
    }

    private static void first(int number) {
        by(number, "by hand");
        switch (number) {
            case 1: newObject(); break;
            case 2: book(); break;
            case 3: quote(); break;
            case 4: hate(); break;
            case 5: prop(); break;
            case 6: thick(); break;
            case 7: rule(); break;
            case 8: touch(); break;
            case 9: type(); break;
            case 10: booksText(); break;
            case 11: hallText(); break;
            case 12: at(); break;
            case 13: count(); break;
            case 14: judged(); break;
            case 15: rows(); break;
            default: later(number); break;
        }
    }

    private static void later(int number) {
        switch (number) {
            case 16: row(); break;
            case 17: cut(); break;
            case 18: put(); break;
            case 19: lend(); break;
            case 20: forged(); break;
            case 21: apart(); break;
            case 22: free(); break;
            case 23: burnt(); break;
            case 24: image(); break;
            case 25: restore(); break;
            case 26: walk(); break;
            case 27: joined(); break;
            case 28: sheet(); break;
            case 29: drop(); break;
            case 30: item(); break;
            default: copy(); break;
        }
    }

    public static void main(String[] args) {
        for (int number = 1; number <= 31; number++) {
            first(number);
        }
        end();
    }
}
