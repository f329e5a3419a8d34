/**
 * Promises 1 to 22: each sentence of the document that names a boundary of what is taken: least, greatest, empty,
 * full, round the end. What is refused is in RefusalTest.
 */
public final class EdgeTest extends Due {
    private static void newObject() {
        by(1, "No book");
        BesideQuotes x = new BesideQuotes();
        due("books", x.count(0), 0);
        due("the first one", x.book(1), 0);
        by(1, "none QUOTES, none HATES, none is a PROP, THE HALL is empty at first");
        for (int what = 1; what < 6; what++) {
            due("count " + what, new BesideQuotes().count(what), 0);
        }
        by(1, "LAWS: 0 at first");
        due("ring", new BesideQuotes().rule(RING, 1), 0);
        due("thirds", new BesideQuotes().rule(THIRDS, 1), 0);
        by(1, "SHEETS: nothing (at first)");
        for (int sheet = 0; sheet < 4; sheet++) {
            due("drop", new BesideQuotes().drop(sheet), NULL);
        }
        by(1, "THE TAPE is empty at first");
        due("type", new BesideQuotes().type(' ', 1), 1);
        by(1, "there is no IMAGE at first");
        due("restore", new BesideQuotes().restore(), NONE);
    }

    private static void book() {
        by(2, "THICKNESS: 1, the least");
        BesideQuotes x = new BesideQuotes();
        due("book", x.book(1), 0);
        due("was", x.thick(0, 5), 1);
        by(2, "THICKNESS: 9, the greatest");
        due("book", x.book(9), 1);
        due("was", x.thick(1, 5), 9);
        by(2, "numbers 0 .. 7, as they come");
        for (int book = 2; book < 8; book++) {
            due("book", x.book(book), book);
        }
        by(2, "FULL: 8");
        due("a ninth", x.book(1), FULL);
        by(2, "books come behind those of a TEXT");
        BesideQuotes told = made("1;1:0", "10");
        due("the third", told.book(3), 2);
        due("it quotes none, none quotes it", told.count(2), 1);
        dueHall(told, "10");
        by(2, "behind the eight of a TEXT: FULL");
        due("a ninth", made(PROPS, "").book(1), FULL);
        by(2, "a book is no PROP at first, though one of its number was");
        due("a TEXT of two", books(told, "1;1p"), 2);
        due("a TEXT of one", books(told, "1"), 1);
        due("the second", told.book(1), 1);
        due("no prop", told.touch(0, 1), 0);
        by(2, "a book QUOTES none at first, though one of its number did");
        due("a TEXT of two", books(told, "1;1:0"), 2);
        due("a TEXT of one", books(told, "1"), 1);
        due("the second", told.book(1), 1);
        due("no quote", told.count(2), 0);
    }

    private static void quoteHateProp() {
        by(3, "One QUOTES another one: whether it did");
        BesideQuotes x = made(CHAIN, "");
        due("first and last", x.quote(0, 7, true), 0);
        due("again", x.quote(0, 7, true), 1);
        by(3, "or not any more: whether it did");
        due("not", x.quote(0, 7, false), 1);
        due("nor again", x.quote(0, 7, false), 0);
        by(3, "it is not QUOTED back");
        due("1 quotes 0", x.quote(1, 0, true), 1);
        due("0 does not quote 1", x.quote(0, 1, true), 0);
        by(3, "of two that QUOTE one another one may cease");
        due("1 not any more", x.quote(1, 0, false), 1);
        due("they touch", x.touch(1, 0), 1);
        due("0 not any more", x.quote(0, 1, false), 1);
        due("they do not", x.touch(0, 1), 0);
        by(4, "Two HATE one another: whether they did, told either way");
        due("first and last", x.hate(0, 7, true), 0);
        due("last and first", x.hate(7, 0, true), 1);
        due("a pair", x.count(3), 1);
        by(4, "or not any more: whether they did, told either way");
        due("last and first", x.hate(7, 0, false), 1);
        due("first and last", x.hate(0, 7, false), 0);
        due("no pair", x.count(3), 0);
        by(5, "PROP: none is at first");
        BesideQuotes one = new BesideQuotes();
        one.book(1);
        due("the first one", one.prop(0, false), 0);
        by(5, "A BOOK is a PROP: whether it was");
        due("the last one", x.prop(7, true), 0);
        due("again", x.prop(7, true), 1);
        by(5, "or not: whether it was");
        due("not", x.prop(7, false), 1);
        due("nor again", x.prop(7, false), 0);
        by(5, "it may TOUCH all others from then on");
        due("not yet", x.touch(7, 2), 0);
        due("prop", x.prop(7, true), 0);
        due("now", x.touch(7, 2), 1);
        by(5, "or not: not any more");
        due("prop", x.prop(7, false), 1);
        due("not any more", x.touch(2, 7), 0);
    }

    private static void thickRule() {
        by(6, "THICKNESS of a BOOK: what it was, 1 and 9");
        BesideQuotes x = made("5;5", "1");
        due("least", x.thick(1, 1), 5);
        due("greatest", x.thick(1, 9), 1);
        due("was", x.thick(1, 9), 9);
        due("the other one", x.thick(0, 5), 5);
        due("of the hall", x.count(5), 9);
        by(7, "A LAW: what it was, 0 and 1");
        for (int law = 0; law < 2; law++) {
            due("on", x.rule(law, 1), 0);
            due("on again", x.rule(law, 1), 1);
            due("off", x.rule(law, 0), 1);
            due("off again", x.rule(law, 0), 0);
        }
        by(7, "of two LAWS each is for itself");
        due("ring", x.rule(RING, 1), 0);
        due("thirds", x.rule(THIRDS, 0), 0);
        due("ring", x.rule(RING, 1), 1);
    }

    private static void touch() {
        by(8, "Two that HATE one another may not TOUCH: though one is a PROP");
        BesideQuotes x = made("1p;1p;1:3;1;1:3;1", "");
        x.hate(0, 5, true);
        due("touch", x.touch(0, 5), 0);
        due("touch", x.touch(5, 0), 0);
        by(8, "though both are");
        x.hate(0, 1, true);
        due("touch", x.touch(0, 1), 0);
        by(8, "though one QUOTES the other");
        x.hate(2, 3, true);
        due("touch", x.touch(2, 3), 0);
        by(8, "though by LAW 1 a third one is QUOTED by both");
        x.rule(THIRDS, 1);
        due("touch", x.touch(2, 4), 1);
        x.hate(2, 4, true);
        due("touch", x.touch(2, 4), 0);
        by(8, "All others may, if one is a PROP, whichever");
        due("touch", x.touch(1, 5), 1);
        due("touch", x.touch(5, 1), 1);
        by(8, "or one QUOTES the other, whichever");
        due("touch", x.touch(4, 3), 1);
        due("touch", x.touch(3, 4), 1);
        by(8, "or none of this: they may not");
        due("touch", x.touch(5, 4), 0);
        by(8, "by LAW 1 a third one that QUOTES both is none that is QUOTED by both");
        BesideQuotes by = ruled(THIRDS, "1;1;1:01", "");
        due("touch", by.touch(0, 1), 0);
        by(8, "by LAW 1 a third one QUOTED by one alone does not count");
        by.quote(0, 2, true);
        due("touch", by.touch(0, 1), 0);
        by.quote(1, 2, true);
        due("touch", by.touch(0, 1), 1);
        by(8, "by LAW 1 alone");
        by.rule(THIRDS, 0);
        due("touch", by.touch(0, 1), 0);
        by(8, "by LAW 1 the third one may be hated by both");
        by.rule(THIRDS, 1);
        by.hate(0, 2, true);
        by.hate(1, 2, true);
        due("touch", by.touch(0, 1), 1);
        by(8, "RING is no LAW of two that TOUCH");
        due("touch", ruled(RING, "1;1", "").touch(0, 1), 0);
    }

    private static void type() {
        by(9, "n 1, the least; the lowest byte alone");
        BesideQuotes x = made("1;1", "");
        due("type", x.type(0x2020202020202030L, 1), 1);
        due("hall", x.hall(), 1);
        by(9, "n 8, the greatest, of these the highest first");
        due("type", x.type(0x2031202020202030L, 8), 8);
        due("hall", x.hall(), 2);
        dueHall(x, "10");
        by(9, "bytes above the n lowest are not looked at");
        due("type", x.type(0xFF00001F7F803031L, 2), 2);
        due("hall", x.hall(), 2);
        dueHall(x, "01");
        by(9, "a byte 32, the least");
        due("type", x.type(32, 1), 1);
        by(9, "a byte 126, the greatest");
        due("type", x.type(126, 1), 2);
        due("hall", x.hall(), -21);
        by(9, "come behind THE TAPE");
        due("type", x.type('1', 1), 1);
        due("type", x.type('0', 1), 2);
        due("hall", x.hall(), 2);
        dueHall(x, "10");
        by(9, "FULL: 60, not at 60");
        for (int k = 1; k <= 7; k++) {
            due("type", x.type(0x2020202020202020L, 8), 8 * k);
        }
        due("to 60", x.type(0x20202031L, 4), 60);
        due("61", x.type(' ', 1), FULL);
        due("the last byte is there", x.hall(), 1);
        dueHall(x, "1");
        by(9, "THE TAPE has room again behind books() and hall()");
        due("type", x.type(' ', 1), 1);
        due("books", x.books(), -21);
        due("type", x.type(' ', 1), 1);
    }

    private static int fault(String text) {
        return books(made("1;1;1", "0"), text);
    }

    private static void booksText() {
        by(10, "1 to 8: one");
        BesideQuotes x = new BesideQuotes();
        due("one", books(x, "1"), 1);
        by(10, "1 to 8: eight");
        due("eight", books(x, CHAIN), 8);
        due("the last one", x.thick(7, 1), 1);
        by(10, "1 to 8: none");
        due("none", fault(""), -20);
        by(10, "1 to 8: nine, whose ; can't stand there");
        due("nine", fault("1;2;3;4;5;6;7;8;9"), -35);
        due("a ; behind eight", fault("1;2;3;4;5;6;7;8;"), -35);
        due("behind quotes", fault("1;2;3;4;5;6;7;8p:06;9"), -39);
        by(10, "with ; between: not ahead, not behind, not two");
        due("ahead", fault(";1"), -20);
        due("behind", fault("1;"), -22);
        due("two", fault("1;;1"), -22);
        due("none", fault("1 1"), -22);
        by(10, "a digit 1 .. 9");
        due("0", fault("0"), -20);
        due("0, the second", fault("1;0"), -22);
        due("1", fault("1"), 1);
        due("9", fault("9"), 1);
        due("the byte behind 9", fault(":"), -20);
        due("the byte ahead of 0", fault("/"), -20);
        due("two digits", fault("11"), -21);
        due("no digit", fault("p"), -20);
        by(10, "perhaps p, once, ahead of :");
        due("p", fault("1p"), 1);
        due("pp", fault("1pp"), -22);
        due("P", fault("1P"), -21);
        due("behind :", fault("1:p;1"), -22);
        due("behind digits", fault("1:1p;1"), -23);
        by(10, "perhaps : and digits, at least one");
        due("none at the end", fault("1:"), -22);
        due("none ahead of ;", fault("1:;1"), -22);
        due("two :", fault("1::1;1"), -22);
        due(": again", fault("1:1:;1"), -23);
        by(10, "not itself");
        due("itself", fault("1:0"), -22);
        due("itself, the second", fault("1;1:1"), -24);
        due("itself, behind another one", fault("1;1:01"), -25);
        due("itself, the last one", fault("1;1;1;1;1;1;1;1:7"), -20 - 16);
        by(10, "none twice");
        due("twice", fault("1:11;1"), -23);
        due("twice, not one behind the other", fault("1:121;1;1"), -24);
        due("twice, of two books", fault("1:1;1;1:1"), 3);
        by(10, "all others: seven");
        due("seven", books(x, "1:7654321;1;1;1;1;1;1;1"), 8);
        due("quotes", x.count(2), 7);
        due("one more digit", fault("1:76543211;1;1;1;1;1;1;1"), -29);
    }

    private static void booksTextBehind() {
        by(10, "in place of those told: THICKNESS, PROPS, QUOTES");
        BesideQuotes x = made("9p:1;9p;9", "012");
        x.hate(0, 1, true);
        due("books", books(x, "1;2:0"), 2);
        due("how many", x.count(0), 2);
        due("quotes", x.count(2), 1);
        due("thickness", x.thick(0, 1), 1);
        due("no prop", x.prop(0, false), 0);
        due("no prop", x.prop(1, false), 0);
        by(10, "none HATE one another then");
        due("hates", x.count(3), 0);
        due("touch", x.touch(0, 1), 1);
        by(10, "THE HALL is empty then");
        dueHall(x, "");
        by(10, "LAWS are as they were then");
        x.rule(RING, 1);
        x.rule(THIRDS, 1);
        due("books", books(x, "1;1"), 2);
        due("ring", x.rule(RING, 1), 1);
        due("thirds", x.rule(THIRDS, 1), 1);
        by(10, "a TEXT tells those QUOTED that come behind, too");
        due("books", books(x, "1:2;1;1"), 3);
        due("quotes", x.quote(0, 2, true), 1);
        by(10, "THE TAPE is empty then, behind a FAULT, too");
        due("fault", books(x, "x"), -20);
        due("type", x.type('1', 1), 1);
        due("books", x.books(), 1);
        due("type", x.type('1', 1), 1);
    }

    private static void faults() {
        by(0, "FAULTS: behind blanks, that count for nothing");
        due("ahead", fault("  x"), -22);
        due("in the middle", fault("1  x"), -23);
        due("between", fault("1 ; x"), -24);
        due("behind :", fault("1 : x"), -24);
        due("among digits", fault("1:1 x;1"), -24);
        due("blanks everywhere", fault(" 9 p : 1 2 ; 1 ; 1 "), 3);
        by(0, "FAULTS: the end: how many bytes there are");
        due("empty", fault(""), -20);
        due("one blank", fault(" "), -21);
        due("behind ;", fault("1;"), -22);
        due("behind ; and blanks", fault("1;  "), -24);
        due("behind : and blanks", fault("1:  "), -24);
        due("60 bytes", fault("1;" + " ".repeat(58)), -80);
        by(0, "FAULTS: the first byte of several");
        due("two", fault("1x;y"), -21);
        due("ahead of the end", fault("1::"), -22);
        by(0, "FAULTS: if none, the first digit that tells a QUOTED one that does not come");
        due("one", fault("1:1"), -22);
        due("behind one that comes", fault("1:21;1"), -22);
        due("the first of several", fault("1:132;1"), -23);
        due("the first of several, not the least", fault("1:1;1:76"), -26);
        due("of the last book", fault("1;1:07"), -25);
        due("seven come, the eighth does not", fault("1;1;1;1;1;1;1:7"), -20 - 14);
        due("eight come", fault("1:7;1;1;1;1;1;1;1"), 8);
        due("behind blanks", fault("1: 1"), -23);
        by(0, "FAULTS: a byte that can't stand there is ahead of a digit that tells none");
        due("a byte", fault("1:7;x"), -24);
        due("the end", fault("1:7;"), -24);
        due("itself", fault("1:7;1:1"), -26);
        due("twice", fault("1:77"), -23);
        by(0, "FAULTS: 8 and 9 never come");
        due("8", fault("1;1:08"), -25);
        due("9", fault("1:9;1"), -22);
        due("behind eight", fault("1;1;1;1;1;1;1;1:08"), -20 - 17);
        by(0, "FAULTS: those that were told are not those of the TEXT");
        due("2 was there", fault("1;1:2"), -24);
    }

    private static int hallFault(String text) {
        return hall(made("1;1;1", "0"), text);
    }

    private static void hallText() {
        by(11, "0 to 8 unlike digits: none");
        BesideQuotes x = made(PROPS, "12");
        due("none", x.hall(), 0);
        dueHall(x, "");
        by(11, "blanks alone are none");
        due("hall", hall(x, "12"), 2);
        due("none", hall(x, "   "), 0);
        dueHall(x, "");
        by(11, "0 to 8 unlike digits: eight");
        due("eight", hall(x, "76543210"), 8);
        dueHall(x, "76543210");
        by(11, "nine: one is told twice");
        due("nine", hall(x, "012345670"), -28);
        dueHall(x, "76543210");
        by(11, "unlike");
        due("twice", hallFault("00"), -21);
        due("twice, not one behind the other", hallFault("0120"), -23);
        due("twice, behind blanks", hallFault("0  0"), -23);
        by(11, "BOOKS that are there");
        due("the last one", hallFault("2"), 1);
        due("none of that number", hallFault("3"), -20);
        due("none of that number, behind others", hallFault("0213"), -23);
        due("8", hall(x, "8"), -20);
        due("9", hall(x, "9"), -20);
        by(11, "digits alone");
        due("ahead of 0", hallFault("0/"), -21);
        due("behind 9", hallFault("0:"), -21);
        due("; between", hallFault("0;1"), -21);
        by(11, "blanks count for nothing");
        due("blanks", hallFault(" 2 0  1 "), 3);
        by(11, "or one that is not LAWFUL");
        BesideQuotes apart = made("1;1;1", "201");
        dueHall(apart, "201");
        due("judged", apart.judged(), 0);
        by(11, "THE TAPE is empty then");
        due("type", apart.type('0', 1), 1);
        due("hall", apart.hall(), 1);
        due("type", apart.type('x', 1), 1);
        due("fault", apart.hall(), -20);
        due("type", apart.type('0', 1), 1);
    }

    private static void atCount() {
        by(12, "place 0 and the last one of eight");
        BesideQuotes x = made(PROPS, "76543210");
        due("0", x.at(0), 7);
        due("7", x.at(7), 0);
        due("8", x.at(8), BAD);
        by(12, "BAD: none is there, though one was");
        due("hall", hall(x, "5"), 1);
        due("0", x.at(0), 5);
        due("1", x.at(1), BAD);
        by(13, "2 QUOTES: those of two that QUOTE one another are two");
        BesideQuotes two = made("1:1;1:0", "");
        due("quotes", two.count(2), 2);
        by(13, "4 pairs that may TOUCH: they are one");
        due("touches", two.count(4), 1);
        by(13, "3 hated pairs: one");
        two.hate(1, 0, true);
        due("hates", two.count(3), 1);
        due("touches", two.count(4), 0);
        by(13, "most of each");
        BesideQuotes most = made("9;9;9;9;9;9;9;9", "");
        for (int pair = 0; pair < 64; pair++) {
            most.quote(pair / 8, pair % 8, true);
        }
        due("books", most.count(0), 8);
        due("quotes", most.count(2), 56);
        due("touches", most.count(4), 28);
        for (int pair = 0; pair < 64; pair++) {
            most.hate(pair / 8, pair % 8, true);
        }
        due("hates", most.count(3), 28);
        due("touches", most.count(4), 0);
        by(13, "5 THICKNESS of THE HALL alone");
        due("none stands", most.count(5), 0);
        due("hall", hall(most, "01234567"), 8);
        due("all stand", most.count(5), 72);
        due("hall", hall(most, "3"), 1);
        due("one stands", most.count(5), 9);
    }

    private static void judged() {
        by(14, "the first place, of several");
        due("two", made(CHAIN, "0246").judged(), 0);
        due("the second", made(CHAIN, "0135").judged(), 1);
        by(14, "the last two");
        due("place 6", made(CHAIN, "12345670").judged(), 6);
        by(14, "of none, of one");
        due("none", made(CHAIN, "").judged(), NONE);
        due("one", made(CHAIN, "3").judged(), NONE);
        by(14, "without RING the last one and the first one are nothing to one another");
        due("three", made(CHAIN, "012").judged(), NONE);
        by(14, "by RING at the last place: the first one");
        due("three", ruled(RING, CHAIN, "012").judged(), 2);
        due("eight", ruled(RING, CHAIN, "01234567").judged(), 7);
        by(14, "by RING a place ahead of the last one is first");
        due("three", ruled(RING, CHAIN, "023").judged(), 0);
        by(14, "by RING, if there are three or more: two, one, none are not");
        due("two", ruled(RING, CHAIN, "01").judged(), NONE);
        due("two that may not", ruled(RING, CHAIN, "02").judged(), 0);
        due("one", ruled(RING, CHAIN, "0").judged(), NONE);
        due("none", ruled(RING, CHAIN, "").judged(), NONE);
        by(14, "by RING, round the end, two that may");
        due("three", ruled(RING, "1:2;1:0;1:1", "120").judged(), NONE);
        by(14, "it is judged by what is told now");
        BesideQuotes x = made(CHAIN, "0123");
        x.hate(2, 1, true);
        due("hated", x.judged(), 1);
        x.hate(1, 2, false);
        due("not hated", x.judged(), NONE);
        x.quote(3, 2, false);
        due("not quoted", x.judged(), 2);
    }

    private static void rowsRow() {
        by(15, "of the empty set: the empty one");
        due("no book", new BesideQuotes().rows(0), 1);
        due("books", made(CHAIN, "").rows(0), 1);
        due("by RING", ruled(RING, CHAIN, "").rows(0), 1);
        by(15, "of one, of two");
        due("one", made(CHAIN, "").rows(128), 1);
        due("two", made(CHAIN, "").rows(3), 2);
        due("two that may not", made(CHAIN, "").rows(5), 0);
        by(15, "by RING, if it has three or more");
        due("one", ruled(RING, CHAIN, "").rows(128), 1);
        due("two", ruled(RING, CHAIN, "").rows(3), 2);
        due("three", ruled(RING, CHAIN, "").rows(7), 0);
        due("three, without RING", made(CHAIN, "").rows(7), 2);
        due("three round", ruled(RING, "1:12;1:2;1", "").rows(7), 6);
        by(15, "all of eight");
        due("8!", made(PROPS, "").rows(255), 40320);
        due("8! round", ruled(RING, PROPS, "").rows(255), 40320);
        by(15, "of just these, whatever stands in THE HALL");
        due("7!", made(PROPS, "0123").rows(254), 5040);
        by(16, "0-th and last, in their order as rows of numbers");
        BesideQuotes x = made(PROPS, "");
        due("first", rowOf(x, 255, 0), "01234567");
        due("last", rowOf(x, 255, 40319), "76543210");
        due("in the middle", rowOf(x, 255, 20160), "40123567");
        due("of some", rowOf(x, 0x92, 0), "147");
        due("of some, the last", rowOf(x, 0x92, 5), "741");
        by(16, "by RING each way round is a row");
        BesideQuotes ring = ruled(RING, "1:13;1:2;1:3;1", "");
        due("many", ring.rows(15), 8);
        due("first", rowOf(ring, 15, 0), "0123");
        due("second", rowOf(ring, 15, 1), "0321");
        due("third", rowOf(ring, 15, 2), "1032");
        due("last", rowOf(ring, 15, 7), "3210");
        by(16, "of one");
        due("one", x.row(128, 0, 0), 7);
        due("no second", x.row(128, 1, 0), NONE);
    }

    private static void cut() {
        by(17, "a CUT may be empty: two parts");
        due("two", made("1;1", "").cut(3), 0);
        by(17, "more parts than the CUT has BOOKS and 1: not as many");
        due("a row of three", made("1;1:0;1:0", "").cut(7), NONE);
        due("a star of three", made("1;1:0;1:0;1:0", "").cut(15), 1);
        by(17, "by RING: than the CUT has: not as many");
        due("a ring of four", ruled(RING, "1:13;1:2;1:3;1", "").cut(15), NONE);
        due("a row of three", ruled(RING, "1;1:0;1:0", "").cut(7), 1);
        by(17, "by RING the CUT is not empty");
        due("three alone", ruled(RING, "1;1;1", "").cut(7), 1);
        due("three alone, no RING", made("1;1;1", "").cut(7), 0);
        by(17, "by RING, if the set has three or more");
        due("two", ruled(RING, "1;1:0;1", "").cut(3), NONE);
        due("two that may not", ruled(RING, "1;1:0;1", "").cut(5), 0);
        due("one", ruled(RING, "1;1:0;1", "").cut(1), NONE);
        by(17, "the fewest BOOKS, though another set is less");
        // without 4 the rest falls to 0, 1, 2, 3; without 0 and the like it hangs together
        due("the last one", made("1;1;1;1;1:0123", "").cut(31), 16);
        // two stars: 3 is in the midst of 0, 1, 2; without it there are three parts
        due("4 of 5", made("1;1;1;1:012;1", "").cut(15), 8);
        by(17, "of like ones the least set");
        due("in a chain round", ruled(RING, CHAIN, "").cut(255), 2);
        by(17, "TOUCHES within the rest: a book beyond the set does not join");
        due("2 is not of it", made("1;1;1:01", "").cut(3), 0);
        by(17, "parts hang together by TOUCHES, by the last BOOK and by the first, too");
        due("0 7 1", made("1;1;1;1;1;1;1;1:01", "").cut(0x83), NONE);
        due("6 0 7", made("1:67;1;1;1;1;1;1;1", "").cut(0xC1), NONE);
        by(17, "most books in a CUT");
        // three that each touch five leaves: the rest falls to five
        due("three", made("1;1;1;1:012;1:012;1:012;1:012;1:012", "").cut(255), 7);
        by(17, "none shows it, though there is no row");
        // a tooth at each corner of a triangle: no row, by three teeth; taking all corners leaves three parts
        BesideQuotes net = made("1:12;1:2;1;1:0;1:1;1:2", "");
        due("no row", net.rows(63), 0);
        due("no cut", net.cut(63), NONE);
    }

    private static void put() {
        by(18, "into the empty hall");
        BesideQuotes x = made(CHAIN, "");
        due("put", x.put(7), 0);
        dueHall(x, "7");
        by(18, "to eight");
        BesideQuotes eight = made(PROPS, "7654321");
        due("put", eight.put(0), 0);
        dueHall(eight, "07654321");
        by(18, "it stands then");
        due("again", eight.put(0), NOT);
        by(18, "that row by which the fewest are MOVED, not the first row");
        BesideQuotes turned = made(CHAIN, "21");
        due("put", turned.put(0), 0);
        dueHall(turned, "210");
        by(18, "of like ones the first as a row");
        BesideQuotes first = made(PROPS, "5");
        due("put", first.put(7), 0);
        dueHall(first, "57");
        due("put", first.put(1), 0);
        dueHall(first, "157");
        by(18, "a hall of one: none can be MOVED, the first row is taken");
        BesideQuotes one = made(CHAIN, "1");
        due("put", one.put(0), 0);
        dueHall(one, "01");
        by(18, "all but one are MOVED");
        BesideQuotes most = made("1;1:0;1:1;1:2", "310");
        due("put", most.put(2), 0);
        dueHall(most, "3210");
        BesideQuotes odd = made(CHAIN, "3061425");
        // 01234567 keeps 0 1 2 5; 76543210 keeps 3 1, 6 4 2
        due("put", odd.put(7), 3);
        dueHall(odd, "01234567");
        by(18, "a hall that was not LAWFUL is so then");
        BesideQuotes apart = made(CHAIN, "02");
        due("put", apart.put(1), 0);
        due("judged", apart.judged(), NONE);
        by(18, "the book itself is not MOVED, wherever it comes");
        BesideQuotes middle = made("1:2;1:2;1", "01");
        due("put", middle.put(2), 0);
        dueHall(middle, "021");
        by(18, "by RING the new row is LAWFUL round its end");
        BesideQuotes ring = ruled(RING, "1:13;1:2;1:3;1", "13");
        // 013 is no row, as 1 and 3 may not touch: with three of this ring none is
        due("three", ring.put(0), NONE);
        due("hall", hall(ring, "132"), 3);
        // 1 0 3 2 is the first that keeps 1 3 2 in their order
        due("four", ring.put(0), 0);
        dueHall(ring, "1032");
        by(18, "by RING a row turned round has MOVED books");
        BesideQuotes round = ruled(RING, "1:14;1:2;1:3;1:4;1", "2340");
        due("put", round.put(1), 0);
        dueHall(round, "12340");
        by(18, "by RING of two there is no round");
        BesideQuotes two = ruled(RING, CHAIN, "0");
        due("put", two.put(1), 0);
        dueHall(two, "01");
    }

    private static void lend() {
        by(19, "the only one: THE HALL is empty then");
        BesideQuotes x = made(CHAIN, "3");
        due("lend", x.lend(3), 0);
        dueHall(x, "");
        due("again", x.lend(3), NOT);
        by(19, "of eight");
        BesideQuotes eight = made(PROPS, "76543210");
        due("lend", eight.lend(4), 0);
        dueHall(eight, "7653210");
        by(19, "those that stay: the one that goes is not MOVED");
        BesideQuotes ends = made(CHAIN, "012");
        due("lend", ends.lend(2), 0);
        dueHall(ends, "01");
        by(19, "the fewest MOVED: 1");
        BesideQuotes moved = made("1:123;1:23;1;1", "3120");
        due("lend", moved.lend(1), 1);
        dueHall(moved, "203");
        by(19, "of like ones the first as a row");
        // without 3: 0 2 1 and 1 2 0 are left, of 0 1 2 each keeps two
        BesideQuotes like = made("1:23;1:23;1;1", "0312");
        due("lend", like.lend(3), 1);
        dueHall(like, "021");
        by(19, "a hall that was not LAWFUL is so then");
        BesideQuotes apart = made(CHAIN, "0213");
        due("lend", apart.lend(3), 1);
        dueHall(apart, "012");
        due("judged", apart.judged(), NONE);
        by(19, "by RING of three that are left");
        BesideQuotes ring = ruled(RING, "1:12;1:2;1;1p", "0132");
        due("lend", ring.lend(3), 0);
        dueHall(ring, "012");
        by(19, "by RING of two that are left there is no round");
        BesideQuotes two = ruled(RING, "1:12;1:2;1", "201");
        due("lend", two.lend(1), 0);
        dueHall(two, "20");
    }

    private static void forged() {
        by(20, "a set of one");
        BesideQuotes x = made("1;1;1;1;1;1;1;1", "");
        due("how many", x.forged(128, -1), 0);
        due("the row", forgedOf(x, 128), "7");
        by(20, "all are to be forged");
        due("how many", x.forged(255, -1), 7);
        due("the row", forgedOf(x, 255), "01234567");
        by(20, "by RING the ends too");
        x.rule(RING, 1);
        due("how many", x.forged(255, -1), 8);
        due("the row", forgedOf(x, 255), "01234567");
        by(20, "by RING, if three or more");
        due("three", x.forged(7, -1), 3);
        due("two", x.forged(3, -1), 1);
        due("one", x.forged(1, -1), 0);
        by(20, "none is to be forged: the first of ROWS");
        BesideQuotes chain = made(CHAIN, "");
        due("how many", chain.forged(255, -1), 0);
        due("the row", forgedOf(chain, 255), "01234567");
        by(20, "a row of just these, each once, whatever was asked ahead");
        BesideQuotes props = made(PROPS, "");
        due("all", forgedOf(props, 255), "01234567");
        due("some", forgedOf(props, 0x98), "347");
        by(20, "the fewest, though another row is first");
        BesideQuotes star = made("1;1;1;1:012", "");
        due("how many", star.forged(15, -1), 1);
        due("the row", forgedOf(star, 15), "0132");
        by(20, "the fewest, though no row with so few begins with the least BOOK");
        BesideQuotes midst = made("1;1:0;1:0;1:0", "");
        due("how many", midst.forged(15, -1), 1);
        due("the row", forgedOf(midst, 15), "1023");
        due("of some", forgedOf(midst, 13), "203");
        by(20, "no two that HATE one another are side by side, though it takes more");
        BesideQuotes hated = made(CHAIN, "");
        hated.hate(0, 1, true);
        due("how many", hated.forged(7, -1), 1);
        due("the row", forgedOf(hated, 7), "021");
        by(20, "by RING the ends that HATE one another are side by side");
        BesideQuotes ends = made("1;1:0;1:1;1:2", "");
        ends.hate(0, 3, true);
        due("no RING", ends.forged(15, -1), 0);
        ends.rule(RING, 1);
        due("by RING", ends.forged(15, -1), 2);
        due("by RING", forgedOf(ends, 15), "0132");
        by(20, "two that HATE one another are in no row of two");
        due("two", ends.forged(9, -1), NONE);
        by(20, "by RING two are side by side but once");
        due("two", ends.forged(5, -1), 1);
        by(20, "place 0 and the last one");
        due("0", chain.forged(0xF0, 0), 4);
        due("3", chain.forged(0xF0, 3), 7);
        due("4", chain.forged(0xF0, 4), BAD);
    }

    private static void apart() {
        by(21, "none between: two side by side in all ROWS");
        due("two", made(CHAIN, "").apart(3, 0, 1), 0);
        due("two, by RING", ruled(RING, CHAIN, "").apart(3, 1, 0), 0);
        by(21, "the greatest number between: all others");
        due("eight", made(CHAIN, "").apart(255, 0, 7), 6);
        due("eight, told the other way", made(CHAIN, "").apart(255, 7, 0), 6);
        by(21, "by RING the lesser of both ways round");
        BesideQuotes round = ruled(RING, "1:1;1:2;1:3;1:4;1:5;1:6;1:7;1:0", "");
        due("ends", round.apart(255, 0, 7), 0);
        due("one between", round.apart(255, 1, 7), 1);
        due("the farthest", round.apart(255, 0, 4), 3);
        due("past the farthest", round.apart(255, 0, 5), 2);
        by(21, "by RING, three: the lesser is 0");
        due("three", ruled(RING, PROPS, "").apart(7, 0, 2), 0);
        due("three, no RING", made(PROPS, "").apart(7, 0, 2), 1);
        by(21, "of all ROWS the greatest");
        due("no RING", made(PROPS, "").apart(255, 6, 1), 6);
        due("by RING, of eight", ruled(RING, PROPS, "").apart(255, 6, 1), 3);
        due("by RING, of five", ruled(RING, PROPS, "").apart(31, 3, 1), 1);
        by(21, "NONE: it has no ROWS");
        due("two", made(CHAIN, "").apart(5, 0, 2), NONE);
        due("by RING, a chain", ruled(RING, CHAIN, "").apart(7, 0, 1), NONE);
    }

    private static void free() {
        by(22, "k 1");
        due("the ends", made(CHAIN, "01234567").free(1), 2);
        by(22, "k 8: all may be lent");
        due("all", made(CHAIN, "01234567").free(8), 1);
        by(22, "as many as THE HALL has");
        due("three", made("1;1;1", "012").free(3), 1);
        due("one", made("1;1;1", "2").free(1), 1);
        by(22, "all but one");
        due("seven", made(CHAIN, "01234567").free(7), 8);
        by(22, "none");
        due("none", made("1;1;1;1", "0123").free(1), 0);
        due("none of two", made("1;1;1;1", "0123").free(2), 0);
        by(22, "a hall that is not LAWFUL");
        due("without 3", made(CHAIN, "0312").free(1), 1);
        by(22, "as it stands: not in another row");
        due("0 2 1: without 1 it is 0 2", made(CHAIN, "021").free(1), 2);
        due("0 2 4 1: none", made(CHAIN, "0241").free(1), 0);
        by(22, "by RING, if three or more are left");
        due("three are left", ruled(RING, CHAIN, "0123").free(1), 0);
        due("two are left", ruled(RING, CHAIN, "0123").free(2), 3);
        due("three round", ruled(RING, "1:12;1:2;1;1p", "0123").free(1), 4);
    }

    public static void main(String[] args) {
        newObject();
        book();
        quoteHateProp();
        thickRule();
        touch();
        type();
        booksText();
        booksTextBehind();
        faults();
        hallText();
        atCount();
        judged();
        rowsRow();
        cut();
        put();
        lend();
        forged();
        apart();
        free();
        end();
    }
}
