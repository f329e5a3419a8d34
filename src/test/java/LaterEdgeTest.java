/**
 * Promises 23 to 31: each sentence of the document that names a boundary of what is taken: least, greatest, empty,
 * full, round the end. What is refused is in RefusalTest.
 */
public final class LaterEdgeTest extends Due {
    private static String burntOf(BesideQuotes x, int a, int b, int set, int thick) {
        StringBuilder got = new StringBuilder().append(x.burnt(a, b, set, thick, -1)).append(':');
        for (int k = a; k <= b; k++) {
            got.append(x.burnt(a, b, set, thick, k));
        }
        return got.toString();
    }

    private static void burnt() {
        by(23, "one place, the first, a book beside at one end");
        BesideQuotes x = made(CHAIN, "0123");
        due("0", burntOf(x, 0, 0, 255, 1), "1:0");
        by(23, "one place, the last");
        due("3 or 1, which stands", burntOf(x, 3, 3, 255, 1), "1:3");
        by(23, "one place in the midst, a book beside at both ends");
        due("1", burntOf(x, 1, 1, 255, 1), "1:1");
        by(23, "all is BURNT: no book beside");
        due("chains of four", burntOf(x, 0, 3, 255, 4), "10:0123");
        due("of just four", burntOf(x, 0, 3, 15, 4), "2:0123");
        due("one alone", burntOf(made(CHAIN, "5"), 0, 0, 255, 1), "8:0");
        by(23, "none of them standing elsewhere in THE HALL");
        BesideQuotes all = made(PROPS, "01234567");
        due("the one that stood", burntOf(all, 3, 3, 255, 1), "1:3");
        due("two that stood", burntOf(all, 3, 4, 255, 2), "2:34");
        due("none of the set", all.burnt(3, 3, 0xF7, 1, -1), NONE);
        by(23, "of a set: those that stood there, too, only if they are of it");
        BesideQuotes some = made(PROPS, "0123");
        due("others", burntOf(some, 1, 2, 0xF0, 2), "12:45");
        due("all", burntOf(some, 1, 2, 0xFF, 2), "30:12");
        by(23, "so THICK together: 1, the least");
        BesideQuotes thin = made("1;9p;9;9;9;9;9;9", "2");
        due("1", burntOf(thin, 0, 0, 255, 1), "1:0");
        by(23, "so THICK together: just so, not more, not less");
        due("2", thin.burnt(0, 0, 255, 2, -1), NONE);
        due("8", thin.burnt(0, 0, 255, 8, -1), NONE);
        due("9", burntOf(thin, 0, 0, 255, 9), "7:1");
        due("10", thin.burnt(0, 0, 255, 10, -1), NONE);
        by(23, "so THICK together: 72, all that can be");
        BesideQuotes nines = made("9p;9p;9p;9p;9p;9p;9p;9p", "01234567");
        due("72", burntOf(nines, 0, 7, 255, 72), "40320:01234567");
        due("73", nines.burnt(0, 7, 255, 73, -1), NONE);
        due("99", nines.burnt(0, 7, 255, 99, 7), NONE);
        by(23, "k from a to b");
        due("a", nines.burnt(2, 4, 255, 27, 2), 2);
        due("b", nines.burnt(2, 4, 255, 27, 4), 4);
        by(23, "the first, not of those that stand beside it");
        due("first", burntOf(made("1;1:0;1:1;1:02", "012"), 1, 1, 15, 1), "2:1");
        by(23, "THE HALL elsewhere need not be LAWFUL, and is not changed");
        BesideQuotes apart = made(CHAIN, "0246");
        due("1 between 0 and 4", apart.burnt(1, 1, 255, 1, -1), NONE);
        due("5 and 7 beside 6 .. 4", burntOf(apart, 3, 3, 255, 1), "2:3");
        dueHall(apart, "0246");
    }

    private static void burntRing() {
        by(23, "by RING round its end: the last one is beside place 0");
        String odd = "1;1:0;1:1;1:2;1:1";
        BesideQuotes x = made(odd, "0123");
        due("no RING", burntOf(x, 0, 0, 31, 1), "2:0");
        x.rule(RING, 1);
        due("by RING", x.burnt(0, 0, 31, 1, -1), NONE);
        x.quote(4, 3, true);
        due("by RING", burntOf(x, 0, 0, 31, 1), "1:4");
        by(23, "by RING round its end: the first one is beside the last place");
        BesideQuotes y = ruled(RING, "1;1:0;1:1;1:2;1:2", "0123");
        due("none beside 0", y.burnt(3, 3, 31, 1, -1), NONE);
        y.quote(4, 0, true);
        due("4 beside 0", burntOf(y, 3, 3, 31, 1), "1:4");
        by(23, "by RING, all but one: it is beside both ends");
        BesideQuotes ring = ruled(RING, "1:13;1:2;1:3;1", "0123");
        due("but 3", burntOf(ring, 0, 2, 15, 3), "2:012");
        due("but 0", burntOf(ring, 1, 3, 15, 3), "2:123");
        by(23, "by RING, if all is BURNT, the last the first");
        due("all", burntOf(ring, 0, 3, 15, 4), "8:0123");
        ring.quote(0, 3, false);
        due("a chain", ring.burnt(0, 3, 15, 4, -1), NONE);
        by(23, "by RING, if THE HALL has three or more: three");
        BesideQuotes three = ruled(RING, CHAIN, "012");
        due("all of three", three.burnt(0, 2, 7, 3, -1), NONE);
        due("the end of three", three.burnt(2, 2, 255, 1, -1), NONE);
        by(23, "by RING, if THE HALL has three or more: two are not");
        due("hall", hall(three, "01"), 2);
        due("all of two", burntOf(three, 0, 1, 3, 2), "2:01");
        due("the end of two", burntOf(three, 1, 1, 255, 1), "1:1");
        by(23, "by RING, if THE HALL has three or more: one is not");
        due("hall", hall(three, "4"), 1);
        due("one", burntOf(three, 0, 0, 255, 1), "8:0");
    }

    private static void image() {
        by(24, "an IMAGE of nothing");
        BesideQuotes x = new BesideQuotes();
        due("image", x.image(), 1);
        x.book(1);
        due("restore", x.restore(), 1);
        due("books", x.count(0), 0);
        by(24, "the last IMAGE alone is kept");
        x.book(1);
        due("image", x.image(), 1);
        x.book(1);
        due("image", x.image(), 1);
        x.book(1);
        due("restore", x.restore(), 1);
        due("books", x.count(0), 2);
        by(24, "it is kept as it was, whatever is told behind it");
        BesideQuotes y = made("1;1:0;1p", "21");
        y.hate(0, 2, true);
        due("image", y.image(), 1);
        y.quote(1, 0, false);
        y.prop(2, false);
        y.hate(0, 2, false);
        y.thick(0, 7);
        y.rule(RING, 1);
        y.rule(THIRDS, 1);
        due("lend", hall(y, "0"), 1);
        by(25, "All is as it was then");
        due("restore", y.restore(), 1);
        due("quote", y.quote(1, 0, true), 1);
        due("prop", y.prop(2, true), 1);
        due("hate", y.hate(0, 2, true), 1);
        due("thick", y.thick(0, 1), 1);
        due("ring", y.rule(RING, 0), 0);
        due("thirds", y.rule(THIRDS, 0), 0);
        dueHall(y, "21");
        due("touches", y.count(4), 2);
        by(25, "All is as it was then: those that HATE one another, the last BOOK, too");
        BesideQuotes last = ruled(THIRDS, "1:2;1:2;1;1;1;1;1;1p", "");
        last.hate(7, 0, true);
        due("image", last.image(), 1);
        due("books", books(last, PROPS), 8);
        last.rule(THIRDS, 0);
        due("restore", last.restore(), 1);
        due("they may not touch", last.touch(0, 7), 0);
        due("they may not touch", last.touch(7, 0), 0);
        due("by a third one", last.touch(1, 0), 1);
        due("pairs", last.count(4), 9);
        due("hated pairs", last.count(3), 1);
        due("told by the last one", last.hate(7, 0, false), 1);
        by(25, "the IMAGE is there still");
        y.book(1);
        due("restore", y.restore(), 1);
        due("books", y.count(0), 3);
        by(25, "behind eight books, too");
        due("books", books(y, PROPS), 8);
        due("restore", y.restore(), 1);
        due("books", y.count(0), 3);
        due("a fourth", y.book(2), 3);
        due("it touches none but the prop", y.count(4), 3);
        by(25, "All but SHEETS");
        y.sheet(2, 1, 16);
        due("restore", y.restore(), 1);
        due("a sheet stays", y.drop(2), 16);
        y.sheet(0, 0, 2);
        y.image();
        y.drop(0);
        due("restore", y.restore(), 1);
        due("it does not come again", y.drop(0), NULL);
        by(25, "All but THE TAPE");
        due("type", y.type('0', 1), 1);
        due("restore", y.restore(), 1);
        due("it stays", y.hall(), 1);
    }

    private static void walk() {
        by(26, "n 1, the least");
        BesideQuotes x = withSheet("1;2;3;4;5;6;7;8", "01234567", 1, 0, 7, 0, 7, 0, 7, 7, 3, 3);
        due("to place 0", x.walk(0, 1, 0, 1), 1);
        due("to the last place", x.walk(0, 1, 1, 1), 36);
        by(26, "n 6, the greatest");
        due("six", x.walk(0, 1, 0, 6), 1 + 35 + 28 + 35 + 28 + 35);
        by(26, "0, if she is there");
        due("there", x.walk(0, 1, 5, 2), 36);
        due("there", x.walk(0, 1, 7, 2), 10);
        by(26, "the last items of a SHEET");
        due("the last one", x.walk(0, 1, 8, 1), 10);
        by(26, "the BOOK at which it ends counts, that at which it begins does not");
        due("to 7, back to 3", x.walk(0, 1, 6, 2), 36 + 7 + 6 + 5 + 4);
        by(26, "by RING: ahead of place 0 is behind the last one");
        x.rule(RING, 1);
        due("to the last place", x.walk(0, 1, 1, 1), 8);
        due("to place 0", x.walk(0, 1, 0, 1), 1);
        by(26, "by RING round the end");
        due("0 to 7", x.walk(0, 1, 0, 2), 9);
        due("7 to 0", x.walk(0, 1, 1, 2), 9);
        by(26, "by RING whichever is shorter");
        due("ahead to 3: 10 forth, 30 back", x.walk(0, 1, 7, 1), 10);
        due("7 to 3: 22 back, 10 forth", x.walk(0, 1, 6, 2), 18);
        by(26, "by RING 0, if she is there");
        due("there", x.walk(0, 1, 7, 2), 10);
        by(26, "by RING, ways of a like length");
        BesideQuotes like = withSheet("1;1;1;1", "0123", 0, 0, 2);
        like.rule(RING, 1);
        due("either", like.walk(0, 0, 0, 2), 3);
        by(26, "by RING, a hall of one");
        BesideQuotes one = withSheet("9", "0", 2, 0, 0, 0, 0, 0, 0);
        due("no RING", one.walk(0, 2, 0, 6), 9);
        one.rule(RING, 1);
        due("by RING", one.walk(0, 2, 0, 6), 9);
        by(26, "by RING either way round, in a hall of two, too");
        BesideQuotes two = withSheet("1;5", "10", 2, 1);
        due("no RING", two.walk(0, 2, 0, 1), 6);
        two.rule(RING, 1);
        due("by RING", two.walk(0, 2, 0, 1), 1);
        by(26, "THE HALL need not be LAWFUL");
        due("not", two.judged(), 0);
        by(26, "taken as a row of a LANE: each");
        for (int lane = 0; lane < 3; lane++) {
            due("lane", withSheet("3;4", "10", lane, 1, 0).walk(0, lane, 0, 2), 7 + 4);
        }
        by(26, "a row of 16 items");
        BesideQuotes long16 = made("3;4", "10");
        due("sheet", long16.sheet(3, 0, 16), 16);
        due("the last six", long16.walk(3, 0, 10, 6), 4);
        due("over the end", long16.walk(3, 0, 11, 6), INDEX);
    }

    private static void joined() {
        by(27, "n 1, the least");
        due("one", withSheet(CHAIN, "01", 0, 2).joined(0, 0, 0, 1), 0);
        by(27, "n 8, the greatest, to the empty hall");
        due("eight", withSheet(CHAIN, "", 0, 7, 6, 5, 4, 3, 2, 1, 0).joined(0, 0, 0, 8), 0);
        by(27, "seven to one: eight in all");
        due("eight", withSheet(CHAIN, "0", 1, 7, 6, 5, 4, 3, 2, 1).joined(0, 1, 0, 7), 1);
        by(27, "the first of these: 0 ahead of 1, 2, 3");
        due("all fit", withSheet(PROPS, "01", 0, 2, 3).joined(0, 0, 0, 2), 0);
        by(27, "1 the second turned, ahead of 2, 3");
        due("all fit but 0", withSheet("1:1;1;1:013;1:0", "01", 0, 3, 2).joined(0, 0, 0, 2), 1);
        by(27, "2 the first turned, ahead of 3");
        due("2 alone fits", withSheet(CHAIN, "10", 0, 2, 3).joined(0, 0, 0, 2), 2);
        due("2 and 3 fit", withSheet("1:1;1;1:31;1:1", "10", 0, 2, 3).joined(0, 0, 0, 2), 2);
        by(27, "3 both turned");
        due("3 alone fits", withSheet(CHAIN, "10", 0, 3, 2).joined(0, 0, 0, 2), 3);
        by(27, "THE HALL and a row: one that may TOUCH its first BOOK alone comes by the first turned");
        due("1 0 2", withSheet("1;1:0;1:0;1:2", "01", 0, 2).joined(0, 0, 0, 1), 2);
        by(27, "LAWFUL inside, too");
        due("the second is not", withSheet(CHAIN, "01", 0, 2, 4).joined(0, 0, 0, 2), NONE);
        due("the first is not", withSheet(CHAIN, "02", 0, 3).joined(0, 0, 0, 1), NONE);
        by(27, "by RING, the last one the first, if three or more");
        BesideQuotes ring = withSheet("1;1:0;1:1;1:2", "01", 0, 2, 3);
        ring.rule(RING, 1);
        due("a chain of three", ring.joined(0, 0, 0, 1), NONE);
        due("a chain of four", ring.joined(0, 0, 0, 2), NONE);
        ring.quote(3, 0, true);
        due("a ring of four", ring.joined(0, 0, 0, 2), 0);
        by(27, "by RING, two are no ring");
        due("hall", hall(ring, "1"), 1);
        due("two", ring.joined(0, 0, 0, 1), 0);
        due("hall", hall(ring, ""), 0);
        due("two to none", ring.joined(0, 0, 0, 2), 0);
        due("one to none", ring.joined(0, 0, 1, 1), 0);
        by(27, "THE HALL is not changed");
        dueHall(ring, "");
        by(27, "items of a SHEET likewise: from item i on, of each LANE");
        for (int lane = 0; lane < 3; lane++) {
            BesideQuotes x = withSheet(CHAIN, "01", lane, 9, 9, 2, 3);
            due("from 2 on", x.joined(0, lane, 2, 2), 0);
        }
    }

    private static void sheetDrop() {
        by(28, "n 0, the least: an empty row is not nothing");
        BesideQuotes x = new BesideQuotes();
        due("sheet", x.sheet(0, 0, 0), 0);
        due("item", x.item(0, 0, 0, 0), INDEX);
        by(29, "how many items it had: 0");
        due("drop", x.drop(0), 0);
        due("again", x.drop(0), NULL);
        by(28, "n 16, the greatest");
        due("sheet", x.sheet(3, 2, 16), 16);
        due("the last item", x.item(3, 2, 15, 1), 1);
        due("one behind it", x.item(3, 2, 16, 1), INDEX);
        by(29, "how many items it had: 16");
        due("drop", x.drop(3), 16);
        due("item", x.item(3, 2, 0, 1), NULL);
        by(28, "a new row, in place of one, of another LANE and length");
        due("bytes", x.sheet(1, 0, 3), 3);
        due("longs", x.sheet(1, 2, 2), 2);
        due("no bytes", x.item(1, 0, 0, 0), CAST);
        due("two", x.item(1, 2, 2, 0), INDEX);
        by(28, "a new row holds 0, though there was another one");
        BesideQuotes y = withSheet("1;1;1", "012", 1, 2, 2);
        due("2", y.walk(0, 1, 1, 1), 3);
        due("new", y.sheet(0, 1, 2), 2);
        due("0", y.walk(0, 1, 1, 1), 1);
        due("2", y.item(0, 1, 1, 2), 1);
        due("drop", y.drop(0), 2);
        due("new", y.sheet(0, 1, 2), 2);
        due("0", y.walk(0, 1, 1, 1), 1);
        by(28, "SHEETS 0 .. 3, each for itself");
        for (int sheet = 0; sheet < 4; sheet++) {
            due("sheet", y.sheet(sheet, sheet % 3, sheet + 1), sheet + 1);
        }
        for (int sheet = 0; sheet < 4; sheet++) {
            due("drop", y.drop(sheet), sheet + 1);
        }
    }

    private static void item() {
        by(30, "its lowest bits: of a byte");
        BesideQuotes x = withSheet("1;1;1", "012", 0, 0x7FFFFFFFFFFFFF02L, 0x100, 0xFF, 0x80);
        due("2", x.walk(0, 0, 0, 1), 3);
        due("0", x.walk(0, 0, 1, 1), 1);
        due("no place", x.walk(0, 0, 2, 1), NOT);
        due("no place", x.walk(0, 0, 3, 1), NOT);
        by(30, "its lowest bits: of an int");
        BesideQuotes y = withSheet("1;1;1", "012", 1, 0x7FFFFFFF00000002L, 0x100000000L, 0xFFFFFFFFL, 0x102);
        due("2", y.walk(0, 1, 0, 1), 3);
        due("0", y.walk(0, 1, 1, 1), 1);
        due("no place", y.walk(0, 1, 2, 1), NOT);
        due("no place", y.walk(0, 1, 3, 1), NOT);
        by(30, "its lowest bits: of a long all");
        BesideQuotes z = withSheet("1;1;1", "012", 2, 2, 0x100000000L, Long.MIN_VALUE, 0x102);
        due("2", z.walk(0, 2, 0, 1), 3);
        for (int i = 1; i < 4; i++) {
            due("no place", z.walk(0, 2, i, 1), NOT);
        }
        by(30, "item 0 and the last one; the others are as they were");
        BesideQuotes w = withSheet("1;1;1", "012", 1, 1, 1, 1);
        due("0", w.item(0, 1, 0, 2), 1);
        due("2", w.item(0, 1, 2, 0), 1);
        due("0", w.walk(0, 1, 0, 1), 3);
        due("1", w.walk(0, 1, 1, 1), 2);
        due("2", w.walk(0, 1, 2, 1), 1);
        due("3", w.item(0, 1, 3, 0), INDEX);
    }

    /** Items of a row of ints that are places of a hall of eight books, each 1 thick. */
    private static String itemsOf(BesideQuotes x, int sheet) {
        StringBuilder got = new StringBuilder();
        for (int i = 0; x.copy(sheet, i, sheet, i, 1) == 1; i++) {
            got.append(x.walk(sheet, 1, i, 1) - 1);
        }
        return got.toString();
    }

    private static void copy() {
        by(31, "all items");
        BesideQuotes x = withSheet(CHAIN, "01234567", 1, 0, 1, 2, 3, 4);
        x.sheet(1, 1, 5);
        due("copy", x.copy(0, 0, 1, 0, 5), 5);
        due("to", itemsOf(x, 1), "01234");
        due("from", itemsOf(x, 0), "01234");
        by(31, "the last one to the first one");
        due("copy", x.copy(0, 4, 1, 0, 1), 1);
        due("to", itemsOf(x, 1), "41234");
        by(31, "none: at the end, too");
        due("copy", x.copy(0, 5, 1, 5, 0), 0);
        due("copy", x.copy(0, 0, 1, 5, 0), 0);
        due("copy", x.copy(0, 5, 1, 0, 0), 0);
        due("to", itemsOf(x, 1), "41234");
        by(31, "none: of empty rows");
        x.sheet(2, 1, 0);
        due("copy", x.copy(2, 0, 2, 0, 0), 0);
        due("one", x.copy(2, 0, 2, 0, 1), INDEX);
        by(31, "or the same, as if all were taken ahead: up");
        due("copy", x.copy(0, 0, 0, 1, 4), 4);
        due("up", itemsOf(x, 0), "00123");
        by(31, "or the same, as if all were taken ahead: down");
        due("copy", x.copy(0, 2, 0, 0, 3), 3);
        due("down", itemsOf(x, 0), "12323");
        by(31, "or the same, onto itself");
        due("copy", x.copy(0, 0, 0, 0, 5), 5);
        due("same", itemsOf(x, 0), "12323");
        by(31, "what is copied is not bound to where it came from");
        due("copy", x.copy(0, 0, 1, 0, 5), 5);
        due("item", x.item(0, 1, 0, 7), 1);
        due("from", itemsOf(x, 0), "72323");
        due("to", itemsOf(x, 1), "12323");
        by(31, "rows of bytes and of longs, of 16");
        for (int lane = 0; lane < 3; lane += 2) {
            x.sheet(0, lane, 16);
            x.sheet(1, lane, 16);
            due("item", x.item(0, lane, 15, 5), 1);
            due("copy", x.copy(0, 0, 1, 0, 16), 16);
            due("the last one", x.walk(1, lane, 15, 1), 6);
            due("17", x.copy(0, 0, 1, 0, 17), INDEX);
        }
    }

    private static void manyCalls() {
        by(0, "An object is used for at most 512 calls: the last ones answer as the first ones");
        BesideQuotes x = made(PROPS, "7654321");
        for (int call = 0; call < 160; call++) {
            due("rows", x.rows(255), 40320);
            due("put", x.put(0), 0);
            due("lend", x.lend(0), 0);
        }
        dueHall(x, "7654321");
    }

    public static void main(String[] args) {
        burnt();
        burntRing();
        image();
        walk();
        joined();
        sheetDrop();
        item();
        copy();
        manyCalls();
        end();
    }
}
