import java.util.ArrayList;
import java.util.List;
import java.util.Random;

/** Random runs of calls against a model that goes through every row, set and way, as the document tells them. */
public final class ModelTest {
    private static final int BAD = -1, NOT = -2, FULL = -3, NONE = -4, NULL = -11, CAST = -12, INDEX = -13, SIZE = -14;
    private static final int RUNS = 400;
    private static final int CALLS = 400;

    /** What an image keeps. */
    private static final class State {
        List<Integer> thick = new ArrayList<>();
        boolean[][] quotes = new boolean[8][8];
        boolean[][] hates = new boolean[8][8];
        boolean[] props = new boolean[8];
        int[] laws = new int[2];
        List<Integer> hall = new ArrayList<>();

        State copied() {
            State s = new State();
            s.thick = new ArrayList<>(thick);
            for (int b = 0; b < 8; b++) {
                s.quotes[b] = quotes[b].clone();
                s.hates[b] = hates[b].clone();
            }
            s.props = props.clone();
            s.laws = laws.clone();
            s.hall = new ArrayList<>(hall);
            return s;
        }
    }

    private static final class Model {
        State s = new State();
        State kept = null;
        String tape = "";
        Object[] sheets = new Object[4];

        boolean is(int b) {
            return b >= 0 && b < s.thick.size();
        }

        boolean two(int a, int b) {
            return is(a) && is(b) && a != b;
        }

        boolean meets(int a, int b) {
            if (s.hates[a][b]) {
                return false;
            }
            boolean third = false;
            for (int c = 0; c < 8; c++) {
                third |= c != a && c != b && s.quotes[a][c] && s.quotes[b][c];
            }
            return s.props[a] || s.props[b] || s.quotes[a][b] || s.quotes[b][a] || s.laws[1] == 1 && third;
        }

        int fault(List<Integer> row) {
            int n = row.size();
            for (int p = 0; p < n; p++) {
                boolean last = p == n - 1;
                if (last && (s.laws[0] == 0 || n < 3)) {
                    break;
                }
                if (!meets(row.get(p), row.get((p + 1) % n))) {
                    return p;
                }
            }
            return NONE;
        }

        boolean badSet(int set) {
            for (int b = 0; b < 32; b++) {
                if ((set >>> b & 1) == 1 && !is(b)) {
                    return true;
                }
            }
            return false;
        }

        static List<Integer> members(int set) {
            List<Integer> all = new ArrayList<>();
            for (int b = 0; b < 8; b++) {
                if ((set >> b & 1) == 1) {
                    all.add(b);
                }
            }
            return all;
        }

        /** All rows of so many of a set, in their order. */
        static void orders(int set, int many, List<Integer> begun, List<List<Integer>> into) {
            if (begun.size() == many) {
                into.add(new ArrayList<>(begun));
                return;
            }
            for (int b : members(set)) {
                begun.add(b);
                orders(set & ~(1 << b), many, begun, into);
                begun.remove(begun.size() - 1);
            }
        }

        List<List<Integer>> lawful(int set) {
            List<List<Integer>> all = new ArrayList<>();
            orders(set, Integer.bitCount(set), new ArrayList<>(), all);
            all.removeIf(row -> fault(row) != NONE);
            return all;
        }

        int book(int thick) {
            if (thick < 1 || thick > 9) {
                return BAD;
            }
            if (s.thick.size() == 8) {
                return FULL;
            }
            s.thick.add(thick);
            return s.thick.size() - 1;
        }

        int quote(int a, int b, boolean is) {
            if (!two(a, b)) {
                return BAD;
            }
            int was = s.quotes[a][b] ? 1 : 0;
            s.quotes[a][b] = is;
            return was;
        }

        int hate(int a, int b, boolean is) {
            if (!two(a, b)) {
                return BAD;
            }
            int was = s.hates[a][b] ? 1 : 0;
            s.hates[a][b] = is;
            s.hates[b][a] = is;
            return was;
        }

        int prop(int a, boolean is) {
            if (!is(a)) {
                return BAD;
            }
            int was = s.props[a] ? 1 : 0;
            s.props[a] = is;
            return was;
        }

        int thick(int a, int v) {
            return !is(a) || v < 1 || v > 9 ? BAD : s.thick.set(a, v);
        }

        int rule(int what, int v) {
            if (what < 0 || what > 1 || v < 0 || v > 1) {
                return BAD;
            }
            int was = s.laws[what];
            s.laws[what] = v;
            return was;
        }

        int touch(int a, int b) {
            return !two(a, b) ? BAD : meets(a, b) ? 1 : 0;
        }

        int type(long w, int n) {
            if (n < 1 || n > 8) {
                return BAD;
            }
            String typed = "";
            for (int k = 0; k < n; k++) {
                int c = (int) (w >> 8 * k & 255);
                if (c < 32 || c > 126) {
                    return BAD;
                }
                typed = (char) c + typed;
            }
            if (tape.length() + n > 60) {
                return FULL;
            }
            tape += typed;
            return tape.length();
        }

        /** The signs that can come behind a text of books without blanks that is right so far; '$' is the end. */
        static String canFollow(String text) {
            String[] told = text.split(";", -1);
            String last = told[told.length - 1];
            String onward = told.length < 8 ? ";$" : "$";
            if (last.isEmpty()) {
                return "123456789";
            }
            int colon = last.indexOf(':');
            if (colon < 0) {
                return (last.endsWith("p") ? ":" : "p:") + onward;
            }
            StringBuilder can = new StringBuilder(colon == last.length() - 1 ? "" : onward);
            for (int d = 0; d < 8; d++) {
                if (d != told.length - 1 && last.indexOf('0' + d, colon) < 0) {
                    can.append(d);
                }
            }
            return can.toString();
        }

        int books() {
            String all = tape;
            tape = "";
            String text = "";
            for (int p = 0; p <= all.length(); p++) {
                char c = p == all.length() ? '$' : all.charAt(p);
                if (c == '$' && p < all.length() || c != ' ' && canFollow(text).indexOf(c) < 0) {
                    return -20 - p;
                }
                text += c == ' ' || c == '$' ? "" : "" + c;
            }
            String[] told = text.split(";");
            boolean quoting = false;
            for (int p = 0; p < all.length(); p++) {
                char c = all.charAt(p);
                quoting = c == ':' || quoting && c != ';';
                if (quoting && c >= '0' && c <= '9' && c - '0' >= told.length) {
                    return -20 - p;
                }
            }
            int[] laws = s.laws;
            s = new State();
            s.laws = laws;
            for (int b = 0; b < told.length; b++) {
                s.thick.add(told[b].charAt(0) - '0');
                s.props[b] = told[b].indexOf('p') > 0;
                for (int k = told[b].indexOf(':') + 1; k > 0 && k < told[b].length(); k++) {
                    s.quotes[b][told[b].charAt(k) - '0'] = true;
                }
            }
            return told.length;
        }

        int hall() {
            String all = tape;
            tape = "";
            List<Integer> row = new ArrayList<>();
            for (int p = 0; p < all.length(); p++) {
                char c = all.charAt(p);
                if (c == ' ') {
                    continue;
                }
                if (c < '0' || c > '9' || !is(c - '0') || row.contains(c - '0')) {
                    return -20 - p;
                }
                row.add(c - '0');
            }
            s.hall = row;
            return row.size();
        }

        int at(int p) {
            return p < 0 || p >= s.hall.size() ? BAD : s.hall.get(p);
        }

        int count(int what) {
            int n = s.thick.size();
            int sum = 0;
            for (int a = 0; a < n; a++) {
                for (int b = 0; b < n; b++) {
                    boolean counts = what == 2 && s.quotes[a][b];
                    counts |= what == 3 && a < b && s.hates[a][b];
                    counts |= what == 4 && a < b && meets(a, b);
                    sum += counts ? 1 : 0;
                }
            }
            switch (what) {
                case 0: return n;
                case 1: return s.hall.size();
                case 2: case 3: case 4: return sum;
                case 5: return thickOf(s.hall);
                default: return BAD;
            }
        }

        int thickOf(List<Integer> row) {
            int sum = 0;
            for (int b : row) {
                sum += s.thick.get(b);
            }
            return sum;
        }

        int judged() {
            return fault(s.hall);
        }

        int rows(int set) {
            return badSet(set) ? BAD : lawful(set).size();
        }

        int row(int set, int i, int place) {
            if (badSet(set) || i < 0 || place < 0 || place >= Integer.bitCount(set)) {
                return BAD;
            }
            List<List<Integer>> all = lawful(set);
            return i >= all.size() ? NONE : all.get(i).get(place);
        }

        int parts(List<Integer> rest) {
            int[] part = new int[8];
            for (int b : rest) {
                part[b] = b;
            }
            for (int round = 0; round < 8; round++) {
                for (int a : rest) {
                    for (int b : rest) {
                        if (a != b && meets(a, b)) {
                            part[a] = Math.min(part[a], part[b]);
                        }
                    }
                }
            }
            int parts = 0;
            for (int b : rest) {
                parts += part[b] == b ? 1 : 0;
            }
            return parts;
        }

        int cut(int set) {
            if (badSet(set)) {
                return BAD;
            }
            boolean ring = s.laws[0] == 1 && Integer.bitCount(set) >= 3;
            int best = NONE;
            for (int c = 0; c < 256; c++) {
                if ((c & ~set) != 0 || ring && c == 0) {
                    continue;
                }
                int many = Integer.bitCount(c);
                boolean shows = parts(members(set & ~c)) > (ring ? many : many + 1);
                if (shows && (best == NONE || many < Integer.bitCount(best))) {
                    best = c;
                }
            }
            return best;
        }

        int moved(List<Integer> row, List<Integer> stood) {
            List<Integer> stay = new ArrayList<>(stood);
            stay.retainAll(row);
            int most = 0;
            for (int some = 0; some < 1 << stay.size(); some++) {
                int from = 0;
                boolean inOrder = true;
                for (int k = 0; k < stay.size() && inOrder; k++) {
                    if ((some >> k & 1) == 1) {
                        int where = row.indexOf(stay.get(k));
                        inOrder = where >= from;
                        from = where + 1;
                    }
                }
                most = inOrder ? Math.max(most, Integer.bitCount(some)) : most;
            }
            return stay.size() - most;
        }

        int become(int set) {
            List<Integer> best = null;
            int fewest = 99;
            for (List<Integer> row : lawful(set)) {
                int moved = moved(row, s.hall);
                if (moved < fewest) {
                    fewest = moved;
                    best = row;
                }
            }
            if (best == null) {
                return NONE;
            }
            s.hall = best;
            return fewest;
        }

        int hallSet() {
            int set = 0;
            for (int b : s.hall) {
                set |= 1 << b;
            }
            return set;
        }

        int put(int b) {
            return !is(b) ? BAD : s.hall.contains(b) ? NOT : become(hallSet() | 1 << b);
        }

        int lend(int b) {
            return !is(b) ? BAD : !s.hall.contains(b) ? NOT : become(hallSet() & ~(1 << b));
        }

        int forged(int set, int place) {
            if (badSet(set) || set == 0 || place < -1 || place >= Integer.bitCount(set)) {
                return BAD;
            }
            List<List<Integer>> all = new ArrayList<>();
            int n = Integer.bitCount(set);
            orders(set, n, new ArrayList<>(), all);
            int fewest = 99;
            List<Integer> best = null;
            int pairs = s.laws[0] == 1 && n >= 3 ? n : n - 1;
            for (List<Integer> row : all) {
                int forged = 0;
                for (int p = 0; p < pairs; p++) {
                    int a = row.get(p);
                    int b = row.get((p + 1) % n);
                    forged += s.hates[a][b] ? 1000 : meets(a, b) ? 0 : 1;
                }
                if (forged < fewest) {
                    fewest = forged;
                    best = row;
                }
            }
            return best == null ? NONE : place < 0 ? fewest : best.get(place);
        }

        int apart(int set, int a, int b) {
            if (badSet(set) || !two(a, b) || (set >> a & 1) == 0 || (set >> b & 1) == 0) {
                return BAD;
            }
            int most = NONE;
            for (List<Integer> row : lawful(set)) {
                int between = Math.abs(row.indexOf(a) - row.indexOf(b)) - 1;
                if (s.laws[0] == 1) {
                    between = Math.min(between, row.size() - 2 - between);
                }
                most = Math.max(most, between);
            }
            return most;
        }

        int free(int k) {
            if (k < 1 || k > 8 || k > s.hall.size()) {
                return BAD;
            }
            int many = 0;
            for (int places = 0; places < 1 << s.hall.size(); places++) {
                List<Integer> left = new ArrayList<>();
                for (int p = 0; p < s.hall.size(); p++) {
                    if ((places >> p & 1) == 0) {
                        left.add(s.hall.get(p));
                    }
                }
                many += Integer.bitCount(places) == k && fault(left) == NONE ? 1 : 0;
            }
            return many;
        }

        int burnt(int a, int b, int set, int thick, int k) {
            int n = s.hall.size();
            if (a < 0 || b < a || b >= n || badSet(set) || thick < 1 || thick > 99 || k != -1 && (k < a || k > b)) {
                return BAD;
            }
            int cand = set;
            for (int p = 0; p < n; p++) {
                cand &= p >= a && p <= b ? -1 : ~(1 << s.hall.get(p));
            }
            List<List<Integer>> all = new ArrayList<>();
            orders(cand, b - a + 1, new ArrayList<>(), all);
            all.removeIf(row -> thickOf(row) != thick || !fits(row, a));
            return all.isEmpty() ? NONE : k < 0 ? all.size() : all.get(0).get(k - a);
        }

        boolean fits(List<Integer> row, int a) {
            int n = s.hall.size();
            List<Integer> whole = new ArrayList<>(s.hall);
            for (int p = 0; p < row.size(); p++) {
                whole.set(a + p, row.get(p));
            }
            boolean ring = s.laws[0] == 1 && n >= 3;
            for (int p = a - 1; p < a + row.size(); p++) {
                if ((p < 0 || p == n - 1) && !ring) {
                    continue;
                }
                if (!meets(whole.get((p + n) % n), whole.get((p + 1) % n))) {
                    return false;
                }
            }
            return true;
        }

        int image() {
            kept = s.copied();
            return 1;
        }

        int restore() {
            if (kept == null) {
                return NONE;
            }
            s = kept.copied();
            return 1;
        }

        static int laneOf(Object row) {
            return row instanceof byte[] ? 0 : row instanceof int[] ? 1 : 2;
        }

        static int length(Object row) {
            return java.lang.reflect.Array.getLength(row);
        }

        int taken(int sheet, int lane, int i, int n) {
            if (sheet < 0 || sheet > 3 || lane < 0 || lane > 2) {
                return BAD;
            }
            if (sheets[sheet] == null) {
                return NULL;
            }
            if (laneOf(sheets[sheet]) != lane) {
                return CAST;
            }
            return i < 0 || (long) i + n > length(sheets[sheet]) ? INDEX : 0;
        }

        int walk(int sheet, int lane, int i, int n) {
            if (n < 1 || n > 6) {
                return BAD;
            }
            int refused = taken(sheet, lane, i, n);
            if (refused != 0) {
                return refused;
            }
            // gaps as points on a line: point p is behind the books at places ahead of p
            int size = s.hall.size();
            int way = 0;
            int at = -1;
            for (int k = i; k < i + n; k++) {
                long to = java.lang.reflect.Array.getLong(sheets[sheet], k);
                if (to < 0 || to >= size) {
                    return NOT;
                }
                int place = (int) to;
                if (place != at) {
                    int forth = thickOf(s.hall.subList(Math.min(at + 1, place), place > at ? place + 1 : at));
                    int back = 0;
                    for (int p = 0; p < size; p++) {
                        // the other way round passes all that are not passed, but those at which it begins and ends
                        boolean passed = place > at ? p > at && p < place : p < at && p > place;
                        back += passed || p == at ? 0 : s.thick.get(s.hall.get(p));
                    }
                    way += s.laws[0] == 1 ? Math.min(forth, back) : forth;
                }
                at = place;
            }
            return way;
        }

        int joined(int sheet, int lane, int i, int n) {
            if (n < 1 || n > 8) {
                return BAD;
            }
            int refused = taken(sheet, lane, i, n);
            if (refused != 0) {
                return refused;
            }
            List<Integer> second = new ArrayList<>();
            for (int k = i; k < i + n; k++) {
                long b = java.lang.reflect.Array.getLong(sheets[sheet], k);
                if (b < 0 || b >= s.thick.size() || second.contains((int) b) || s.hall.contains((int) b)) {
                    return NOT;
                }
                second.add((int) b);
            }
            for (int way = 0; way < 4; way++) {
                List<Integer> all = new ArrayList<>(way >= 2 ? turned(s.hall) : s.hall);
                all.addAll(way % 2 == 1 ? turned(second) : second);
                if (fault(all) == NONE) {
                    return way;
                }
            }
            return NONE;
        }

        static List<Integer> turned(List<Integer> row) {
            List<Integer> back = new ArrayList<>();
            for (int b : row) {
                back.add(0, b);
            }
            return back;
        }

        int sheet(int sheet, int lane, int n) {
            if (sheet < 0 || sheet > 3 || lane < 0 || lane > 2 || n > 16) {
                return BAD;
            }
            if (n < 0) {
                return SIZE;
            }
            sheets[sheet] = lane == 0 ? new byte[n] : lane == 1 ? new int[n] : new long[n];
            return n;
        }

        int drop(int sheet) {
            if (sheet < 0 || sheet > 3) {
                return BAD;
            }
            if (sheets[sheet] == null) {
                return NULL;
            }
            int had = length(sheets[sheet]);
            sheets[sheet] = null;
            return had;
        }

        int item(int sheet, int lane, int i, long v) {
            int refused = taken(sheet, lane, i, 1);
            if (refused != 0) {
                return refused;
            }
            switch (lane) {
                case 0: ((byte[]) sheets[sheet])[i] = (byte) v; break;
                case 1: ((int[]) sheets[sheet])[i] = (int) v; break;
                default: ((long[]) sheets[sheet])[i] = v; break;
            }
            return 1;
        }

        int copy(int from, int i, int to, int j, int n) {
            if (from < 0 || from > 3 || to < 0 || to > 3) {
                return BAD;
            }
            if (sheets[from] == null || sheets[to] == null) {
                return NULL;
            }
            if (laneOf(sheets[from]) != laneOf(sheets[to])) {
                return CAST;
            }
            try {
                System.arraycopy(sheets[from], i, sheets[to], j, n);
            } catch (IndexOutOfBoundsException e) {
                return INDEX;
            }
            return n;
        }
    }

    private static final Random RANDOM = new Random(20261118);
    private static int wrong = 0;
    private static int asked = 0;
    private static List<String> told = new ArrayList<>();

    private static int upTo(int most) {
        return RANDOM.nextInt(most + 1);
    }

    private static boolean often(int of) {
        return RANDOM.nextInt(of) != 0;
    }

    /** Mostly 0 .. most, at times beyond. */
    private static int about(int most) {
        return often(20) ? upTo(most) : often(4) ? upTo(most + 6) - 3 : RANDOM.nextInt();
    }

    private static void compare(String call, int got, int want) {
        asked++;
        told.add(call + " = " + got);
        if (got != want) {
            wrong++;
            if (wrong < 5) {
                System.out.println("answered " + got + ", due is " + want + ", behind:");
                System.out.println(String.join("\n", told));
            }
        }
    }

    private static void type(BesideQuotes x, Model m, String text) {
        for (int from = 0; from < text.length(); from += 8) {
            String part = text.substring(from, Math.min(text.length(), from + 8));
            long w = RANDOM.nextLong();
            for (char c : part.toCharArray()) {
                w = w << 8 | c;
            }
            compare("type " + part, x.type(w, part.length()), m.type(w, part.length()));
        }
    }

    private static String spoilt(String text) {
        StringBuilder b = new StringBuilder(text);
        String signs = "0123456789;:p x~   ";
        for (int k = often(3) ? 0 : 1 + upTo(2); k > 0; k--) {
            int where = upTo(b.length());
            char c = signs.charAt(upTo(signs.length() - 1));
            if (where == b.length() || often(2)) {
                b.insert(where, c);
            } else if (often(2)) {
                b.setCharAt(where, c);
            } else {
                b.deleteCharAt(where);
            }
        }
        return b.toString();
    }

    private static String bookText(int many, int dense) {
        StringBuilder b = new StringBuilder();
        for (int k = 0; k < many; k++) {
            b.append(k == 0 ? "" : ";").append(1 + upTo(8)).append(often(8) ? "" : "p");
            String quoted = "";
            for (int o = 0; o < many; o++) {
                quoted += o != k && RANDOM.nextInt(12) < dense ? "" + o : "";
            }
            b.append(quoted.isEmpty() ? "" : ":").append(quoted);
        }
        return b.toString();
    }

    private static String hallText(int many) {
        List<Integer> row = new ArrayList<>();
        for (int k = 0; k < many; k++) {
            row.add(upTo(row.size()), k);
        }
        StringBuilder b = new StringBuilder();
        for (int k = upTo(many); k > 0; k--) {
            b.append(row.get(k - 1));
        }
        return b.toString();
    }

    /** Mostly a book that is there. */
    private static int aBook(Model m) {
        int many = m.s.thick.size();
        return many > 0 && often(25) ? upTo(many - 1) : about(7);
    }

    private static int set(Model m) {
        int many = m.s.thick.size();
        int all = (1 << many) - 1;
        return often(3) ? (RANDOM.nextInt() | RANDOM.nextInt()) & all : often(10) ? all : about(300);
    }

    private static void change(BesideQuotes x, Model m, int kind) {
        int a = aBook(m);
        int b = aBook(m);
        boolean is = often(2);
        switch (kind) {
            case 0: int t = about(9); compare("book " + t, x.book(t), m.book(t)); break;
            case 1: compare("quote " + a + " " + b + " " + is, x.quote(a, b, is), m.quote(a, b, is)); break;
            case 2: is = !often(5); compare("hate " + a + " " + b + " " + is, x.hate(a, b, is), m.hate(a, b, is)); break;
            case 3: is = !often(4); compare("prop " + a + " " + is, x.prop(a, is), m.prop(a, is)); break;
            case 4: int v = about(9); compare("thick " + a + " " + v, x.thick(a, v), m.thick(a, v)); break;
            case 5: int w = about(1); int l = about(1); compare("rule " + w + " " + l, x.rule(w, l), m.rule(w, l)); break;
            case 6:
                type(x, m, spoilt(bookText(1 + upTo(7), upTo(6))));
                compare("books", x.books(), m.books());
                break;
            case 7: case 8:
                type(x, m, spoilt(hallText(m.s.thick.size())));
                compare("hall", x.hall(), m.hall());
                break;
            case 9: int k = about(8); compare("at " + k, x.at(k), m.at(k)); break;
            default: compare("touch " + a + " " + b, x.touch(a, b), m.touch(a, b)); break;
        }
    }

    private static void ask(BesideQuotes x, Model m, int kind) {
        int set = set(m);
        int a = aBook(m);
        int b = aBook(m);
        switch (kind) {
            case 0: compare("judged", x.judged(), m.judged()); break;
            case 1: compare("rows " + set, x.rows(set), m.rows(set)); break;
            case 2:
                int i = often(3) ? upTo(5) : about(2000);
                compare("row " + set + " " + i + " " + a, x.row(set, i, a), m.row(set, i, a));
                break;
            case 3: compare("cut " + set, x.cut(set), m.cut(set)); break;
            case 4: case 5: compare("put " + a, x.put(a), m.put(a)); break;
            case 6: compare("lend " + a, x.lend(a), m.lend(a)); break;
            case 7: a = about(8) - 1; compare("forged " + set + " " + a, x.forged(set, a), m.forged(set, a)); break;
            case 8: compare("apart " + set + " " + a + " " + b, x.apart(set, a, b), m.apart(set, a, b)); break;
            case 9: a = about(8); compare("free " + a, x.free(a), m.free(a)); break;
            default: askBurnt(x, m, set); break;
        }
    }

    private static void askBurnt(BesideQuotes x, Model m, int set) {
        int size = Math.max(1, m.s.hall.size());
        int a = often(20) ? upTo(size - 1) : about(7);
        int b = often(20) && a >= 0 && a < size ? a + upTo(size - 1 - a) : about(7);
        int thick = often(3) && a >= 0 && b >= a && b < m.s.hall.size() ? m.thickOf(m.s.hall.subList(a, b + 1)) : about(99);
        int k = often(2) ? -1 : often(10) && b >= a && b - a < 8 ? a + upTo(b - a) : about(8);
        compare("burnt " + a + " " + b + " " + set + " " + thick + " " + k, x.burnt(a, b, set, thick, k), m.burnt(a, b, set, thick, k));
    }

    private static void sheets(BesideQuotes x, Model m, int kind) {
        int sheet = about(3);
        boolean right = often(10) && sheet >= 0 && sheet < 4 && m.sheets[sheet] != null;
        int lane = right ? Model.laneOf(m.sheets[sheet]) : about(2);
        int i = often(4) ? upTo(4) : about(16);
        int n = often(5) ? 1 + upTo(2) : about(9);
        long v = often(6) ? upTo(7) : RANDOM.nextLong() >> upTo(63);
        String told = sheet + " " + lane + " " + i + " " + n;
        switch (kind) {
            case 0: case 1: compare("walk " + told, x.walk(sheet, lane, i, n), m.walk(sheet, lane, i, n)); break;
            case 2: case 3: compare("joined " + told, x.joined(sheet, lane, i, n), m.joined(sheet, lane, i, n)); break;
            case 4:
                lane = about(2);
                n = often(2) ? 8 : about(16);
                compare("sheet " + sheet + " " + lane + " " + n, x.sheet(sheet, lane, n), m.sheet(sheet, lane, n));
                break;
            case 5:
                if (!often(4)) {
                    compare("drop " + sheet, x.drop(sheet), m.drop(sheet));
                }
                fillSheet(x, m, upTo(3));
                break;
            case 6:
                int to = about(3);
                int j = about(8);
                compare("copy " + told + " " + to + " " + j, x.copy(sheet, i, to, j, n), m.copy(sheet, i, to, j, n));
                break;
            default: compare("item " + told + " " + v, x.item(sheet, lane, i, v), m.item(sheet, lane, i, v)); break;
        }
    }

    /** A row of all books that do not stand, and those that do behind them: for joined, and for walk. */
    private static void fillSheet(BesideQuotes x, Model m, int sheet) {
        int lane = upTo(2);
        compare("sheet " + sheet + " " + lane + " 10", x.sheet(sheet, lane, 10), m.sheet(sheet, lane, 10));
        List<Integer> all = new ArrayList<>();
        for (int b = 0; b < 10; b++) {
            all.add(m.s.hall.contains(b) || !m.is(b) ? all.size() : upTo(all.size()), b);
        }
        for (int i = 0; i < 10; i++) {
            int b = all.get(i);
            compare("item " + sheet + " " + lane + " " + i + " " + b, x.item(sheet, lane, i, b), m.item(sheet, lane, i, b));
        }
    }

    private static void probe(BesideQuotes x, Model m) {
        for (int what = 0; what < 6; what++) {
            compare("count " + what, x.count(what), m.count(what));
        }
        int p = upTo(8);
        compare("at " + p, x.at(p), m.at(p));
    }

    public static void main(String[] args) {
        for (int run = 0; run < RUNS; run++) {
            told.clear();
            BesideQuotes x = new BesideQuotes();
            Model m = new Model();
            int most = run % 6 == 0 ? 7 : 5;
            type(x, m, bookText(1 + most - upTo(upTo(most)), upTo(5)));
            compare("books", x.books(), m.books());
            type(x, m, hallText(m.s.thick.size()));
            compare("hall", x.hall(), m.hall());
            for (int sheet = 0; sheet < 3; sheet++) {
                fillSheet(x, m, sheet);
            }
            int calls = run % 6 == 0 ? CALLS / 4 : CALLS;
            while (told.size() < calls) {
                switch (upTo(6)) {
                    case 0: case 1: change(x, m, upTo(often(3) && most < 7 ? 5 : 10)); break;
                    case 2: case 3: case 4: ask(x, m, upTo(11)); break;
                    case 5: sheets(x, m, upTo(9)); break;
                    default:
                        if (often(3)) {
                            probe(x, m);
                        } else if (often(2)) {
                            compare("image", x.image(), m.image());
                        } else {
                            compare("restore", x.restore(), m.restore());
                        }
                        break;
                }
            }
        }
        System.out.println(asked + " answers, " + wrong + " not as due");
        if (wrong != 0) {
            System.exit(1);
        }
    }
}
