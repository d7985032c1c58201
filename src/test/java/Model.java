import java.util.ArrayDeque;
import java.util.ArrayList;
import java.util.Arrays;
import java.util.Collections;
import java.util.Comparator;
import java.util.Deque;
import java.util.HashSet;
import java.util.LinkedList;
import java.util.List;
import java.util.Set;
import java.util.TreeSet;
import java.util.regex.Matcher;
import java.util.regex.Pattern;

/**
 * The document once more, as near to its words as can be and without a thought for cost:
 * what it answers is compared with what the program answers.
 */
final class Model {
    private static final int NONE = -1;
    private static final Pattern TOKEN = Pattern.compile("[a-zA-Z]+|[0-9]+|[^ \n]", Pattern.DOTALL);
    private static final List<Set<String>> KEYWORDS = List.of(
        Set.of("sets", "breaks", "dares", "when", "or", "and", "not", "length", "least", "rest",
            "daring", "said", "done", "waits", "blanks", "day"),
        Set.of("from"), Set.of("word"), Set.of("on", "cast", "melt", "dare", "calm"));

    private interface Sum { int of(Facts f); }
    private interface So { boolean is(Facts f); }
    private record Line(String what, Sum value, So when) { }
    private record Job(int day, String word) { }
    private record Change(int day, String deed, int letter, int n) { }
    private record TrayLine(int day, int what, int which, int much) { }
    private record Token(String kind, String text, int place) { }

    private static final class Fault extends Exception {
        private static final long serialVersionUID = 1;
        final int kind;
        final int place;
        Fault(int kind, int place) {
            this.kind = kind;
            this.place = place;
        }
    }

    private static final class Facts {
        int length, least, rest, daring, said, done, waits, blanks, day;
    }

    /** All that THE IMAGE holds; it is copied whole for each undo, image and thought. */
    private static final class All {
        int state;
        int[] sorts = new int[10];
        int[] broken = new int[10];
        int daring = 5, said, done, blanks, day;
        List<Line> law = List.of();
        List<Job> jobs = List.of();
        List<String> book = List.of();
        List<Change> changes = List.of();
        Set<Integer> printed = new TreeSet<>();
        List<TrayLine> tray = new ArrayList<>();
        int[][] square = new int[5][5];
        String row = "";
        List<Integer> pattern = new ArrayList<>();
        int[] values = new int[10];

        All copy() {
            All c = new All();
            c.state = state;
            c.sorts = sorts.clone();
            c.broken = broken.clone();
            c.daring = daring;
            c.said = said;
            c.done = done;
            c.blanks = blanks;
            c.day = day;
            c.law = law;
            c.jobs = jobs;
            c.book = book;
            c.changes = changes;
            c.printed = new TreeSet<>(printed);
            c.tray = new ArrayList<>(tray);
            for (int i = 0; i < 5; i++) {
                c.square[i] = square[i].clone();
            }
            c.row = row;
            c.pattern = new ArrayList<>(pattern);
            c.values = values.clone();
            return c;
        }
    }

    private All all = new All();
    private All image;
    private final Deque<All> undo = new ArrayDeque<>();
    private String tape = "";
    private int faultKind;
    private int faultPlace = NONE;

    // ---- told and done

    int state(int v) {
        int was = all.state;
        all.state = v;
        undo.clear();
        return was;
    }

    boolean set(int what, int who, int v) {
        boolean can = what == 0 && who >= 0 && who <= 9 && v >= 0 && v <= 99 || what == 1 && v >= 0 && v <= 9;
        if (can) {
            if (what == 0) {
                all.sorts[who] = v;
            } else {
                all.daring = v;
            }
            undo.clear();
        }
        return can;
    }

    private void remember() {
        undo.push(all.copy());
        if (undo.size() > 6) {
            undo.removeLast();
        }
    }

    boolean act(int what, int who) {
        boolean letter = who >= 0 && who <= 9;
        boolean can;
        switch (what) {
            case 0: can = letter && all.sorts[who] < 99; break;
            case 1: can = letter && all.sorts[who] > 0; break;
            case 2: can = who >= 0 && who < all.jobs.size() && !all.printed.contains(who)
                && lacks(all.jobs.get(who).word, all.sorts) == 0; break;
            case 3: can = all.daring < 9; break;
            default: can = false;
        }
        if (!can) {
            return false;
        }
        remember();
        switch (what) {
            case 0: all.sorts[who]++; break;
            case 1: all.sorts[who]--; break;
            case 2: {
                int breaks = setJob(all, who, all.sorts.clone(), true);
                breakSorts(all, who, breaks);
                break;
            }
            default: all.daring++;
        }
        return true;
    }

    int days(int n) {
        if (n < 1 || n > 60 || all.day + n > 9999) {
            return NONE;
        }
        int before = all.printed.size();
        for (int i = 0; i < n; i++) {
            remember();
            day(all, false);
        }
        return all.printed.size() - before;
    }

    private static int lacks(String word, int[] boxes) {
        int lacks = 0;
        for (int l = 0; l < 10; l++) {
            lacks += Math.max(0, often(word, l) - boxes[l]);
        }
        return lacks;
    }

    private static int often(String word, int l) {
        return (int) word.chars().filter(c -> c == 'a' + l).count();
    }

    private static void out(String word, int[] boxes) {
        for (char c : word.toCharArray()) {
            boxes[c - 'a']--;
        }
    }

    private static int draw(All a, int m) {
        a.state = 1664525 * a.state + 1013904223;
        return (int) ((a.state & 0xffffffffL) / 256 % m);
    }

    private static void line(All a, boolean real, int what, int which, int much) {
        if (real && a.tray.size() < 150) {
            a.tray.add(new TrayLine(a.day, what, which, much));
        }
    }

    private static int setJob(All a, int i, int[] boxes, boolean real) {
        out(a.jobs.get(i).word, boxes);
        a.printed.add(i);
        a.done++;
        int breaks = law(a, "breaks", a.jobs.get(i).word, boxes);
        line(a, real, 0, i, breaks);
        return breaks;
    }

    private static void breakSorts(All a, int i, int breaks) {
        for (char c : a.jobs.get(i).word.toCharArray()) {
            int n = a.sorts[c - 'a'] < breaks ? a.sorts[c - 'a'] : breaks;
            a.sorts[c - 'a'] -= n;
            a.broken[c - 'a'] += n;
        }
    }

    private static boolean comes(All a, int chance, boolean thought) {
        return thought ? chance >= 500 : chance > 0 && draw(a, 1000) < chance;
    }

    private static void day(All a, boolean thought) {
        for (Change c : a.changes) {
            if (c.day == a.day) {
                switch (c.deed) {
                    case "cast": a.sorts[c.letter] = Math.min(99, a.sorts[c.letter] + c.n); break;
                    case "melt": a.sorts[c.letter] = Math.max(0, a.sorts[c.letter] - c.n); break;
                    case "dare": a.daring = c.n; break;
                    default: a.daring = 0;
                }
            }
        }
        int[] boxes = a.sorts.clone();
        List<int[]> set = new ArrayList<>();
        for (int i = 0; i < a.jobs.size(); i++) {
            Job job = a.jobs.get(i);
            if (a.printed.contains(i) || job.day > a.day) {
                continue;
            }
            if (lacks(job.word, boxes) > 0) {
                line(a, !thought, 1, i, lacks(job.word, boxes));
            } else if (comes(a, law(a, "sets", job.word, boxes), thought)) {
                set.add(new int[] {i, setJob(a, i, boxes, !thought)});
            }
        }
        int below = 0;
        for (int i = 0; i < a.book.size(); i++) {
            String word = a.book.get(i);
            if (lacks(word, boxes) == 0 && comes(a, law(a, "dares", word, boxes), thought)) {
                out(word, boxes);
                a.said++;
                below++;
                line(a, !thought, 2, i, word.length());
            }
        }
        if (below == 0 && !a.book.isEmpty()) {
            a.blanks++;
            line(a, !thought, 3, NONE, a.blanks);
        }
        for (int[] one : set) {
            breakSorts(a, one[0], one[1]);
        }
        a.day++;
    }

    private static int law(All a, String what, String word, int[] boxes) {
        Facts f = new Facts();
        f.length = word.length();
        f.least = word.chars().map(c -> boxes[c - 'a']).min().getAsInt();
        f.rest = Arrays.stream(boxes).sum();
        f.daring = a.daring;
        f.said = a.said;
        f.done = a.done;
        f.waits = a.jobs.size() - a.printed.size();
        f.blanks = a.blanks;
        f.day = a.day;
        for (Line line : a.law) {
            if (line.what.equals(what) && line.when.is(f)) {
                int v = line.value.of(f);
                int most = what.equals("breaks") ? 9 : 1000;
                return v < 0 ? 0 : v > most ? most : v;
            }
        }
        return what.equals("sets") ? 1000 : what.equals("breaks") ? 0 : 100 * a.daring;
    }

    // ---- texts

    int feed(int a, int b, int c, int d, int e) {
        if (tape.length() + 20 > 400) {
            return NONE;
        }
        for (int n : new int[] {a, b, c, d, e}) {
            tape += "" + (char) (n >>> 24) + (char) (n >>> 16 & 255) + (char) (n >>> 8 & 255) + (char) (n & 255);
        }
        return tape.length();
    }

    boolean end(int n) {
        if (n < 0 || n > tape.length()) {
            return false;
        }
        tape = tape.substring(0, n);
        return true;
    }

    private List<Token> tokens;
    private int at;

    int text(int k) {
        String told = tape;
        tape = "";
        faultKind = 0;
        faultPlace = NONE;
        if (k < 0 || k > 3) {
            return NONE;
        }
        try {
            tokens = tokens(told, KEYWORDS.get(k));
            at = 0;
            int lines;
            switch (k) {
                case 0: {
                    List<Line> law = readLaw();
                    all.law = law;
                    return law.size();
                }
                case 1: {
                    List<Job> jobs = readJobs();
                    all.jobs = jobs;
                    all.printed.clear();
                    lines = jobs.size();
                    break;
                }
                case 2: {
                    List<String> book = readBook();
                    all.book = book;
                    lines = book.size();
                    break;
                }
                default: {
                    List<Change> changes = readChanges();
                    all.changes = changes;
                    lines = changes.size();
                }
            }
            undo.clear();
            return lines;
        } catch (Fault f) {
            faultKind = f.kind;
            faultPlace = f.place;
            return NONE;
        }
    }

    private static List<Token> tokens(String text, Set<String> keywords) {
        List<Token> list = new ArrayList<>();
        Matcher m = TOKEN.matcher(text);
        while (m.find()) {
            String t = m.group();
            String kind;
            if (t.matches("[a-zA-Z]+")) {
                kind = keywords.contains(t) ? t : "WORD";
            } else if (t.matches("[0-9]+")) {
                kind = t.length() <= 4 ? "NUMBER" : "?";
            } else {
                kind = "; + - * / ( ) < = >".contains(t) ? t : "?";
            }
            list.add(new Token(kind, t, m.start()));
        }
        list.add(new Token("END", "", text.length()));
        return list;
    }

    private boolean next(String... kinds) {
        return Arrays.asList(kinds).contains(tokens.get(at).kind);
    }

    private Fault fault(int kind) {
        return new Fault(kind, tokens.get(at).place);
    }

    private Token take(String... kinds) throws Fault {
        if (!next(kinds)) {
            throw fault(1);
        }
        return tokens.get(at++);
    }

    private Token open(int lines, String... kinds) throws Fault {
        if (next(kinds) && lines == 16) {
            throw fault(3);
        }
        return take(kinds);
    }

    private int number(int least, int most) throws Fault {
        if (next("NUMBER")) {
            int n = Integer.parseInt(tokens.get(at).text);
            if (n < least || n > most) {
                throw fault(2);
            }
        }
        return Integer.parseInt(take("NUMBER").text);
    }

    private String word(int longest) throws Fault {
        if (next("WORD") && !tokens.get(at).text.matches("[a-j]{1," + longest + "}")) {
            throw fault(2);
        }
        return take("WORD").text;
    }

    private List<Job> readJobs() throws Fault {
        List<Job> jobs = new ArrayList<>();
        while (!next("END")) {
            open(jobs.size(), "from");
            jobs.add(new Job(number(0, 999), word(8)));
            take(";");
        }
        return jobs;
    }

    private List<String> readBook() throws Fault {
        List<String> book = new ArrayList<>();
        while (!next("END")) {
            open(book.size(), "word");
            book.add(word(8));
            take(";");
        }
        return book;
    }

    private List<Change> readChanges() throws Fault {
        List<Change> changes = new ArrayList<>();
        while (!next("END")) {
            open(changes.size(), "on");
            int day = number(0, 999);
            String deed = take("cast", "melt", "dare", "calm").kind;
            int letter = deed.equals("cast") || deed.equals("melt") ? word(1).charAt(0) - 'a' : 0;
            int n = deed.equals("calm") ? 0 : number(1, deed.equals("dare") ? 9 : 50);
            changes.add(new Change(day, deed, letter, n));
            take(";");
        }
        return changes;
    }

    private List<Line> readLaw() throws Fault {
        List<Line> law = new ArrayList<>();
        while (!next("END")) {
            String what = open(law.size(), "sets", "breaks", "dares").kind;
            Sum value = readE();
            So when = f -> true;
            if (next("when")) {
                at++;
                when = readB(0);
            }
            take(";");
            law.add(new Line(what, value, when));
        }
        return law;
    }

    private So readB(int open) throws Fault {
        So b = readA(open);
        while (next("or")) {
            at++;
            So left = b;
            So right = readA(open);
            b = f -> left.is(f) || right.is(f);
        }
        return b;
    }

    private So readA(int open) throws Fault {
        So a = readC(open);
        while (next("and")) {
            at++;
            So left = a;
            So right = readC(open);
            a = f -> left.is(f) && right.is(f);
        }
        return a;
    }

    private So readC(int open) throws Fault {
        if (next("not", "(")) {
            if (open == 8) {
                throw fault(3);
            }
            if (take("not", "(").kind.equals("not")) {
                So c = readC(open + 1);
                return f -> !c.is(f);
            }
            So b = readB(open + 1);
            take(")");
            return b;
        }
        Sum left = readE();
        String sign = take("<", "=", ">").kind;
        Sum right = readE();
        switch (sign) {
            case "<": return f -> left.of(f) < right.of(f);
            case "=": return f -> left.of(f) == right.of(f);
            default: return f -> left.of(f) > right.of(f);
        }
    }

    private Sum readE() throws Fault {
        Sum e = readT();
        while (next("+", "-")) {
            Sum left = e;
            boolean plus = take("+", "-").kind.equals("+");
            Sum right = readT();
            e = plus ? f -> left.of(f) + right.of(f) : f -> left.of(f) - right.of(f);
        }
        return e;
    }

    private Sum readT() throws Fault {
        Sum t = readU();
        while (next("*", "/")) {
            Sum left = t;
            if (take("*", "/").kind.equals("*")) {
                Sum right = readU();
                t = f -> left.of(f) * right.of(f);
            } else {
                int n = number(1, 9999);
                t = f -> left.of(f) / n;
            }
        }
        return t;
    }

    private Sum readU() throws Fault {
        if (next("NUMBER")) {
            int n = number(0, 9999);
            return f -> n;
        }
        switch (take("length", "least", "rest", "daring", "said", "done", "waits", "blanks", "day").kind) {
            case "length": return f -> f.length;
            case "least": return f -> f.least;
            case "rest": return f -> f.rest;
            case "daring": return f -> f.daring;
            case "said": return f -> f.said;
            case "done": return f -> f.done;
            case "waits": return f -> f.waits;
            case "blanks": return f -> f.blanks;
            default: return f -> f.day;
        }
    }

    int fault(int what, boolean asked) {
        return what == 0 ? faultKind : what == 1 ? faultPlace : NONE;
    }

    // ---- asked

    private int inJobsNotPrinted(int l) {
        int n = 0;
        for (int i = 0; i < all.jobs.size(); i++) {
            n += all.printed.contains(i) ? 0 : often(all.jobs.get(i).word, l);
        }
        return n;
    }

    int of(int l, int what) {
        if (l < 0 || l > 9) {
            return NONE;
        }
        switch (what) {
            case 0: return all.sorts[l];
            case 1: return all.broken[l];
            case 2: return Math.max(all.sorts[l] - inJobsNotPrinted(l), 0);
            case 3: return inJobsNotPrinted(l);
            case 4: return all.book.stream().mapToInt(w -> often(w, l)).sum();
            default: return NONE;
        }
    }

    private static int letterOf(String word, int k) {
        return k < word.length() ? word.charAt(k) - 'a' : NONE;
    }

    int job(int i, int what) {
        if (i < 0 || i >= all.jobs.size()) {
            return -2;
        }
        Job job = all.jobs.get(i);
        switch (what) {
            case 0: return job.day;
            case 1: return all.printed.contains(i) ? 1 : 0;
            case 2: return job.word.length();
            case 3: return law(all, "sets", job.word, all.sorts);
            case 4: return law(all, "breaks", job.word, all.sorts);
            case 5: return lacks(job.word, all.sorts);
            default: return what >= 10 && what <= 17 ? letterOf(job.word, what - 10) : -2;
        }
    }

    int devils(int i, int what) {
        if (i < 0 || i >= all.book.size()) {
            return -2;
        }
        String word = all.book.get(i);
        switch (what) {
            case 0: return word.length();
            case 1: return law(all, "dares", word, all.sorts);
            case 2: return lacks(word, all.sorts) == 0 ? 1 : 0;
            default: return what >= 10 && what <= 17 ? letterOf(word, what - 10) : -2;
        }
    }

    int tray(int i, int what) {
        if (i < 0 || i >= all.tray.size()) {
            return -2;
        }
        TrayLine t = all.tray.get(i);
        switch (what) {
            case 0: return t.day;
            case 1: return t.what;
            case 2: return t.which;
            case 3: return t.much;
            default: return -2;
        }
    }

    int goes(int n, int what) {
        if (n < 1 || n > 60) {
            return NONE;
        }
        All then = all.copy();
        for (int i = 0; i < n; i++) {
            day(then, true);
        }
        switch (what) {
            case 0: return then.done;
            case 1: return then.said;
            case 2: return Arrays.stream(then.sorts).sum();
            case 3: return then.blanks;
            default: return NONE;
        }
    }

    int out() {
        All then = all.copy();
        for (int i = 0; i <= 60; i++) {
            if (then.printed.size() == then.jobs.size()) {
                return i;
            }
            day(then, true);
        }
        return NONE;
    }

    // ---- for thought

    boolean place(int x, int y, int l) {
        if (x < 0 || x > 4 || y < 0 || y > 4 || l < 0 || l > 9) {
            return false;
        }
        all.square[x][y] = l;
        return true;
    }

    int letter(int l) {
        if (l == NONE) {
            all.row = "";
        } else if (l < 0 || l > 9 || all.row.length() == 12) {
            return NONE;
        } else {
            all.row += l;
        }
        return all.row.length();
    }

    int square() {
        int n = all.row.length();
        if (n == 0 || n > 5) {
            return 0;
        }
        int ways = 0;
        for (int x = 0; x < 5; x++) {
            for (int y = 0; y < 5; y++) {
                Set<String> seen = new HashSet<>();
                for (int[] d : new int[][] {{1, 0}, {1, 1}, {0, 1}, {-1, 1}, {-1, 0}, {-1, -1}, {0, -1}, {1, -1}}) {
                    StringBuilder read = new StringBuilder();
                    StringBuilder where = new StringBuilder();
                    for (int k = 0; k < n; k++) {
                        int u = x + k * d[0];
                        int v = y + k * d[1];
                        if (u >= 0 && u < 5 && v >= 0 && v < 5) {
                            read.append(all.square[u][v]);
                            where.append(u).append(v);
                        }
                    }
                    if (read.toString().equals(all.row)) {
                        seen.add(where.toString());
                    }
                }
                ways += seen.size();
            }
        }
        return ways;
    }

    int numbers() {
        return numbers(all.row);
    }

    private static int numbers(String digits) {
        if (digits.isEmpty()) {
            return 1;
        }
        int ways = 0;
        for (int n = 1; n <= 26; n++) {
            if (digits.startsWith("" + n)) {
                ways += numbers(digits.substring(("" + n).length()));
            }
        }
        return ways;
    }

    int sign(int v) {
        if (v == NONE) {
            all.pattern.clear();
        } else if (v < 0 || v > 11 || all.pattern.size() == 8) {
            return NONE;
        } else {
            all.pattern.add(v);
        }
        return all.pattern.size();
    }

    int pattern() {
        StringBuilder regex = new StringBuilder();
        for (int v : all.pattern) {
            regex.append(v == 10 ? "." : v == 11 ? ".*" : "" + v);
        }
        return all.row.matches(regex.toString()) ? 1 : 0;
    }

    int turned(int i) {
        String row = all.row;
        List<String> turns = new ArrayList<>();
        for (int k = 0; k < row.length(); k++) {
            turns.add(row.substring(k) + row.substring(0, k));
        }
        Collections.sort(turns);
        if (i == NONE) {
            return turns.indexOf(row);
        }
        return i < 0 || i >= turns.size() ? NONE : turns.get(i).charAt(row.length() - 1) - '0';
    }

    int front(int i) {
        if (i < 0 || i >= all.row.length()) {
            return NONE;
        }
        LinkedList<Character> shelf = new LinkedList<>();
        for (char c = '0'; c <= '9'; c++) {
            shelf.add(c);
        }
        int place = NONE;
        for (char c : all.row.substring(0, i + 1).toCharArray()) {
            place = shelf.indexOf(c);
            shelf.remove(place);
            shelf.addFirst(c);
        }
        return place;
    }

    int row(int what) {
        String row = all.row;
        int n = row.length();
        switch (what) {
            case 0: {
                Set<String> pieces = new HashSet<>();
                for (int i = 0; i < n; i++) {
                    for (int j = i + 1; j <= n; j++) {
                        pieces.add(row.substring(i, j));
                    }
                }
                return pieces.size();
            }
            case 1: {
                int best = 0;
                for (int k = 1; k < n; k++) {
                    best = row.endsWith(row.substring(0, k)) ? k : best;
                }
                return best;
            }
            case 2: return mirrors(row);
            case 3: {
                int heads = 0;
                for (String left = row; !left.isEmpty(); heads++) {
                    int longest = 0;
                    for (int k = 1; k <= left.length(); k++) {
                        longest = isHead(left.substring(0, k)) ? k : longest;
                    }
                    left = left.substring(longest);
                }
                return heads;
            }
            default: return NONE;
        }
    }

    private static boolean isHead(String s) {
        for (int k = 1; k < s.length(); k++) {
            if (s.compareTo(s.substring(k)) >= 0) {
                return false;
            }
        }
        return true;
    }

    private static int mirrors(String s) {
        if (s.isEmpty()) {
            return 0;
        }
        int best = s.length();
        for (int k = 1; k <= s.length(); k++) {
            String piece = s.substring(0, k);
            if (new StringBuilder(piece).reverse().toString().equals(piece)) {
                best = Math.min(best, 1 + mirrors(s.substring(k)));
            }
        }
        return best;
    }

    /** The code word of four bits: the only one whose three sums are even. */
    private static int code(int four) {
        for (int s = 0; s < 128; s++) {
            String b = Integer.toBinaryString(128 + s).substring(1);
            String d = Integer.toBinaryString(16 + four).substring(1);
            boolean holds = b.charAt(2) == d.charAt(0) && b.charAt(4) == d.charAt(1)
                && b.charAt(5) == d.charAt(2) && b.charAt(6) == d.charAt(3)
                && (b.charAt(0) + b.charAt(2) + b.charAt(4) + b.charAt(6)) % 2 == 0
                && (b.charAt(1) + b.charAt(2) + b.charAt(5) + b.charAt(6)) % 2 == 0
                && (b.charAt(3) + b.charAt(4) + b.charAt(5) + b.charAt(6)) % 2 == 0;
            if (holds) {
                return s;
            }
        }
        return NONE;
    }

    int seven(int w, int what) {
        if (what == 0) {
            return w < 0 || w > 15 ? NONE : code(w);
        }
        if (what != 1 && what != 2 || w < 0 || w > 127) {
            return NONE;
        }
        for (int four = 0; four < 16; four++) {
            int unlike = code(four) ^ w;
            if (Integer.bitCount(unlike) <= 1) {
                return what == 1 ? four : unlike == 0 ? 0 : 7 - Integer.numberOfTrailingZeros(unlike);
            }
        }
        return NONE;
    }

    int over(int v, int p) {
        if (v < 0 || v > 1048575 || p < 2 || p > 255) {
            return NONE;
        }
        String divisor = Integer.toBinaryString(p);
        StringBuilder row = new StringBuilder(Integer.toBinaryString(v)).append("0".repeat(divisor.length() - 1));
        while (row.length() >= divisor.length()) {
            if (row.charAt(0) == '1') {
                for (int k = 0; k < divisor.length(); k++) {
                    row.setCharAt(k, row.charAt(k) == divisor.charAt(k) ? '0' : '1');
                }
            }
            row.deleteCharAt(0);
        }
        return Integer.parseInt("0" + row, 2);
    }

    static String ring(int n) {
        List<String> heads = new ArrayList<>();
        for (int size = 1; size <= n; size++) {
            for (int b = 0; b < 1 << size && n % size == 0; b++) {
                String bits = Integer.toBinaryString(1 << size | b).substring(1);
                if (isHead(bits)) {
                    heads.add(bits);
                }
            }
        }
        heads.sort(Comparator.naturalOrder());
        return String.join("", heads);
    }

    int ring(int n, int i, int what) {
        if (n < 1 || n > 8 || i < 0 || what != 0 && what != 1) {
            return NONE;
        }
        String ring = ring(n);
        if (what == 0) {
            return i < ring.length() ? ring.charAt(i) - '0' : NONE;
        }
        return i <= ring.length() ? (int) ring.substring(0, i).chars().filter(c -> c == '1').count() : NONE;
    }

    int columns(int key, int i) {
        String digits = "" + key;
        if (!digits.matches("1[0-5]{1,6}")) {
            return NONE;
        }
        digits = digits.substring(1);
        int k = digits.length();
        StringBuilder out = new StringBuilder();
        for (int column = 0; column < k; column++) {
            if (digits.indexOf('0' + column) < 0) {
                return NONE;
            }
        }
        for (char c : digits.toCharArray()) {
            for (int at = 0; at < all.row.length(); at++) {
                if (at % k == c - '0') {
                    out.append(all.row.charAt(at));
                }
            }
        }
        return i < 0 || i >= out.length() ? NONE : out.charAt(i) - '0';
    }

    boolean value(int l, int v) {
        if (l < 0 || l > 9 || v < 0 || v > 20) {
            return false;
        }
        all.values[l] = v;
        return true;
    }

    private int sum(String letters) {
        return letters.chars().map(c -> all.values[c - '0']).sum();
    }

    int values(int what) {
        String row = all.row;
        if (what == 0) {
            return sum(row);
        }
        if (what == 1) {
            Set<Integer> sums = new HashSet<>();
            for (int k = 0; k <= row.length(); k++) {
                sums.add(sum(row.substring(0, k)));
            }
            return sums.size();
        }
        if (what < 100 || what > 112) {
            return NONE;
        }
        int best = 0;
        for (int from = 0; from <= row.length(); from++) {
            for (int to = from; to <= row.length() && to - from <= what - 100; to++) {
                best = Math.max(best, sum(row.substring(from, to)));
            }
        }
        return best;
    }

    int game(int beginning) {
        String b = "" + beginning;
        if (!b.matches("1[0-9]{0,3}")) {
            return NONE;
        }
        StringBuilder letters = new StringBuilder();
        for (char c : b.substring(1).toCharArray()) {
            letters.append((char) (c - '0' + 'a'));
        }
        List<String> words = new ArrayList<>();
        for (String w : all.book) {
            if (w.length() <= 4) {
                words.add(w);
            }
        }
        String lie = letters.toString();
        boolean begins = words.stream().anyMatch(w -> w.startsWith(lie));
        return begins && !words.contains(lie) ? winner(words, lie) : NONE;
    }

    private static int winner(List<String> words, String lie) {
        for (char c = 'a'; c <= 'j'; c++) {
            String then = lie + c;
            if (words.stream().anyMatch(w -> w.startsWith(then)) && !words.contains(then)
                && winner(words, then) == NONE) {
                return c - 'a';
            }
        }
        return NONE;
    }

    boolean undo() {
        if (undo.isEmpty()) {
            return false;
        }
        All before = undo.pop();
        // what is told for thought, and THE LAW, does not go back
        before.law = all.law;
        before.square = all.square;
        before.row = all.row;
        before.pattern = all.pattern;
        before.values = all.values;
        all = before;
        return true;
    }

    boolean image(boolean taken) {
        if (taken) {
            image = all.copy();
            return true;
        }
        if (image == null) {
            return false;
        }
        all = image.copy();
        undo.clear();
        return true;
    }

    int look(int what) {
        switch (what) {
            case 0: return Arrays.stream(all.sorts).sum();
            case 1: return all.jobs.size();
            case 2: return all.printed.stream().mapToInt(i -> 1 << i).sum();
            case 3: return all.book.size();
            case 4: return all.daring;
            case 5: return all.said;
            case 6: return all.done;
            case 7: return all.blanks;
            case 8: return all.day;
            case 9: return all.tray.size();
            case 10: return all.state;
            case 11: return all.law.size();
            case 12: return all.changes.size();
            case 13: return undo.size();
            default: return -100000;
        }
    }
}
