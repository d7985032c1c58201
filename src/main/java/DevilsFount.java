/** A printer's shop, and the devil who composes below out of what is left in the boxes. */
public final class DevilsFount {
    public static final int NONE = -1;

    /** What is answered where NONE itself can be an answer. */
    private static final int NO_SUCH = NONE - 1;
    private static final int NO_LOOK = NONE - 99999;
    private static final int LETTERS = 10;
    private static final int MOST_SORTS = 99;
    private static final int MOST_DARING = 9;
    private static final int MOST_LINES = 16;
    private static final int LONGEST_WORD = 8;
    private static final int MOST_DAYS = 60;
    private static final int LAST_DAY = 9999;

    private final Reader reader;
    private final Law draftLaw;
    private final Words draftWords;
    private final Changes draftChanges;
    private final Press press;
    private final Shop shop;
    private final Shop picture;
    private boolean pictured;
    private final Past past;
    private final Ring rings;

    public DevilsFount() {
        reader = new Reader();
        draftLaw = new Law();
        draftWords = new Words();
        draftChanges = new Changes();
        press = new Press();
        shop = press.shop;
        picture = new Shop();
        pictured = false;
        past = new Past();
        rings = new Ring();
    }

    public int state(int v) {
        int before = shop.standing.state;
        shop.standing.state = v;
        past.forget();
        return before;
    }

    public boolean set(int what, int who, int v) {
        if (what == 0 && isLetter(who) && v >= 0 && v <= MOST_SORTS) {
            shop.standing.sorts[who] = v;
        } else if (what == 1 && v >= 0 && v <= MOST_DARING) {
            shop.standing.daring = v;
        } else {
            return false;
        }
        past.forget();
        return true;
    }

    public boolean act(int what, int who) {
        if (!canAct(what, who)) {
            return false;
        }
        past.keep(shop.standing);
        switch (what) {
            case 0:
                shop.standing.sorts[who]++;
                break;
            case 1:
                shop.standing.sorts[who]--;
                break;
            case 2:
                press.printByHand(who);
                break;
            default:
                shop.standing.daring++;
                break;
        }
        return true;
    }

    private boolean canAct(int what, int who) {
        switch (what) {
            case 0:
                return isLetter(who) && shop.standing.sorts[who] < MOST_SORTS;
            case 1:
                return isLetter(who) && shop.standing.sorts[who] > 0;
            case 2:
                return shop.jobs.has(who) && !shop.standing.isPrinted(who)
                    && press.lacksWithAll(shop.jobs, who) == 0;
            case 3:
                return shop.standing.daring < MOST_DARING;
            default:
                return false;
        }
    }

    public int days(int n) {
        if (n < 1 || n > MOST_DAYS || shop.standing.day + n > LAST_DAY) {
            return NONE;
        }
        int before = shop.standing.done;
        for (int d = 0; d < n; d++) {
            past.keep(shop.standing);
            press.passDay(shop.standing, false);
        }
        return shop.standing.done - before;
    }

    public int feed(int a, int b, int c, int d, int e) {
        if (!reader.hasRoomFor(20)) {
            return NONE;
        }
        reader.append(a);
        reader.append(b);
        reader.append(c);
        reader.append(d);
        reader.append(e);
        return reader.length;
    }

    public boolean end(int n) {
        if (n < 0 || n > reader.length) {
            return false;
        }
        reader.length = n;
        return true;
    }

    public int text(int k) {
        reader.forgetFault();
        int lines = NONE;
        switch (k) {
            case 0:
                if (draftLaw.readFrom(reader)) {
                    shop.law.copyFrom(draftLaw);
                    lines = shop.law.count;
                }
                break;
            case 1:
                if (draftWords.readFrom(reader, true)) {
                    shop.jobs.copyFrom(draftWords);
                    shop.standing.printed = 0;
                    past.forget();
                    lines = shop.jobs.count;
                }
                break;
            case 2:
                if (draftWords.readFrom(reader, false)) {
                    shop.book.copyFrom(draftWords);
                    past.forget();
                    lines = shop.book.count;
                }
                break;
            case 3:
                if (draftChanges.readFrom(reader)) {
                    shop.changes.copyFrom(draftChanges);
                    past.forget();
                    lines = shop.changes.count;
                }
                break;
            default:
                break;
        }
        reader.length = 0;
        return lines;
    }

    public int fault(int what) {
        switch (what) {
            case 0:
                return reader.faultKind;
            case 1:
                return reader.faultPlace;
            default:
                return NONE;
        }
    }

    public int of(int l, int what) {
        if (!isLetter(l)) {
            return NONE;
        }
        switch (what) {
            case 0:
                return shop.standing.sorts[l];
            case 1:
                return shop.standing.broken[l];
            case 2:
                return Math.max(0, shop.standing.sorts[l] - shop.jobs.countOf(l, shop.standing.printed));
            case 3:
                return shop.jobs.countOf(l, shop.standing.printed);
            case 4:
                return shop.book.countOf(l, 0);
            default:
                return NONE;
        }
    }

    public int job(int i, int what) {
        if (!shop.jobs.has(i)) {
            return NO_SUCH;
        }
        switch (what) {
            case 0:
                return shop.jobs.days[i];
            case 1:
                return shop.standing.isPrinted(i) ? 1 : 0;
            case 2:
                return shop.jobs.lengths[i];
            case 3:
                return press.askWithAll(Law.SETS, shop.jobs, i);
            case 4:
                return press.askWithAll(Law.BREAKS, shop.jobs, i);
            case 5:
                return press.lacksWithAll(shop.jobs, i);
            default:
                return spelling(shop.jobs, i, what);
        }
    }

    public int devils(int i, int what) {
        if (!shop.book.has(i)) {
            return NO_SUCH;
        }
        switch (what) {
            case 0:
                return shop.book.lengths[i];
            case 1:
                return press.askWithAll(Law.DARES, shop.book, i);
            case 2:
                return press.lacksWithAll(shop.book, i) == 0 ? 1 : 0;
            default:
                return spelling(shop.book, i, what);
        }
    }

    private static int spelling(Words words, int i, int what) {
        if (what < 10 || what >= 10 + LONGEST_WORD) {
            return NO_SUCH;
        }
        return words.letterAt(i, what - 10);
    }

    public int tray(int i, int what) {
        if (i < 0 || i >= shop.standing.trayLines || what < 0 || what >= Shop.TRAY_COLUMNS) {
            return NO_SUCH;
        }
        return shop.trayRows[i * Shop.TRAY_COLUMNS + what];
    }

    public int goes(int n, int what) {
        if (n < 1 || n > MOST_DAYS || what < 0 || what > 3) {
            return NONE;
        }
        Standing then = press.beginThought();
        for (int d = 0; d < n; d++) {
            press.passDay(then, true);
        }
        switch (what) {
            case 0:
                return then.done;
            case 1:
                return then.said;
            case 2:
                return then.sortsOfAll();
            default:
                return then.blanks;
        }
    }

    public int out() {
        int all = (1 << shop.jobs.count) - 1;
        Standing then = press.beginThought();
        for (int d = 0; d < MOST_DAYS && then.printed != all; d++) {
            press.passDay(then, true);
        }
        return then.printed == all ? then.day - shop.standing.day : NONE;
    }

    public boolean place(int x, int y, int l) {
        if (x < 0 || x >= Riddles.SIDE || y < 0 || y >= Riddles.SIDE || !isLetter(l)) {
            return false;
        }
        shop.riddles.places[y * Riddles.SIDE + x] = l;
        return true;
    }

    public int letter(int l) {
        Row told = shop.riddles.told;
        if (l == NONE) {
            told.length = 0;
        } else if (!isLetter(l) || !told.append(l)) {
            return NONE;
        }
        return told.length;
    }

    public int square() {
        return shop.riddles.countInSquare();
    }

    public int numbers() {
        return shop.riddles.told.countNumbers();
    }

    public int sign(int v) {
        if (v == NONE) {
            shop.riddles.signCount = 0;
        } else if (!shop.riddles.appendSign(v)) {
            return NONE;
        }
        return shop.riddles.signCount;
    }

    public int pattern() {
        return shop.riddles.fitsPattern() ? 1 : 0;
    }

    public int turned(int i) {
        return i == NONE ? shop.riddles.told.placeAmongTurned() : shop.riddles.told.lastOfTurned(i);
    }

    public int front(int i) {
        return shop.riddles.told.placeOnShelf(i);
    }

    public int row(int what) {
        Row told = shop.riddles.told;
        switch (what) {
            case 0:
                return told.countPieces();
            case 1:
                return told.longestBorder();
            case 2:
                return told.fewestMirrors();
            case 3:
                return told.countHeads();
            default:
                return NONE;
        }
    }

    public int seven(int w, int what) {
        if (what < 0 || what > 2 || w < 0 || w > (what == 0 ? 15 : 127)) {
            return NONE;
        }
        switch (what) {
            case 0:
                return sevenBits(w);
            case 1:
                return fourBits(righted(w));
            default:
                return wrongPlace(w);
        }
    }

    /** Each p is told by the evenness of its three d. */
    private static int sevenBits(int four) {
        int d1 = four >> 3 & 1;
        int d2 = four >> 2 & 1;
        int d3 = four >> 1 & 1;
        int d4 = four & 1;
        int p1 = d1 ^ d2 ^ d4;
        int p2 = d1 ^ d3 ^ d4;
        int p3 = d2 ^ d3 ^ d4;
        return p1 << 6 | p2 << 5 | d1 << 4 | p3 << 3 | d2 << 2 | d3 << 1 | d4;
    }

    private static int fourBits(int seven) {
        return (seven >> 4 & 1) << 3 | seven & 7;
    }

    private static int righted(int seven) {
        int wrong = wrongPlace(seven);
        return wrong == 0 ? seven : seven ^ 1 << 7 - wrong;
    }

    /** The places of the ones, put together bit by bit, are 0 in a row that was not damaged. */
    private static int wrongPlace(int seven) {
        int together = 0;
        for (int place = 1; place <= 7; place++) {
            if ((seven >> 7 - place & 1) == 1) {
                together ^= place;
            }
        }
        return together;
    }

    public int over(int v, int p) {
        if (v < 0 || v > 1048575 || p < 2 || p > 255) {
            return NONE;
        }
        int zeros = bitsOf(p) - 1;
        int left = v << zeros;
        for (int shift = 19; shift >= 0; shift--) {
            if ((left >> shift + zeros & 1) == 1) {
                left ^= p << shift;
            }
        }
        return left;
    }

    private static int bitsOf(int p) {
        int bits = 0;
        for (int rest = p; rest > 0; rest >>= 1) {
            bits++;
        }
        return bits;
    }

    public int ring(int n, int i, int what) {
        if (n < 1 || n > Ring.MOST || i < 0 || i > 1 << n) {
            return NONE;
        }
        switch (what) {
            case 0:
                return i == 1 << n ? NONE : rings.bitOf(n, i);
            case 1:
                return rings.onesBefore(n, i);
            default:
                return NONE;
        }
    }

    public int columns(int key, int i) {
        int power = 10;
        for (int k = 1; k <= Row.MOST_COLUMNS; k++) {
            if (key >= power && key < 2 * power) {
                return isKey(key, k) ? shop.riddles.told.inColumns(key, k, i) : NONE;
            }
            power *= 10;
        }
        return NONE;
    }

    /** Whether the last k digits of the key are 0 .. k - 1, each once. */
    private static boolean isKey(int key, int k) {
        int seen = 0;
        int rest = key;
        for (int j = 0; j < k; j++) {
            seen |= 1 << rest % 10;
            rest /= 10;
        }
        return seen == (1 << k) - 1;
    }

    public boolean value(int l, int v) {
        if (!isLetter(l) || v < 0 || v > 20) {
            return false;
        }
        shop.riddles.worths[l] = v;
        return true;
    }

    public int values(int what) {
        if (what == 0) {
            return shop.riddles.greatestSum(Row.LONGEST);
        }
        if (what == 1) {
            return shop.riddles.unlikeSums();
        }
        if (what >= 100 && what <= 100 + Row.LONGEST) {
            return shop.riddles.greatestSum(what - 100);
        }
        return NONE;
    }

    public int game(int beginning) {
        return shop.book.winningLetter(beginning);
    }

    public boolean undo() {
        return past.goBack(shop.standing);
    }

    public boolean image(boolean taken) {
        if (taken) {
            picture.copyFrom(shop);
            pictured = true;
            return true;
        }
        if (!pictured) {
            return false;
        }
        shop.copyFrom(picture);
        past.forget();
        return true;
    }

    public int look(int what) {
        Standing now = shop.standing;
        switch (what) {
            case 0:
                return now.sortsOfAll();
            case 1:
                return shop.jobs.count;
            case 2:
                return now.printed;
            case 3:
                return shop.book.count;
            case 4:
                return now.daring;
            case 5:
                return now.said;
            case 6:
                return now.done;
            case 7:
                return now.blanks;
            case 8:
                return now.day;
            case 9:
                return now.trayLines;
            case 10:
                return now.state;
            case 11:
                return shop.law.count;
            case 12:
                return shop.changes.count;
            case 13:
                return past.count;
            default:
                return NO_LOOK;
        }
    }

    private static boolean isLetter(int l) {
        return l >= 0 && l < LETTERS;
    }

    /** The TAPE, its TOKENS, taken one by one, and the first FAULT that was met. */
    private static final class Reader {
        static final int MOST_BYTES = 400;
        /** Kinds of tokens; a sign is its own kind, a keyword is KEYWORD and its number. */
        static final int END = 0;
        static final int ODD = 1;
        static final int WORD = 2;
        static final int NUMBER = 3;
        static final int KEYWORD = 128;
        static final int MISPLACED = 1;
        static final int WRONG_PART = 2;
        static final int TOO_MUCH = 3;
        private static final String SIGNS = ";+-*/()<=>";

        private final int[] tape = new int[MOST_BYTES];
        int length;
        /** Of each token: its kind, where it begins, and how long it is. */
        private final int[] kinds = new int[MOST_BYTES + 1];
        private final int[] places = new int[MOST_BYTES + 1];
        private final int[] sizes = new int[MOST_BYTES + 1];
        private int tokens;
        private int at;
        /** The kind of the token that comes next. */
        int kind;
        /** What was taken last: a line's keyword, a number, where a word begins and how long it is. */
        int opening;
        int number;
        private int wordPlace;
        int wordLength;
        int faultKind;
        int faultPlace = NONE;

        boolean hasRoomFor(int bytes) {
            return length + bytes <= MOST_BYTES;
        }

        void append(int four) {
            if (!hasRoomFor(4)) {
                return;
            }
            for (int shift = 24; shift >= 0; shift -= 8) {
                tape[length] = four >> shift & 255;
                length++;
            }
        }

        void forgetFault() {
            faultKind = 0;
            faultPlace = NONE;
        }

        /** Splits the TAPE into tokens; each keyword has a blank behind it. */
        void split(String keywords) {
            tokens = 0;
            int from = 0;
            while (from < length) {
                int to = tokenEnd(from);
                if (!isBlank(tape[from])) {
                    addToken(kindOf(from, to, keywords), from, to);
                }
                from = Math.max(to, from + 1);
            }
            addToken(END, length, length);
            at = 0;
            kind = kinds[0];
        }

        private void addToken(int tokenKind, int from, int to) {
            if (tokens > MOST_BYTES) {
                return;
            }
            kinds[tokens] = tokenKind;
            places[tokens] = from;
            sizes[tokens] = to - from;
            tokens++;
        }

        private int tokenEnd(int from) {
            int to = from;
            if (isAlphabetic(tape[from])) {
                while (to < length && isAlphabetic(tape[to])) {
                    to++;
                }
            } else {
                while (to < length && isDigit(tape[to])) {
                    to++;
                }
            }
            return Math.max(to, from + 1);
        }

        private int kindOf(int from, int to, String keywords) {
            int first = tape[from];
            if (isAlphabetic(first)) {
                int which = keywordAt(from, to, keywords);
                return which == NONE ? WORD : KEYWORD + which;
            }
            if (isDigit(first)) {
                return to - from <= 4 ? NUMBER : ODD;
            }
            return SIGNS.indexOf((char) first) >= 0 ? first : ODD;
        }

        private int keywordAt(int from, int to, String keywords) {
            int which = 0;
            int begins = 0;
            for (int i = 0; i < keywords.length(); i++) {
                if (keywords.charAt(i) == ' ') {
                    if (i - begins == to - from && isSpelt(from, keywords, begins, i)) {
                        return which;
                    }
                    which++;
                    begins = i + 1;
                }
            }
            return NONE;
        }

        private boolean isSpelt(int from, String keywords, int begins, int ends) {
            for (int i = begins; i < ends && i < keywords.length(); i++) {
                int byteAt = from + i - begins;
                if (byteAt >= length || tape[byteAt] != keywords.charAt(i)) {
                    return false;
                }
            }
            return true;
        }

        private static boolean isBlank(int c) {
            return c == 32 || c == 10;
        }

        private static boolean isAlphabetic(int c) {
            return c >= 'a' && c <= 'z' || c >= 'A' && c <= 'Z';
        }

        private static boolean isDigit(int c) {
            return c >= '0' && c <= '9';
        }

        /** The token that comes next is taken; the end is never passed. */
        void advance() {
            if (at + 1 < tokens) {
                at++;
            }
            kind = kinds[at];
        }

        /** Keeps the FAULT at the token that comes next. */
        boolean refuse(int which) {
            faultKind = which;
            faultPlace = places[at];
            return false;
        }

        boolean take(int wanted) {
            if (kind != wanted) {
                return refuse(MISPLACED);
            }
            advance();
            return true;
        }

        /** Takes one of a text's first so many keywords, which alone open a line. */
        boolean takeOpening(int openings) {
            if (!isOpening(openings)) {
                return refuse(MISPLACED);
            }
            opening = kind - KEYWORD;
            advance();
            return true;
        }

        private boolean isOpening(int openings) {
            return kind >= KEYWORD && kind < KEYWORD + openings;
        }

        /** Whether the text ends here, where it has as many lines as it may have. */
        boolean endsHere(int openings) {
            return kind == END || refuse(isOpening(openings) ? TOO_MUCH : MISPLACED);
        }

        boolean takeNumber(int least, int most) {
            if (kind != NUMBER) {
                return refuse(MISPLACED);
            }
            number = 0;
            for (int i = places[at]; i < places[at] + sizes[at] && i < length; i++) {
                number = number * 10 + tape[i] - '0';
            }
            if (number < least || number > most) {
                return refuse(WRONG_PART);
            }
            advance();
            return true;
        }

        boolean takeWord(int longest) {
            if (kind != WORD) {
                return refuse(MISPLACED);
            }
            wordPlace = places[at];
            wordLength = sizes[at];
            if (wordLength > longest) {
                return refuse(WRONG_PART);
            }
            for (int k = 0; k < wordLength; k++) {
                if (!isLetter(wordLetter(k))) {
                    return refuse(WRONG_PART);
                }
            }
            advance();
            return true;
        }

        /** LETTER k of the word that was taken last. */
        int wordLetter(int k) {
            int i = wordPlace + k;
            return i >= 0 && i < length ? tape[i] - 'a' : NONE;
        }
    }

    /** JOBS or THE SMALL BOOK: words, and for JOBS the DAY of each. */
    private static final class Words {
        static final String JOBS_KEYWORDS = "from ";
        static final String BOOK_KEYWORDS = "word ";
        private static final int LONGEST_IN_GAME = 4;

        int count;
        final int[] days = new int[MOST_LINES];
        final int[] lengths = new int[MOST_LINES];
        private final int[] letters = new int[MOST_LINES * LONGEST_WORD];

        void copyFrom(Words other) {
            count = other.count;
            System.arraycopy(other.days, 0, days, 0, MOST_LINES);
            System.arraycopy(other.lengths, 0, lengths, 0, MOST_LINES);
            System.arraycopy(other.letters, 0, letters, 0, MOST_LINES * LONGEST_WORD);
        }

        /** JOBS = {from DAY WORD ;}, BOOK = {word WORD ;}. */
        boolean readFrom(Reader reader, boolean dated) {
            reader.split(dated ? JOBS_KEYWORDS : BOOK_KEYWORDS);
            for (int line = 0; line < MOST_LINES; line++) {
                if (reader.kind == Reader.END) {
                    count = line;
                    return true;
                }
                if (!readLine(reader, line, dated)) {
                    return false;
                }
            }
            count = MOST_LINES;
            return reader.endsHere(1);
        }

        private boolean readLine(Reader reader, int line, boolean dated) {
            if (!reader.takeOpening(1) || dated && !reader.takeNumber(0, 999)
                || !reader.takeWord(LONGEST_WORD) || !reader.take(';')) {
                return false;
            }
            days[line] = dated ? reader.number : 0;
            lengths[line] = reader.wordLength;
            for (int k = 0; k < reader.wordLength && k < LONGEST_WORD; k++) {
                letters[line * LONGEST_WORD + k] = reader.wordLetter(k);
            }
            return true;
        }

        boolean has(int i) {
            return i >= 0 && i < count;
        }

        int letterAt(int i, int k) {
            return has(i) && k >= 0 && k < lengths[i] ? letters[i * LONGEST_WORD + k] : NONE;
        }

        /** How often a letter stands in all words but those of a set. */
        int countOf(int letter, int without) {
            int often = 0;
            for (int i = 0; i < count; i++) {
                for (int k = 0; k < lengths[i] && (without >> i & 1) == 0; k++) {
                    if (letterAt(i, k) == letter) {
                        often++;
                    }
                }
            }
            return often;
        }

        /** Of the GAME: the least letter that wins from a beginning, its letters as digits behind a 1. */
        int winningLetter(int beginning) {
            int power = 1;
            for (int size = 0; size < LONGEST_IN_GAME; size++) {
                if (beginning >= power && beginning < 2 * power) {
                    return begins(beginning, size) && !isWhole(beginning, size)
                        ? leastWinning(this, beginning, size) : NONE;
                }
                power *= 10;
            }
            return NONE;
        }

        /** A beginning of four letters is whole, so it goes no deeper than three. */
        private static int leastWinning(Words words, int beginning, int size) {
            if (size >= LONGEST_IN_GAME) {
                return NONE;
            }
            for (int l = 0; l < LETTERS; l++) {
                int longer = beginning * 10 + l;
                if (words.begins(longer, size + 1) && !words.isWhole(longer, size + 1)
                    && leastWinning(words, longer, size + 1) == NONE) {
                    return l;
                }
            }
            return NONE;
        }

        private boolean begins(int beginning, int size) {
            for (int i = 0; i < count; i++) {
                if (lengths[i] <= LONGEST_IN_GAME && lengths[i] >= size && headOf(i, size) == beginning) {
                    return true;
                }
            }
            return false;
        }

        private boolean isWhole(int beginning, int size) {
            for (int i = 0; i < count; i++) {
                if (lengths[i] == size && headOf(i, size) == beginning) {
                    return true;
                }
            }
            return false;
        }

        /** The first letters of a word as digits behind a 1. */
        private int headOf(int i, int size) {
            int head = 1;
            for (int k = 0; k < size; k++) {
                head = head * 10 + letterAt(i, k);
            }
            return head;
        }
    }

    /** CHANGES by days. */
    private static final class Changes {
        static final String KEYWORDS = "on cast melt dare calm ";
        /** The deeds, as their keywords stand. */
        static final int CAST = 1;
        static final int MELT = 2;
        static final int DARE = 3;
        static final int CALM = 4;

        int count;
        final int[] days = new int[MOST_LINES];
        final int[] deeds = new int[MOST_LINES];
        final int[] letters = new int[MOST_LINES];
        final int[] amounts = new int[MOST_LINES];

        void copyFrom(Changes other) {
            count = other.count;
            System.arraycopy(other.days, 0, days, 0, MOST_LINES);
            System.arraycopy(other.deeds, 0, deeds, 0, MOST_LINES);
            System.arraycopy(other.letters, 0, letters, 0, MOST_LINES);
            System.arraycopy(other.amounts, 0, amounts, 0, MOST_LINES);
        }

        /** CHANGES = {on DAY (cast LETTER N | melt LETTER N | dare N | calm) ;}. */
        boolean readFrom(Reader reader) {
            reader.split(KEYWORDS);
            for (int line = 0; line < MOST_LINES; line++) {
                if (reader.kind == Reader.END) {
                    count = line;
                    return true;
                }
                if (!reader.takeOpening(1) || !reader.takeNumber(0, 999)) {
                    return false;
                }
                days[line] = reader.number;
                if (!readDeed(reader, line) || !reader.take(';')) {
                    return false;
                }
            }
            count = MOST_LINES;
            return reader.endsHere(1);
        }

        private boolean readDeed(Reader reader, int line) {
            int deed = reader.kind - Reader.KEYWORD;
            deeds[line] = deed;
            letters[line] = 0;
            amounts[line] = 0;
            if (deed < CAST || deed > CALM) {
                return reader.refuse(Reader.MISPLACED);
            }
            reader.advance();
            if (deed == CALM) {
                return true;
            }
            if (deed != DARE) {
                if (!reader.takeWord(1)) {
                    return false;
                }
                letters[line] = reader.wordLetter(0);
            }
            if (!reader.takeNumber(1, deed == DARE ? 9 : 50)) {
                return false;
            }
            amounts[line] = reader.number;
            return true;
        }
    }

    /** THE LAW, each line as code for a stack: parts first, then what is done with them. */
    private static final class Law {
        static final String KEYWORDS =
            "sets breaks dares when or and not length least rest daring said done waits blanks day ";
        /** What is asked, as its keyword stands. */
        static final int SETS = 0;
        static final int BREAKS = 1;
        static final int DARES = 2;
        /** The facts, as their keywords stand behind one another. */
        static final int LENGTH = 0;
        static final int LEAST = 1;
        static final int REST = 2;
        static final int DARING = 3;
        static final int SAID = 4;
        static final int DONE = 5;
        static final int WAITS = 6;
        static final int BLANKS = 7;
        static final int DAY = 8;
        static final int FACTS = 9;

        private static final int WHEN = Reader.KEYWORD + 3;
        private static final int OR = Reader.KEYWORD + 4;
        private static final int AND = Reader.KEYWORD + 5;
        private static final int NOT = Reader.KEYWORD + 6;
        private static final int FIRST_FACT = Reader.KEYWORD + 7;
        private static final int MOST_OPEN = 8;
        private static final int MOST_HELD = 32;
        private static final int DEEPEST = 64;

        int count;
        private final int[] asked = new int[MOST_LINES];
        /** Where a line's E begins, where its B does, and where it ends; without B the last are one. */
        private final int[] begins = new int[MOST_LINES];
        private final int[] conditions = new int[MOST_LINES];
        private final int[] ends = new int[MOST_LINES];
        /** A number is itself, a fact is -1 less its number, a token that joins is -100 less its kind. */
        private final int[] code = new int[Reader.MOST_BYTES];
        private int used;
        /** While a B is read: each ( that is open, and what joins and is not put yet. */
        private final int[] held = new int[MOST_HELD];
        private int holding;
        private int open;
        private final int[] stack = new int[DEEPEST];

        void copyFrom(Law other) {
            count = other.count;
            used = other.used;
            System.arraycopy(other.asked, 0, asked, 0, MOST_LINES);
            System.arraycopy(other.begins, 0, begins, 0, MOST_LINES);
            System.arraycopy(other.conditions, 0, conditions, 0, MOST_LINES);
            System.arraycopy(other.ends, 0, ends, 0, MOST_LINES);
            System.arraycopy(other.code, 0, code, 0, Reader.MOST_BYTES);
        }

        /** THE LAW = {(sets | breaks | dares) E [when B] ;}. */
        boolean readFrom(Reader reader) {
            reader.split(KEYWORDS);
            used = 0;
            for (int line = 0; line < MOST_LINES; line++) {
                if (reader.kind == Reader.END) {
                    count = line;
                    return true;
                }
                if (!readLine(reader, line)) {
                    return false;
                }
            }
            count = MOST_LINES;
            return reader.endsHere(3);
        }

        private boolean readLine(Reader reader, int line) {
            if (!reader.takeOpening(3)) {
                return false;
            }
            asked[line] = reader.opening;
            begins[line] = used;
            if (!readSum(reader)) {
                return false;
            }
            conditions[line] = used;
            if (reader.kind == WHEN) {
                reader.advance();
                if (!readCondition(reader)) {
                    return false;
                }
            }
            ends[line] = used;
            return reader.take(';');
        }

        /** B = A {or A}, A = C {and C}: what joins is held until all that it joins is put. */
        private boolean readCondition(Reader reader) {
            holding = 0;
            open = 0;
            for (int clause = 0; clause < Reader.MOST_BYTES; clause++) {
                if (!readOpened(reader) || !readSum(reader)) {
                    return false;
                }
                int sign = reader.kind;
                if (sign != '<' && sign != '=' && sign != '>') {
                    return reader.refuse(Reader.MISPLACED);
                }
                reader.advance();
                if (!readSum(reader)) {
                    return false;
                }
                putJoin(sign);
                readClosed(reader);
                int join = reader.kind;
                if (join != AND && join != OR) {
                    putHeld(OR);
                    return holding == 0 || reader.refuse(Reader.MISPLACED);
                }
                putHeld(join);
                hold(join);
                reader.advance();
            }
            return false;
        }

        /** Each ( and each not before a comparison. */
        private boolean readOpened(Reader reader) {
            for (int step = 0; step <= MOST_OPEN; step++) {
                int kind = reader.kind;
                if (kind != '(' && kind != NOT) {
                    return true;
                }
                if (open >= MOST_OPEN) {
                    return reader.refuse(Reader.TOO_MUCH);
                }
                open++;
                hold(kind);
                reader.advance();
            }
            return false;
        }

        /** Each ) behind a comparison whose ( is held. */
        private void readClosed(Reader reader) {
            for (int step = 0; step < MOST_OPEN && reader.kind == ')'; step++) {
                putHeld(OR);
                if (holding == 0) {
                    return;
                }
                holding--;
                open--;
                reader.advance();
            }
        }

        private void hold(int kind) {
            if (holding < MOST_HELD) {
                held[holding] = kind;
                holding++;
            }
        }

        /** Puts what is held above the latest ( and joins as closely or closer; the kinds grow so. */
        private void putHeld(int least) {
            while (holding > 0 && held[holding - 1] >= least) {
                holding--;
                putJoin(held[holding]);
                if (held[holding] == NOT) {
                    open--;
                }
            }
        }

        /** E = T {(+ | -) T}, T = U {* U | / NUMBER}: a + or - is put behind the T that it adds. */
        private boolean readSum(Reader reader) {
            int waiting = 0;
            int sign = 0;
            for (int part = 0; part < Reader.MOST_BYTES; part++) {
                if (!readPart(reader, sign == '/')) {
                    return false;
                }
                if (sign == '*' || sign == '/') {
                    putJoin(sign);
                }
                sign = reader.kind;
                if (sign != '*' && sign != '/') {
                    if (waiting != 0) {
                        putJoin(waiting);
                    }
                    if (sign != '+' && sign != '-') {
                        return true;
                    }
                    waiting = sign;
                }
                reader.advance();
            }
            return false;
        }

        /** U, or a NUMBER alone, and not 0, where it divides. */
        private boolean readPart(Reader reader, boolean divides) {
            int fact = reader.kind - FIRST_FACT;
            if (!divides && fact >= 0 && fact < FACTS) {
                put(-1 - fact);
                reader.advance();
                return true;
            }
            if (!reader.takeNumber(divides ? 1 : 0, 9999)) {
                return false;
            }
            put(reader.number);
            return true;
        }

        private void putJoin(int kind) {
            put(-100 - kind);
        }

        private void put(int piece) {
            if (used < Reader.MOST_BYTES) {
                code[used] = piece;
                used++;
            }
        }

        /** The value of the first line that is asked for and whose B is so, or what is told without one. */
        int tells(int what, int[] facts) {
            for (int line = 0; line < count; line++) {
                boolean always = conditions[line] == ends[line];
                if (asked[line] == what && (always || work(conditions[line], ends[line], facts) != 0)) {
                    int told = work(begins[line], conditions[line], facts);
                    return Math.max(0, Math.min(what == BREAKS ? 9 : 1000, told));
                }
            }
            if (what == DARES) {
                return 100 * facts[DARING];
            }
            return what == SETS ? 1000 : 0;
        }

        private int work(int from, int to, int[] facts) {
            int depth = 0;
            for (int i = from; i < to && i < used; i++) {
                int piece = code[i];
                if (piece == -100 - NOT && depth > 0) {
                    stack[depth - 1] = 1 - stack[depth - 1];
                } else if (piece <= -100 && depth > 1) {
                    depth--;
                    stack[depth - 1] = joined(-100 - piece, stack[depth - 1], stack[depth]);
                } else if (piece > -100 && depth < DEEPEST) {
                    int fact = -1 - piece;
                    stack[depth] = fact >= 0 && fact < facts.length ? facts[fact] : piece;
                    depth++;
                }
            }
            return depth > 0 ? stack[0] : 0;
        }

        private static int joined(int kind, int left, int right) {
            switch (kind) {
                case '+':
                    return left + right;
                case '-':
                    return left - right;
                case '*':
                    return left * right;
                case '/':
                    return right == 0 ? 0 : left / right;
                case '<':
                    return left < right ? 1 : 0;
                case '=':
                    return left == right ? 1 : 0;
                case '>':
                    return left > right ? 1 : 0;
                case AND:
                    return left & right;
                default:
                    return left | right;
            }
        }
    }

    /** How things stand: all that a DAY or a deed by hand changes, so that it can go back. */
    private static final class Standing {
        final int[] sorts = new int[LETTERS];
        final int[] broken = new int[LETTERS];
        int printed;
        int daring = 5;
        int said;
        int done;
        int blanks;
        int day;
        int state;
        /** Lines are put behind those of THE TRAY alone, so their number is enough to go back. */
        int trayLines;

        void copyFrom(Standing other) {
            System.arraycopy(other.sorts, 0, sorts, 0, LETTERS);
            System.arraycopy(other.broken, 0, broken, 0, LETTERS);
            printed = other.printed;
            daring = other.daring;
            said = other.said;
            done = other.done;
            blanks = other.blanks;
            day = other.day;
            state = other.state;
            trayLines = other.trayLines;
        }

        boolean isPrinted(int i) {
            return (printed >> i & 1) == 1;
        }

        int sortsOfAll() {
            int all = 0;
            for (int l = 0; l < LETTERS; l++) {
                all += sorts[l];
            }
            return all;
        }

        /** A DRAW of 1000. */
        int drawOfThousand() {
            state = state * 1664525 + 1013904223;
            return (state >>> 8) % 1000;
        }

        void breakSorts(int letter, int most) {
            if (!isLetter(letter)) {
                return;
            }
            int lost = Math.min(most, sorts[letter]);
            sorts[letter] -= lost;
            broken[letter] += lost;
        }
    }

    /** All that THE IMAGE holds. */
    private static final class Shop {
        static final int TRAY_COLUMNS = 4;
        static final int TRAY_LINES = 150;

        final Standing standing = new Standing();
        final Law law = new Law();
        final Words jobs = new Words();
        final Words book = new Words();
        final Changes changes = new Changes();
        final Riddles riddles = new Riddles();
        final int[] trayRows = new int[TRAY_LINES * TRAY_COLUMNS];

        void copyFrom(Shop other) {
            standing.copyFrom(other.standing);
            law.copyFrom(other.law);
            jobs.copyFrom(other.jobs);
            book.copyFrom(other.book);
            changes.copyFrom(other.changes);
            riddles.copyFrom(other.riddles);
            System.arraycopy(other.trayRows, 0, trayRows, 0, TRAY_LINES * TRAY_COLUMNS);
        }
    }

    /** The deeds by hand and the DAYS that can be undone, as it stood before each. */
    private static final class Past {
        private static final int MOST_KEPT = 6;

        private final Standing[] kept = new Standing[MOST_KEPT];
        private int next;
        int count;

        Past() {
            for (int i = 0; i < MOST_KEPT; i++) {
                kept[i] = new Standing();
            }
        }

        void keep(Standing standing) {
            kept[next].copyFrom(standing);
            next = (next + 1) % MOST_KEPT;
            count = Math.min(count + 1, MOST_KEPT);
        }

        boolean goBack(Standing standing) {
            if (count == 0) {
                return false;
            }
            next = (next + MOST_KEPT - 1) % MOST_KEPT;
            count--;
            standing.copyFrom(kept[next]);
            return true;
        }

        void forget() {
            count = 0;
        }
    }

    /** What is done on a DAY, in the shop itself or in thought. */
    private static final class Press {
        private static final int PRINTED = 0;
        private static final int WANTS = 1;
        private static final int SET_BELOW = 2;
        private static final int BLANK = 3;

        final Shop shop = new Shop();
        private final Standing thought = new Standing();
        private final int[] boxes = new int[LETTERS];
        private final int[] facts = new int[Law.FACTS];
        /** What breaks told of each JOB that was set on this DAY. */
        private final int[] breaking = new int[MOST_LINES];
        /** Whose DAY it is: the shop's, or one in thought, without DRAWS and lines of THE TRAY. */
        private Standing now = shop.standing;
        private boolean thinking;

        void passDay(Standing standing, boolean inThought) {
            now = standing;
            thinking = inThought;
            for (int i = 0; i < shop.changes.count; i++) {
                if (shop.changes.days[i] == now.day) {
                    change(i);
                }
            }
            fillBoxes();
            int today = setJobs();
            compose();
            for (int i = 0; i < shop.jobs.count; i++) {
                if ((today >> i & 1) == 1) {
                    breakSortsOf(i);
                }
            }
            now.day++;
        }

        private void change(int i) {
            int letter = shop.changes.letters[i];
            int amount = shop.changes.amounts[i];
            if (!isLetter(letter)) {
                return;
            }
            switch (shop.changes.deeds[i]) {
                case Changes.CAST:
                    now.sorts[letter] = Math.min(MOST_SORTS, now.sorts[letter] + amount);
                    break;
                case Changes.MELT:
                    now.sorts[letter] = Math.max(0, now.sorts[letter] - amount);
                    break;
                default:
                    // to be calm is to dare 0
                    now.daring = amount;
                    break;
            }
        }

        private void fillBoxes() {
            System.arraycopy(now.sorts, 0, boxes, 0, LETTERS);
        }

        /** The JOBS that are set on this DAY, as a set. */
        private int setJobs() {
            int today = 0;
            for (int i = 0; i < shop.jobs.count; i++) {
                if (shop.jobs.days[i] <= now.day && !now.isPrinted(i)) {
                    int lacks = countLacking(shop.jobs, i);
                    if (lacks > 0) {
                        record(WANTS, i, lacks);
                    } else if (comesTrue(ask(Law.SETS, shop.jobs, i))) {
                        setJob(i);
                        today |= 1 << i;
                    }
                }
            }
            return today;
        }

        private void setJob(int i) {
            takeOut(shop.jobs, i);
            now.printed |= 1 << i;
            now.done++;
            breaking[i] = ask(Law.BREAKS, shop.jobs, i);
            record(PRINTED, i, breaking[i]);
        }

        /** The devil sets what he can of the rest. */
        private void compose() {
            boolean any = false;
            for (int i = 0; i < shop.book.count; i++) {
                if (countLacking(shop.book, i) == 0 && comesTrue(ask(Law.DARES, shop.book, i))) {
                    takeOut(shop.book, i);
                    now.said++;
                    record(SET_BELOW, i, shop.book.lengths[i]);
                    any = true;
                }
            }
            if (!any && shop.book.count > 0) {
                now.blanks++;
                record(BLANK, NONE, now.blanks);
            }
        }

        private void breakSortsOf(int i) {
            for (int k = 0; k < shop.jobs.lengths[i]; k++) {
                now.breakSorts(shop.jobs.letterAt(i, k), breaking[i]);
            }
        }

        private boolean comesTrue(int likely) {
            if (thinking) {
                return likely >= 500;
            }
            return likely > 0 && now.drawOfThousand() < likely;
        }

        private void record(int what, int which, int howMuch) {
            if (thinking || now.trayLines >= Shop.TRAY_LINES) {
                return;
            }
            int from = now.trayLines * Shop.TRAY_COLUMNS;
            shop.trayRows[from] = now.day;
            shop.trayRows[from + 1] = what;
            shop.trayRows[from + 2] = which;
            shop.trayRows[from + 3] = howMuch;
            now.trayLines++;
        }

        private void takeOut(Words words, int i) {
            for (int k = 0; k < words.lengths[i]; k++) {
                int letter = words.letterAt(i, k);
                if (isLetter(letter)) {
                    boxes[letter]--;
                }
            }
        }

        /** How many SORTS a word lacks in the boxes: it is set, and all is put back. */
        private int countLacking(Words words, int i) {
            int lacks = 0;
            takeOut(words, i);
            for (int k = 0; k < words.lengths[i]; k++) {
                int letter = words.letterAt(i, k);
                if (isLetter(letter)) {
                    lacks += boxes[letter] < 0 ? 1 : 0;
                    boxes[letter]++;
                }
            }
            return lacks;
        }

        /** What THE LAW tells of a word just now. */
        private int ask(int what, Words words, int i) {
            int least = MOST_SORTS;
            for (int k = 0; k < words.lengths[i]; k++) {
                int letter = words.letterAt(i, k);
                if (isLetter(letter)) {
                    least = Math.min(least, boxes[letter]);
                }
            }
            int rest = 0;
            for (int l = 0; l < LETTERS; l++) {
                rest += boxes[l];
            }
            facts[Law.LENGTH] = words.lengths[i];
            facts[Law.LEAST] = least;
            facts[Law.REST] = rest;
            facts[Law.DARING] = now.daring;
            facts[Law.SAID] = now.said;
            facts[Law.DONE] = now.done;
            facts[Law.WAITS] = shop.jobs.count - Integer.bitCount(now.printed);
            facts[Law.BLANKS] = now.blanks;
            facts[Law.DAY] = now.day;
            return shop.law.tells(what, facts);
        }

        private void openShop() {
            now = shop.standing;
            thinking = false;
            fillBoxes();
        }

        /** What THE LAW tells of a word while all SORTS lie in the boxes. */
        int askWithAll(int what, Words words, int i) {
            openShop();
            return ask(what, words, i);
        }

        int lacksWithAll(Words words, int i) {
            openShop();
            return countLacking(words, i);
        }

        /** Prints a JOB that lacks nothing. */
        void printByHand(int i) {
            openShop();
            setJob(i);
            breakSortsOf(i);
        }

        /** How things stand, for DAYS that are gone through in thought. */
        Standing beginThought() {
            thought.copyFrom(shop.standing);
            return thought;
        }
    }

    /** What is told for thought alone: SQUARE, ROW, PATTERN, VALUES. */
    private static final class Riddles {
        static final int SIDE = 5;
        private static final int MOST_SIGNS = 8;
        private static final int ANY_ONE = 10;
        private static final int ANY_ROW = 11;

        final Row told = new Row();
        final int[] places = new int[SIDE * SIDE];
        private final int[] signs = new int[MOST_SIGNS];
        int signCount;
        final int[] worths = new int[LETTERS];

        void copyFrom(Riddles other) {
            told.copyFrom(other.told);
            System.arraycopy(other.places, 0, places, 0, SIDE * SIDE);
            System.arraycopy(other.signs, 0, signs, 0, MOST_SIGNS);
            signCount = other.signCount;
            System.arraycopy(other.worths, 0, worths, 0, LETTERS);
        }

        boolean appendSign(int v) {
            if (v < 0 || v > ANY_ROW || signCount >= MOST_SIGNS) {
                return false;
            }
            signs[signCount] = v;
            signCount++;
            return true;
        }

        /** One letter stands once in a place, all others in each of the eight ways that they go. */
        int countInSquare() {
            if (told.length < 1 || told.length > SIDE) {
                return 0;
            }
            int ways = 0;
            for (int dy = -1; dy <= 1; dy++) {
                for (int dx = -1; dx <= 1; dx++) {
                    boolean still = dx == 0 && dy == 0;
                    if (still == (told.length == 1)) {
                        ways += countAlong(dx, dy);
                    }
                }
            }
            return ways;
        }

        private int countAlong(int dx, int dy) {
            int ways = 0;
            for (int y = 0; y < SIDE; y++) {
                for (int x = 0; x < SIDE; x++) {
                    if (standsFrom(x, y, dx, dy)) {
                        ways++;
                    }
                }
            }
            return ways;
        }

        private boolean standsFrom(int fromX, int fromY, int dx, int dy) {
            for (int k = 0; k < told.length; k++) {
                int x = fromX + k * dx;
                int y = fromY + k * dy;
                if (x < 0 || x >= SIDE || y < 0 || y >= SIDE
                    || places[y * SIDE + x] != told.letters[k]) {
                    return false;
                }
            }
            return true;
        }

        /** Bit i of reached tells whether the signs so far fit the first i letters. */
        boolean fitsPattern() {
            int reached = 1;
            for (int s = 0; s < signCount; s++) {
                int further = 0;
                for (int i = 0; i <= told.length; i++) {
                    if ((reached >> i & 1) == 1) {
                        further |= reachedBy(signs[s], i);
                    }
                }
                reached = further;
            }
            return (reached >> told.length & 1) == 1;
        }

        /** How far one sign reaches from place i, as a set. */
        private int reachedBy(int sign, int i) {
            if (sign == ANY_ROW) {
                return -1 << i;
            }
            boolean fits = i < told.length && (sign == ANY_ONE || sign == told.letters[i]);
            return fits ? 1 << i + 1 : 0;
        }

        /** No letter is worth less than 0, so no fewer letters are ever worth more. */
        int greatestSum(int most) {
            int size = Math.min(most, told.length);
            int greatest = 0;
            for (int from = 0; from + size <= told.length; from++) {
                int sum = 0;
                for (int i = from; i < from + size; i++) {
                    sum += worthOf(i);
                }
                greatest = Math.max(greatest, sum);
            }
            return greatest;
        }

        private int worthOf(int i) {
            int letter = told.letters[i];
            return isLetter(letter) ? worths[letter] : 0;
        }

        /** The sums of the beginnings never fall: each letter worth something makes one more. */
        int unlikeSums() {
            int unlike = 1;
            for (int i = 0; i < told.length; i++) {
                if (worthOf(i) > 0) {
                    unlike++;
                }
            }
            return unlike;
        }
    }

    /** The told row of letters, and what is thought of it alone. */
    private static final class Row {
        static final int LONGEST = 12;
        static final int MOST_COLUMNS = 6;

        final int[] letters = new int[LONGEST];
        int length;
        /** Where the turned rows begin, in their order. */
        private final int[] turnedStarts = new int[LONGEST];
        private final int[] shelf = new int[LETTERS];
        /** Into how few mirrors each beginning breaks. */
        private final int[] fewest = new int[LONGEST + 1];

        void copyFrom(Row other) {
            System.arraycopy(other.letters, 0, letters, 0, LONGEST);
            length = other.length;
        }

        boolean append(int letter) {
            if (length >= LONGEST) {
                return false;
            }
            letters[length] = letter;
            length++;
            return true;
        }

        int countNumbers() {
            int before = 0;
            int ways = 1;
            for (int i = 0; i < length; i++) {
                int longer = letters[i] > 0 ? ways : 0;
                if (i > 0 && letters[i - 1] > 0 && letters[i - 1] * 10 + letters[i] <= 26) {
                    longer += before;
                }
                before = ways;
                ways = longer;
            }
            return ways;
        }

        private void orderTurned() {
            for (int start = 0; start < length; start++) {
                int at = start;
                while (at > 0 && isTurnedLess(start, turnedStarts[at - 1])) {
                    turnedStarts[at] = turnedStarts[at - 1];
                    at--;
                }
                turnedStarts[at] = start;
            }
        }

        private boolean isTurnedLess(int start, int other) {
            for (int k = 0; k < length; k++) {
                int one = letters[(start + k) % length];
                int two = letters[(other + k) % length];
                if (one != two) {
                    return one < two;
                }
            }
            return false;
        }

        int lastOfTurned(int i) {
            if (i < 0 || i >= length) {
                return NONE;
            }
            orderTurned();
            return letters[(turnedStarts[i] + length - 1) % length];
        }

        int placeAmongTurned() {
            orderTurned();
            for (int i = 0; i < length; i++) {
                if (turnedStarts[i] == 0) {
                    return i;
                }
            }
            return NONE;
        }

        /** FRONT: where letter i of the row is on the shelf when its turn comes. */
        int placeOnShelf(int i) {
            if (i < 0 || i >= length) {
                return NONE;
            }
            for (int l = 0; l < LETTERS; l++) {
                shelf[l] = l;
            }
            int place = 0;
            for (int k = 0; k <= i; k++) {
                place = takeToFront(letters[k]);
            }
            return place;
        }

        private int takeToFront(int letter) {
            int place = 0;
            while (place < LETTERS - 1 && shelf[place] != letter) {
                place++;
            }
            for (int j = place; j > 0; j--) {
                shelf[j] = shelf[j - 1];
            }
            shelf[0] = letter;
            return place;
        }

        /** Each piece is counted where it stands first. */
        int countPieces() {
            int pieces = 0;
            for (int from = 0; from < length; from++) {
                for (int size = 1; from + size <= length; size++) {
                    if (!standsBefore(from, size)) {
                        pieces++;
                    }
                }
            }
            return pieces;
        }

        private boolean standsBefore(int from, int size) {
            for (int earlier = 0; earlier < from; earlier++) {
                if (areAlike(earlier, from, size)) {
                    return true;
                }
            }
            return false;
        }

        private boolean areAlike(int one, int two, int size) {
            for (int k = 0; k < size; k++) {
                if (letters[one + k] != letters[two + k]) {
                    return false;
                }
            }
            return true;
        }

        int longestBorder() {
            for (int size = length - 1; size > 0; size--) {
                if (areAlike(0, length - size, size)) {
                    return size;
                }
            }
            return 0;
        }

        int fewestMirrors() {
            fewest[0] = 0;
            for (int to = 1; to <= length; to++) {
                fewest[to] = to;
                for (int from = 0; from < to; from++) {
                    if (isMirror(from, to)) {
                        fewest[to] = Math.min(fewest[to], fewest[from] + 1);
                    }
                }
            }
            return fewest[length];
        }

        private boolean isMirror(int from, int to) {
            for (int k = 0; from + k < to - 1 - k; k++) {
                if (letters[from + k] != letters[to - 1 - k]) {
                    return false;
                }
            }
            return true;
        }

        int countHeads() {
            int heads = 0;
            int from = 0;
            while (from < length) {
                from += Math.max(1, headLength(from));
                heads++;
            }
            return heads;
        }

        private int headLength(int from) {
            int size = length - from;
            while (size > 1 && !isHead(from, size)) {
                size--;
            }
            return size;
        }

        /** Whether a piece is less than each of its own ends. */
        private boolean isHead(int from, int size) {
            for (int later = 1; later < size; later++) {
                if (!isLessThanEnd(from, size, later)) {
                    return false;
                }
            }
            return true;
        }

        /** An end that is a beginning of the piece, too, is the lesser one. */
        private boolean isLessThanEnd(int from, int size, int later) {
            for (int k = 0; later + k < size; k++) {
                int one = letters[from + k];
                int two = letters[from + later + k];
                if (one != two) {
                    return one < two;
                }
            }
            return false;
        }

        /** COLUMNS: the i-th letter by a key whose last k digits name the columns. */
        int inColumns(int key, int k, int i) {
            if (i < 0 || i >= length || k < 1) {
                return NONE;
            }
            int power = 1;
            for (int j = 1; j < k; j++) {
                power *= 10;
            }
            int left = i;
            for (int j = 0; j < k && power > 0; j++) {
                for (int at = key / power % 10; at < length; at += k) {
                    if (left == 0) {
                        return letters[at];
                    }
                    left--;
                }
                power /= 10;
            }
            return NONE;
        }
    }

    /** The RING of the order that was asked for last. */
    private static final class Ring {
        static final int MOST = 8;

        private int order;
        private final int[] bits = new int[1 << MOST];
        private int filled;
        private final int[] head = new int[MOST];

        int bitOf(int n, int i) {
            build(n);
            return i >= 0 && i < filled ? bits[i] : NONE;
        }

        int onesBefore(int n, int i) {
            build(n);
            int ones = 0;
            for (int k = 0; k < i && k < filled; k++) {
                ones += bits[k];
            }
            return ones;
        }

        /** Goes in order through all rows of up to n bits that are less than each of their own ends. */
        private void build(int n) {
            if (order == n) {
                return;
            }
            order = n;
            filled = 0;
            head[0] = 0;
            int size = 1;
            for (int step = 0; step < 1 << MOST && size > 0; step++) {
                if (n % size == 0) {
                    append(size);
                }
                size = next(n, size);
            }
        }

        private void append(int size) {
            for (int k = 0; k < size && filled < 1 << MOST; k++) {
                bits[filled] = head[k];
                filled++;
            }
        }

        /** The row is repeated up to n bits, its last ones go, and its last 0 becomes 1. */
        private int next(int n, int size) {
            for (int k = size; k < n; k++) {
                head[k] = head[k - size];
            }
            int longer = n;
            while (longer > 0 && head[longer - 1] == 1) {
                longer--;
            }
            if (longer > 0) {
                head[longer - 1] = 1;
            }
            return longer;
        }
    }
}
