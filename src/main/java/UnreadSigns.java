import java.util.Arrays;

/**
 * An office for signs that nobody can read. The promises are numbered in DOC.md;
 * all rows are made once, with the object, so that no call makes any.
 */
public final class UnreadSigns {
    public static final int NONE = -1;

    private static final int NOT_FOUND = -2;
    private static final int TAPE_BYTES = 300;
    private static final int TAPE_END = -1;
    private static final int FEED_BYTES = 20;
    private static final int BLANK = 32;

    private static final int MAX_FORMS = 20;
    private static final int FORM_ROWS = 5;
    private static final int FORM_PLACES = 25;
    private static final int MOST_OF_ROW = 31;
    private static final int ALL_PLACES = 0x1FFFFFF;
    private static final int LEFT_COLUMN = 0x1084210;
    private static final int RIGHT_COLUMN = 0x0108421;

    private static final int MAX_STONES = 6;
    private static final int STONE_ROWS = 4;
    private static final int MAX_ROWS = 24;
    private static final int ROW_PLACES = 10;

    private static final int MAX_NAMES = 4;
    private static final int LEAST_SYLLABLES = 2;
    private static final int VOWEL_KINDS = 5;
    private static final int CONSONANT_KINDS = 10;
    private static final String CONSONANTS = "ptkmnrlswj";
    private static final String VOWELS = "aeiou";

    private static final int LOOSE = 0;
    private static final int WAY = 1;
    private static final int RISE = 2;
    private static final int TIE = 3;
    private static final int CLUE = 4;
    private static final int GUESS = 5;
    private static final int MAX_ACTS = 20;
    private static final int MAX_CLUES = 12;
    private static final int FREE = 0;
    private static final int ALIKE = 1;
    private static final int APART = 2;

    private static final int TO_THE_RIGHT = 0;
    private static final int TO_THE_LEFT = 1;
    private static final int BY_TURNS = 2;
    private static final int AS_JUDGED = 3;

    private static final int WORD_SIGNS = 7;
    private static final int SIGN_BITS = 5;
    private static final long SIGN_MASK = 31L;
    // A ROW of 10 SIGNS has 5 WORDS at most, as only its last WORD can be of one SIGN.
    private static final int MAX_WORDS = 120;
    private static final int MAX_STEMS = 60;
    // Three longs have a bit for each WORD; 40 bits each, as the second one is in use often enough to be tested.
    private static final int BIT_ROWS = 3;
    private static final int ROW_BITS = 40;

    private static final int MOST_WAYS = 999;
    private static final int MOST_TESTS = 50;
    private static final long DRAW_MASK = 2147483647L;

    private final Tape tape;
    private final Forms book;
    private final Stones quarry;
    private final Names roll;
    private final Hand hand;
    private final Reading reading;
    private final Lexicon lexicon;
    private final Net lines;
    private final Net files;
    private final Values values;
    private final Match match;
    private final Ways choices;
    private int seed;
    // What is worked out anew when it is asked for: SIGNS to CLUES of WORDS; the GRID to HITS; WAYS.
    private boolean staleScript;
    private boolean staleGrid;
    private boolean staleWays;

    public UnreadSigns() {
        tape = new Tape();
        book = new Forms();
        quarry = new Stones();
        roll = new Names();
        hand = new Hand();
        reading = new Reading();
        lexicon = new Lexicon();
        lines = new Net(false);
        files = new Net(true);
        values = new Values();
        match = new Match(roll, lexicon, values);
        choices = new Ways(match, roll, lexicon, lines, files);
        staleScript = true;
    }

    public int feed(int a, int b, int c, int d, int e) {
        if (tape.used() + FEED_BYTES > TAPE_BYTES) {
            return NONE;
        }
        tape.put(a);
        tape.put(b);
        tape.put(c);
        tape.put(d);
        tape.put(e);
        return tape.used();
    }

    public int end(int n) {
        return tape.cutTo(n) ? n : NONE;
    }

    public int forms() {
        int answer = book.takeFrom(tape);
        tape.cutTo(0);
        if (answer >= 0) {
            quarry.startAnew();
            hand.startAnew();
            staleScript = true;
        }
        return answer;
    }

    public int stone() {
        if (quarry.isFull()) {
            return NONE;
        }
        int answer = quarry.takeFrom(tape, book.told());
        tape.cutTo(0);
        if (answer >= 0) {
            hand.forgetActs();
            staleScript = true;
        }
        return answer;
    }

    public int name() {
        if (roll.isFull()) {
            return NONE;
        }
        int answer = roll.takeFrom(tape);
        tape.cutTo(0);
        if (answer >= 0) {
            staleGrid = true;
        }
        return answer;
    }

    public int unlike(int one, int other) {
        return book.unlikeOf(one, other);
    }

    public int sign(int form) {
        freshenScript();
        return book.signOf(form);
    }

    public int size(int form) {
        freshenScript();
        return book.sizeOf(form);
    }

    public int tree(int k, int what) {
        return book.treeAt(k, what);
    }

    public int loose(int n) {
        return changeSetting(LOOSE, n, 0, FORM_PLACES);
    }

    public boolean alike(int one, int other, boolean is) {
        return changeTie(one, other, ALIKE, is);
    }

    public boolean apart(int one, int other, boolean is) {
        return changeTie(one, other, APART, is);
    }

    public int way(int n) {
        return changeSetting(WAY, n, TO_THE_RIGHT, AS_JUDGED);
    }

    public int judged(int what) {
        freshenScript();
        return reading.verdict(what);
    }

    public int read(int stone, int row, int k) {
        int at = quarry.rowNumber(stone, row);
        if (at == NONE) {
            return NONE;
        }
        freshenScript();
        return k == NONE ? reading.lengthOf(at) : reading.signAt(at, k);
    }

    public int comes() {
        freshenScript();
        return findTapePiece() ? reading.foundTimes() : NONE;
    }

    public int next() {
        freshenScript();
        return findTapePiece() ? reading.followers() : NONE;
    }

    public int rise(int n) {
        return changeSetting(RISE, n, 1, 9);
    }

    public int words() {
        freshenScript();
        return lexicon.held();
    }

    public int word(int k, int what) {
        freshenScript();
        return lexicon.wordFact(k, what);
    }

    public int rank(int k) {
        freshenScript();
        return lexicon.rankedWord(k);
    }

    public int stands(int form, int what) {
        freshenScript();
        int sign = book.signOf(form);
        if (sign == NONE) {
            return NONE;
        }
        return what == 0 ? reading.timesOf(sign) : lexicon.timesOf(sign, what);
    }

    public int ahead(int one, int other) {
        freshenScript();
        int first = book.signOf(one);
        int second = book.signOf(other);
        return first == NONE || second == NONE ? NONE : reading.timesAhead(first, second);
    }

    public int stem(int k, int what) {
        freshenScript();
        return k == NONE ? lexicon.stemsHeld() : lexicon.stemFact(k, what);
    }

    public int clue(int one, int other, boolean file) {
        freshenScript();
        int first = book.signOf(one);
        int second = book.signOf(other);
        if (first == NONE || second == NONE || first == second) {
            return NONE;
        }
        int answer = hand.tellClue(one, other, file);
        if (answer != NONE) {
            staleGrid = true;
        }
        return answer;
    }

    public int clues(boolean file) {
        freshenGrid();
        return netOf(file).twos();
    }

    public int place(int form, boolean file) {
        freshenGrid();
        return netOf(file).labelOf(book.signOf(form));
    }

    public int clash(int what) {
        if (what < 0 || what > 2) {
            return NONE;
        }
        freshenGrid();
        for (int one = 0; one < book.told(); one++) {
            for (int other = one + 1; other < book.told(); other++) {
                if (clashing(one, other)) {
                    return clashFact(one, other, what);
                }
            }
        }
        return NOT_FOUND;
    }

    public int clashes() {
        freshenGrid();
        int n = 0;
        for (int one = 0; one < book.told(); one++) {
            for (int other = one + 1; other < book.told(); other++) {
                n += clashing(one, other) ? 1 : 0;
            }
        }
        return n;
    }

    public int guess(int form, int consonant, int vowel) {
        int value = syllableOf(consonant, vowel);
        if (!book.has(form) || value == NOT_FOUND || !hand.tellGuess(form, value)) {
            return NONE;
        }
        staleGrid = true;
        freshenGrid();
        return values.disputedSigns();
    }

    public int known(int form, int what) {
        freshenGrid();
        return values.factOf(book.signOf(form), what);
    }

    public int fits(int name, int k) {
        if (!roll.has(name)) {
            return NONE;
        }
        freshenGrid();
        return k == NONE ? match.fitting(name) : match.fittingWord(name, k);
    }

    public int hits() {
        freshenGrid();
        return match.hitsNow();
    }

    public int ways(int name) {
        if (name != NONE && !roll.has(name)) {
            return NONE;
        }
        freshenGrid();
        if (staleWays) {
            choices.settle();
            staleWays = false;
        }
        return name == NONE ? choices.found() : choices.firstWord(name);
    }

    public int draws(int x) {
        if (x < 0) {
            return NONE;
        }
        int was = seed;
        seed = x;
        return was;
    }

    public int test(int m) {
        if (m < 1 || m > MOST_TESTS) {
            return NONE;
        }
        freshenGrid();
        return match.asGoodByChance(m, seed);
    }

    public int undo() {
        int kind = hand.undoLast();
        if (kind == NONE) {
            return NONE;
        }
        if (kind == CLUE || kind == GUESS) {
            staleGrid = true;
        } else {
            staleScript = true;
        }
        return hand.actsHeld();
    }

    public int count(int what) {
        freshenGrid();
        switch (what) {
            case 0: return book.told();
            case 1: return book.signsHeld();
            case 2: return quarry.told();
            case 3: return quarry.allRows();
            case 4: return reading.allSigns();
            case 5: return lexicon.allCuts();
            case 6: return hand.settingOf(LOOSE);
            case 7: return hand.settingOf(WAY);
            case 8: return hand.settingOf(RISE);
            case 9: return roll.told();
            case 10: return lines.groups(book);
            case 11: return files.groups(book);
            case 12: return values.disputedSigns();
            case 13: return hand.guessesHeld();
            case 14: return hand.cluesHeld();
            case 15: return hand.actsHeld();
            case 16: return seed;
            case 17: return tape.used();
            default: return NONE;
        }
    }

    private int changeSetting(int which, int n, int least, int most) {
        int was = hand.settingOf(which);
        if (n < least || n > most || n == was) {
            return NONE;
        }
        hand.set(which, n);
        staleScript = true;
        return was;
    }

    private boolean changeTie(int one, int other, int tie, boolean is) {
        if (!book.has(one) || !book.has(other) || one == other) {
            return false;
        }
        boolean told = hand.tellTie(one, other, tie, is);
        staleScript |= told;
        return told;
    }

    private boolean findTapePiece() {
        int length = tape.used();
        boolean good = length >= 1 && length <= WORD_SIGNS;
        for (int i = 0; i < length && good; i++) {
            int sign = book.signOf(letterOf(tape.byteAt(i)));
            if (sign == NONE) {
                good = false;
            } else if (i == 0) {
                reading.startPiece(sign);
            } else {
                reading.growPiece(sign);
            }
        }
        tape.cutTo(0);
        return good;
    }

    private Net netOf(boolean file) {
        return file ? files : lines;
    }

    private boolean clashing(int one, int other) {
        return book.isSign(one) && book.isSign(other)
                && lines.together(one, other) && files.together(one, other);
    }

    private int clashFact(int one, int other, int what) {
        if (what == 0) {
            return one;
        }
        return what == 1 ? other : lines.stepsBetween(one, other) + files.stepsBetween(one, other);
    }

    private void freshenScript() {
        if (staleScript) {
            settleScript();
        }
    }

    private void freshenGrid() {
        if (staleScript) {
            settleScript();
        }
        if (staleGrid) {
            settleGrid();
        }
    }

    private void settleScript() {
        book.settleSigns(hand);
        reading.settle(quarry, book, hand.settingOf(WAY));
        lexicon.settle(reading, hand.settingOf(RISE));
        lines.forgetWords();
        files.forgetWords();
        lexicon.compareWords(lines, files);
        staleScript = false;
        staleGrid = true;
    }

    private void settleGrid() {
        lines.settle(book, hand);
        files.settle(book, hand);
        values.settle(book, hand, lines, files);
        match.settle();
        staleGrid = false;
        staleWays = true;
    }

    private static int faultAt(int place, int kind) {
        return -2 - (8 * place + kind);
    }

    private static int letterOf(int b) {
        return b >= 'a' && b <= 'z' ? b - 'a' : NONE;
    }

    /** The SYLLABLE as one number, NONE for no GUESS, NOT_FOUND for what is neither. */
    private static int syllableOf(int consonant, int vowel) {
        if (consonant == NONE && vowel == NONE) {
            return NONE;
        }
        boolean right = consonant >= 0 && consonant < CONSONANT_KINDS && vowel >= 0 && vowel < VOWEL_KINDS;
        return right ? consonant * VOWEL_KINDS + vowel : NOT_FOUND;
    }

    private static void startLabels(int[] labels) {
        for (int i = 0; i < labels.length; i++) {
            labels[i] = i;
        }
    }

    /** Labels stay the least member of each group, which is what SIGNS, LINES and FILES are named by. */
    private static boolean joinLabels(int[] labels, int one, int other) {
        if (one < 0 || other < 0 || one >= labels.length || other >= labels.length) {
            return false;
        }
        int least = Math.min(labels[one], labels[other]);
        int most = Math.max(labels[one], labels[other]);
        if (least == most) {
            return false;
        }
        for (int i = 0; i < labels.length; i++) {
            if (labels[i] == most) {
                labels[i] = least;
            }
        }
        return true;
    }

    /** What is fed, till it is told. */
    private static final class Tape {
        private final int[] bytes = new int[TAPE_BYTES];
        private int length;

        int used() {
            return length;
        }

        void put(int number) {
            for (int shift = 24; shift >= 0 && length < TAPE_BYTES; shift -= 8) {
                bytes[length] = (number >>> shift) & 255;
                length++;
            }
        }

        boolean cutTo(int n) {
            if (n < 0 || n > length) {
                return false;
            }
            length = n;
            return true;
        }

        int byteAt(int at) {
            return at >= 0 && at < length ? bytes[at] : TAPE_END;
        }
    }

    /** The FORMS, how unlike they are, their TREE, and the SIGNS that they make. */
    private static final class Forms {
        // A FORM is 25 bits: its uppermost row the highest five, its leftmost place the highest of each.
        private final int[] drawn = new int[MAX_FORMS];
        private final int[] staged = new int[MAX_FORMS];
        private final int[] unlikes = new int[MAX_FORMS * MAX_FORMS];
        private final int[] treeForms = new int[MAX_FORMS * 2];
        private final int[] labels = new int[MAX_FORMS];
        private final int[] signs = new int[MAX_FORMS];
        private final int[] sizes = new int[MAX_FORMS];
        private int told;
        private int stagedCount;
        private int at;
        private int treeCount;
        private int signCount;

        int told() {
            return told;
        }

        boolean has(int form) {
            return form >= 0 && form < told;
        }

        int takeFrom(Tape tape) {
            at = 0;
            stagedCount = 0;
            int answer = 0;
            // The last round is the one that refuses a 21st FORM.
            for (int n = 0; n <= MAX_FORMS && answer == 0; n++) {
                skipBlanks(tape);
                if (tape.byteAt(at) == TAPE_END) {
                    keepStaged();
                    return told;
                }
                answer = stageForm(tape);
            }
            return answer;
        }

        private int stageForm(Tape tape) {
            int begin = at;
            int form = 0;
            for (int i = 0; i < FORM_ROWS; i++) {
                skipBlanks(tape);
                int start = at;
                int number = takeNumber(tape);
                if (at == start) {
                    return faultAt(at, 1);
                }
                if (number > MOST_OF_ROW) {
                    return faultAt(start, 2);
                }
                if (stagedCount >= MAX_FORMS) {
                    return faultAt(start, 3);
                }
                form = form * (MOST_OF_ROW + 1) + number;
            }
            skipBlanks(tape);
            if (tape.byteAt(at) != ';') {
                return faultAt(at, 1);
            }
            at++;
            if (isStaged(form)) {
                return faultAt(begin, 4);
            }
            staged[stagedCount] = form;
            stagedCount++;
            return 0;
        }

        private void skipBlanks(Tape tape) {
            while (at < TAPE_BYTES && tape.byteAt(at) == BLANK) {
                at++;
            }
        }

        private int takeNumber(Tape tape) {
            int number = 0;
            while (at < TAPE_BYTES && tape.byteAt(at) >= '0' && tape.byteAt(at) <= '9') {
                // Held just above the most that is right, so that many digits cannot overflow.
                number = Math.min(MOST_OF_ROW + 1, number * 10 + tape.byteAt(at) - '0');
                at++;
            }
            return number;
        }

        private boolean isStaged(int form) {
            for (int i = 0; i < stagedCount; i++) {
                if (staged[i] == form) {
                    return true;
                }
            }
            return false;
        }

        private void keepStaged() {
            told = stagedCount;
            System.arraycopy(staged, 0, drawn, 0, MAX_FORMS);
            for (int one = 0; one < told; one++) {
                for (int other = one; other < told; other++) {
                    int least = leastUnlike(drawn[one], drawn[other]);
                    unlikes[one * MAX_FORMS + other] = least;
                    unlikes[other * MAX_FORMS + one] = least;
                }
            }
            growTree();
        }

        private static int leastUnlike(int one, int other) {
            int least = FORM_PLACES;
            int shifted = ((other << FORM_ROWS) | (other >>> 20)) & ALL_PLACES;
            for (int down = -1; down <= 1; down++) {
                int moved = ((shifted << 1) & ~RIGHT_COLUMN & ALL_PLACES) | ((shifted >>> 4) & RIGHT_COLUMN);
                for (int right = -1; right <= 1; right++) {
                    least = Math.min(least, Integer.bitCount(one ^ moved));
                    moved = ((moved >>> 1) & ~LEFT_COLUMN) | ((moved << 4) & LEFT_COLUMN);
                }
                shifted = (shifted >>> FORM_ROWS) | ((shifted << 20) & ALL_PLACES);
            }
            return least;
        }

        private void growTree() {
            treeCount = 0;
            startLabels(labels);
            for (int much = 0; much <= FORM_PLACES; much++) {
                for (int one = 0; one < told; one++) {
                    for (int other = one + 1; other < told; other++) {
                        if (unlikes[one * MAX_FORMS + other] == much && joinLabels(labels, one, other)) {
                            addBranch(one, other);
                        }
                    }
                }
            }
        }

        private void addBranch(int one, int other) {
            if (treeCount < MAX_FORMS) {
                treeForms[treeCount * 2] = one;
                treeForms[treeCount * 2 + 1] = other;
                treeCount++;
            }
        }

        int unlikeOf(int one, int other) {
            return has(one) && has(other) ? unlikes[one * MAX_FORMS + other] : NONE;
        }

        int treeAt(int k, int what) {
            if (k < 0 || k >= treeCount || what < 0 || what > 2) {
                return NONE;
            }
            int one = treeForms[k * 2];
            int other = treeForms[k * 2 + 1];
            if (what == 0) {
                return unlikeOf(one, other);
            }
            return what == 1 ? one : other;
        }

        void settleSigns(Hand hand) {
            startLabels(signs);
            for (int one = 0; one < told; one++) {
                for (int other = one + 1; other < told; other++) {
                    if (linked(one, other, hand)) {
                        joinLabels(signs, one, other);
                    }
                }
            }
            signCount = 0;
            Arrays.fill(sizes, 0);
            for (int form = 0; form < told; form++) {
                int sign = signOf(form);
                if (sign >= 0 && sign < MAX_FORMS) {
                    sizes[sign]++;
                }
                signCount += sign == form ? 1 : 0;
            }
        }

        private boolean linked(int one, int other, Hand hand) {
            int tie = hand.tieOf(one, other);
            return tie == ALIKE || tie != APART && unlikeOf(one, other) <= hand.settingOf(LOOSE);
        }

        int signOf(int form) {
            return has(form) ? signs[form] : NONE;
        }

        boolean isSign(int form) {
            return has(form) && signs[form] == form;
        }

        int sizeOf(int form) {
            int sign = signOf(form);
            return sign >= 0 && sign < MAX_FORMS ? sizes[sign] : NONE;
        }

        int signsHeld() {
            return signCount;
        }
    }

    /** The STONES as they are told: of each ROW its LETTERS and the empty places at both ends. */
    private static final class Stones {
        private final int[] letters = new int[MAX_ROWS * ROW_PLACES];
        private final int[] lengths = new int[MAX_ROWS];
        private final int[] leftEmpty = new int[MAX_ROWS];
        private final int[] rightEmpty = new int[MAX_ROWS];
        private final int[] rowCounts = new int[MAX_STONES];
        private int told;
        private int row;
        private int length;
        private int left;
        private int right;

        int told() {
            return told;
        }

        boolean isFull() {
            return told >= MAX_STONES;
        }

        void startAnew() {
            told = 0;
        }

        /** Rows beyond the last STONE are not looked at, so a text with a FAULT may leave its traces there. */
        int takeFrom(Tape tape, int forms) {
            row = 0;
            openRow();
            for (int at = 0; at <= TAPE_BYTES && told < MAX_STONES; at++) {
                int b = tape.byteAt(at);
                int fault = faultOf(b, forms);
                if (fault != 0) {
                    return faultAt(at, fault);
                }
                if (b == TAPE_END) {
                    closeRow();
                    rowCounts[told] = row;
                    told++;
                    return told - 1;
                }
                take(b);
            }
            return NONE;
        }

        private int faultOf(int b, int forms) {
            if (b == TAPE_END || b == '/') {
                return length == 0 ? 1 : 0;
            }
            boolean tooMuch = row >= STONE_ROWS || left + length + right >= ROW_PLACES;
            if (b == '.') {
                return tooMuch ? 3 : 0;
            }
            int letter = letterOf(b);
            if (letter == NONE || right > 0) {
                return 1;
            }
            if (letter >= forms) {
                return 2;
            }
            return tooMuch ? 3 : 0;
        }

        private void take(int b) {
            if (b == '/') {
                closeRow();
                openRow();
            } else if (b != '.') {
                int at = (told * STONE_ROWS + row) * ROW_PLACES + length;
                if (at < letters.length) {
                    letters[at] = letterOf(b);
                }
                length++;
            } else if (length == 0) {
                left++;
            } else {
                right++;
            }
        }

        private void openRow() {
            length = 0;
            left = 0;
            right = 0;
        }

        private void closeRow() {
            int at = told * STONE_ROWS + row;
            if (at < MAX_ROWS) {
                lengths[at] = length;
                leftEmpty[at] = left;
                rightEmpty[at] = right;
            }
            row++;
        }

        int rowsOf(int stone) {
            return stone >= 0 && stone < told ? rowCounts[stone] : 0;
        }

        int allRows() {
            int n = 0;
            for (int stone = 0; stone < told; stone++) {
                n += rowsOf(stone);
            }
            return n;
        }

        /** Each STONE has four numbers for its ROWS, whether it has so many or not. */
        int rowNumber(int stone, int which) {
            return which >= 0 && which < rowsOf(stone) ? stone * STONE_ROWS + which : NONE;
        }

        private static boolean isRow(int at) {
            return at >= 0 && at < MAX_ROWS;
        }

        int lengthOf(int at) {
            return isRow(at) ? lengths[at] : 0;
        }

        int letterAt(int at, int k) {
            return isRow(at) && k >= 0 && k < lengths[at] ? letters[at * ROW_PLACES + k] : NONE;
        }

        /** Above 0: more empty places at the right end; below 0: more at the left one. */
        int raggedness(int at) {
            return isRow(at) ? rightEmpty[at] - leftEmpty[at] : 0;
        }
    }

    /** The NAMES, as rows of SYLLABLES. */
    private static final class Names {
        private final int[] syllables = new int[MAX_NAMES * WORD_SIGNS];
        private final int[] lengths = new int[MAX_NAMES];
        private int told;

        int told() {
            return told;
        }

        boolean has(int name) {
            return name >= 0 && name < told;
        }

        boolean isFull() {
            return told >= MAX_NAMES;
        }

        int takeFrom(Tape tape) {
            for (int n = 0; n <= WORD_SIGNS && told < MAX_NAMES; n++) {
                int at = 2 * n;
                if (n >= LEAST_SYLLABLES && tape.byteAt(at) == TAPE_END) {
                    return keep(n);
                }
                int consonant = kindOf(tape.byteAt(at), CONSONANTS);
                if (consonant == NONE) {
                    return faultAt(at, 1);
                }
                if (n == WORD_SIGNS) {
                    return faultAt(at, 2);
                }
                int vowel = kindOf(tape.byteAt(at + 1), VOWELS);
                if (vowel == NONE) {
                    return faultAt(at + 1, 1);
                }
                syllables[told * WORD_SIGNS + n] = consonant * VOWEL_KINDS + vowel;
            }
            return NONE;
        }

        private static int kindOf(int b, String kinds) {
            return b == TAPE_END ? NONE : kinds.indexOf((char) b);
        }

        private int keep(int length) {
            if (told >= MAX_NAMES) {
                return NONE;
            }
            lengths[told] = length;
            for (int name = 0; name < told; name++) {
                if (same(name, told)) {
                    return faultAt(0, 3);
                }
            }
            told++;
            return told - 1;
        }

        private boolean same(int one, int other) {
            if (lengths[one] != lengths[other]) {
                return false;
            }
            for (int i = 0; i < lengths[one]; i++) {
                if (syllables[one * WORD_SIGNS + i] != syllables[other * WORD_SIGNS + i]) {
                    return false;
                }
            }
            return true;
        }

        int lengthOf(int name) {
            return has(name) ? lengths[name] : 0;
        }

        int syllableAt(int name, int k) {
            return has(name) && k >= 0 && k < lengths[name] ? syllables[name * WORD_SIGNS + k] : NONE;
        }
    }

    /** All that ACTS change, and the last ACTS with what was there ahead of them. */
    private static final class Hand {
        private final int[] settings = new int[3];
        private final int[] ties = new int[MAX_FORMS * MAX_FORMS];
        private final int[] clueOnes = new int[MAX_CLUES];
        private final int[] clueOthers = new int[MAX_CLUES];
        private final boolean[] clueFiles = new boolean[MAX_CLUES];
        private final int[] guesses = new int[MAX_FORMS];
        private final int[] actKinds = new int[MAX_ACTS];
        private final int[] actPlaces = new int[MAX_ACTS];
        private final int[] actWere = new int[MAX_ACTS];
        private int clueCount;
        private int guessCount;
        private int actCount;

        Hand() {
            startAnew();
        }

        void startAnew() {
            settings[LOOSE] = 2;
            settings[WAY] = AS_JUDGED;
            settings[RISE] = 2;
            Arrays.fill(ties, FREE);
            Arrays.fill(guesses, NONE);
            clueCount = 0;
            guessCount = 0;
            actCount = 0;
        }

        void forgetActs() {
            actCount = 0;
        }

        int actsHeld() {
            return actCount;
        }

        int cluesHeld() {
            return clueCount;
        }

        int guessesHeld() {
            return guessCount;
        }

        int settingOf(int which) {
            return which >= 0 && which < settings.length ? settings[which] : NONE;
        }

        void set(int which, int n) {
            if (which >= 0 && which < settings.length) {
                note(which, which, settings[which]);
                settings[which] = n;
            }
        }

        private static int tiePlace(int one, int other) {
            boolean right = one >= 0 && other >= 0 && one < MAX_FORMS && other < MAX_FORMS;
            return right ? Math.min(one, other) * MAX_FORMS + Math.max(one, other) : NONE;
        }

        int tieOf(int one, int other) {
            int at = tiePlace(one, other);
            return at >= 0 && at < ties.length ? ties[at] : FREE;
        }

        boolean tellTie(int one, int other, int tie, boolean is) {
            int at = tiePlace(one, other);
            if (at < 0 || at >= ties.length || (ties[at] == tie) == is) {
                return false;
            }
            note(TIE, at, ties[at]);
            ties[at] = is ? tie : FREE;
            return true;
        }

        int tellClue(int one, int other, boolean file) {
            if (clueCount >= MAX_CLUES || clueIsTold(one, other, file)) {
                return NONE;
            }
            note(CLUE, 0, 0);
            clueOnes[clueCount] = one;
            clueOthers[clueCount] = other;
            clueFiles[clueCount] = file;
            clueCount++;
            return clueCount;
        }

        private boolean clueIsTold(int one, int other, boolean file) {
            for (int i = 0; i < clueCount; i++) {
                boolean same = clueOnes[i] == one && clueOthers[i] == other;
                boolean turned = clueOnes[i] == other && clueOthers[i] == one;
                if (clueFiles[i] == file && (same || turned)) {
                    return true;
                }
            }
            return false;
        }

        boolean clueIsOf(int k, boolean file) {
            return k >= 0 && k < clueCount && clueFiles[k] == file;
        }

        int clueOne(int k) {
            return k >= 0 && k < clueCount ? clueOnes[k] : NONE;
        }

        int clueOther(int k) {
            return k >= 0 && k < clueCount ? clueOthers[k] : NONE;
        }

        int guessOf(int form) {
            return form >= 0 && form < MAX_FORMS ? guesses[form] : NONE;
        }

        boolean tellGuess(int form, int value) {
            if (form < 0 || form >= MAX_FORMS || guesses[form] == value) {
                return false;
            }
            note(GUESS, form, guesses[form]);
            putGuess(form, value);
            return true;
        }

        private void putGuess(int form, int value) {
            if (form >= 0 && form < MAX_FORMS) {
                guessCount += (value == NONE ? 0 : 1) - (guesses[form] == NONE ? 0 : 1);
                guesses[form] = value;
            }
        }

        private void note(int kind, int place, int was) {
            if (actCount >= MAX_ACTS) {
                forgetFirst(actKinds);
                forgetFirst(actPlaces);
                forgetFirst(actWere);
                actCount = MAX_ACTS - 1;
            }
            actKinds[actCount] = kind;
            actPlaces[actCount] = place;
            actWere[actCount] = was;
            actCount++;
        }

        private static void forgetFirst(int[] acts) {
            System.arraycopy(acts, 1, acts, 0, acts.length - 1);
        }

        /** The kind of the ACT that is undone, or NONE. */
        int undoLast() {
            if (actCount <= 0) {
                return NONE;
            }
            actCount--;
            int kind = actKinds[actCount];
            int at = actPlaces[actCount];
            int was = actWere[actCount];
            if (kind == CLUE) {
                // CLUES are only ever taken back by undoing, so the last one told is this one.
                clueCount = Math.max(0, clueCount - 1);
            } else if (kind == GUESS) {
                putGuess(at, was);
            } else if (kind == TIE && at >= 0 && at < ties.length) {
                ties[at] = was;
            } else if (at >= 0 && at < settings.length) {
                settings[at] = was;
            }
            return kind;
        }
    }

    /** The ROWS as they are read, the judgement on their WAY, and PIECES looked for in them. */
    private static final class Reading {
        private final int[] signs = new int[MAX_ROWS * ROW_PLACES];
        private final int[] lengths = new int[MAX_ROWS];
        // Where the PIECE that is looked for begins.
        private final int[] found = new int[MAX_ROWS * ROW_PLACES];
        private int foundCount;
        private int pieceLength;
        private int raggedRight;
        private int raggedLeft;
        private int endsRight;
        private int endsLeft;

        void settle(Stones stones, Forms forms, int way) {
            Arrays.fill(lengths, 0);
            judge(stones, forms);
            for (int stone = 0; stone < stones.told(); stone++) {
                for (int row = 0; row < stones.rowsOf(stone); row++) {
                    readRow(stones, forms, stones.rowNumber(stone, row), isTurned(way, row));
                }
            }
        }

        private boolean isTurned(int way, int row) {
            switch (way) {
                case TO_THE_RIGHT: return false;
                case TO_THE_LEFT: return true;
                case BY_TURNS: return row % 2 == 1;
                default: return verdict(0) == TO_THE_LEFT;
            }
        }

        private void readRow(Stones stones, Forms forms, int at, boolean turned) {
            if (!isRow(at)) {
                return;
            }
            int length = Math.min(ROW_PLACES, stones.lengthOf(at));
            lengths[at] = length;
            for (int k = 0; k < length; k++) {
                int letter = stones.letterAt(at, turned ? length - 1 - k : k);
                signs[at * ROW_PLACES + k] = forms.signOf(letter);
            }
        }

        private void judge(Stones stones, Forms forms) {
            raggedRight = 0;
            raggedLeft = 0;
            int rightSigns = 0;
            int leftSigns = 0;
            for (int stone = 0; stone < stones.told(); stone++) {
                int rows = stones.rowsOf(stone);
                int ragged = rows < 2 ? 0 : stones.raggedness(stones.rowNumber(stone, rows - 1));
                raggedRight += ragged > 0 ? 1 : 0;
                raggedLeft += ragged < 0 ? 1 : 0;
                for (int row = 0; row < rows; row++) {
                    int at = stones.rowNumber(stone, row);
                    rightSigns |= 1 << forms.signOf(stones.letterAt(at, stones.lengthOf(at) - 1));
                    leftSigns |= 1 << forms.signOf(stones.letterAt(at, 0));
                }
            }
            endsRight = Integer.bitCount(rightSigns);
            endsLeft = Integer.bitCount(leftSigns);
        }

        int verdict(int what) {
            switch (what) {
                case 0:
                    if (raggedRight != raggedLeft) {
                        return raggedRight > raggedLeft ? TO_THE_RIGHT : TO_THE_LEFT;
                    }
                    return endsLeft < endsRight ? TO_THE_LEFT : TO_THE_RIGHT;
                case 1: return raggedRight;
                case 2: return raggedLeft;
                case 3: return endsRight;
                case 4: return endsLeft;
                default: return NONE;
            }
        }

        private static boolean isRow(int at) {
            return at >= 0 && at < MAX_ROWS;
        }

        int lengthOf(int at) {
            return isRow(at) ? lengths[at] : 0;
        }

        int signAt(int at, int k) {
            return isRow(at) && k >= 0 && k < lengths[at] ? signs[at * ROW_PLACES + k] : NONE;
        }

        int allSigns() {
            int n = 0;
            for (int at = 0; at < MAX_ROWS; at++) {
                n += lengths[at];
            }
            return n;
        }

        int timesOf(int sign) {
            startPiece(sign);
            return foundCount;
        }

        int timesAhead(int first, int second) {
            startPiece(first);
            growPiece(second);
            return foundCount;
        }

        void startPiece(int sign) {
            foundCount = 0;
            pieceLength = 1;
            for (int at = 0; at < MAX_ROWS; at++) {
                for (int k = 0; k < lengths[at] && k < ROW_PLACES; k++) {
                    if (signs[at * ROW_PLACES + k] == sign && foundCount < found.length) {
                        found[foundCount] = at * ROW_PLACES + k;
                        foundCount++;
                    }
                }
            }
        }

        void growPiece(int sign) {
            int kept = 0;
            for (int i = 0; i < foundCount; i++) {
                if (signBehind(found[i]) == sign) {
                    found[kept] = found[i];
                    kept++;
                }
            }
            foundCount = kept;
            pieceLength++;
        }

        /** The SIGN right behind the PIECE that begins there, NONE at the end of the ROW. */
        private int signBehind(int begin) {
            int at = begin / ROW_PLACES;
            int k = begin % ROW_PLACES + pieceLength;
            boolean inside = at >= 0 && at < MAX_ROWS && k < lengths[at];
            return inside ? signs[at * ROW_PLACES + k] : NONE;
        }

        int foundTimes() {
            return foundCount;
        }

        /** NEXT of the PIECE. */
        int followers() {
            int seen = 0;
            for (int i = 0; i < foundCount; i++) {
                // Bit 0 is the end of a ROW, as NONE + 1 is 0.
                seen |= 1 << (signBehind(found[i]) + 1);
            }
            return Integer.bitCount(seen);
        }

        /** How many SIGNS the WORD has that is cut from there on. */
        int wordLength(int at, int from, int rise) {
            startPiece(signAt(at, from));
            int before = followers();
            int most = Math.min(WORD_SIGNS, lengthOf(at) - from);
            for (int n = 2; n <= most; n++) {
                growPiece(signAt(at, from + n - 1));
                int now = followers();
                if (now > before && now >= rise) {
                    return n;
                }
                before = now;
            }
            return most;
        }
    }

    /** The LEXICON and its STEMS. */
    private static final class Lexicon {
        // A row of SIGNS as one number, five bits a SIGN, the first one highest, each 1 more than it is,
        // so that the order of numbers is that of letters, a beginning ahead of what goes on.
        private final long[] keys = new long[MAX_WORDS];
        private final int[] times = new int[MAX_WORDS];
        private final int[] lengths = new int[MAX_WORDS];
        private final int[] ranked = new int[MAX_WORDS];
        private final long[] stemKeys = new long[MAX_STEMS];
        private final int[] stemEndings = new int[MAX_STEMS];
        private int held;
        private int cuts;
        private int stemCount;

        private static int shiftOf(int k) {
            return SIGN_BITS * (WORD_SIGNS - 1 - k);
        }

        private static int signOfKey(long key, int k) {
            boolean inside = k >= 0 && k < WORD_SIGNS;
            return inside ? (int) (key >>> SIGN_BITS * (WORD_SIGNS - 1 - k) & SIGN_MASK) - 1 : NONE;
        }

        private static int lengthOfKey(long key) {
            int n = 0;
            while (n < WORD_SIGNS && signOfKey(key, n) != NONE) {
                n++;
            }
            return n;
        }

        void settle(Reading reading, int rise) {
            held = 0;
            cuts = 0;
            for (int at = 0; at < MAX_ROWS; at++) {
                cutRow(reading, at, rise);
            }
            for (int k = 0; k < held; k++) {
                lengths[k] = lengthOfKey(keys[k]);
            }
            rankWords();
        }

        private void cutRow(Reading reading, int at, int rise) {
            int from = 0;
            while (from < reading.lengthOf(at)) {
                int length = Math.max(1, reading.wordLength(at, from, rise));
                long key = 0;
                for (int k = 0; k < length && k < WORD_SIGNS; k++) {
                    key |= (reading.signAt(at, from + k) + 1L) << shiftOf(k);
                }
                enter(key);
                from += length;
            }
        }

        private void enter(long key) {
            cuts++;
            int at = 0;
            while (at < held && keys[at] < key) {
                at++;
            }
            if (at < held && keys[at] == key) {
                times[at]++;
            } else if (held < MAX_WORDS) {
                System.arraycopy(keys, at, keys, at + 1, held - at);
                System.arraycopy(times, at, times, at + 1, held - at);
                keys[at] = key;
                times[at] = 1;
                held++;
            }
        }

        private void rankWords() {
            for (int k = 0; k < held; k++) {
                int at = k;
                while (at > 0 && timesAt(ranked[at - 1]) < times[k]) {
                    ranked[at] = ranked[at - 1];
                    at--;
                }
                ranked[at] = k;
            }
        }

        /** Twos of WORDS tell CLUES and STEMS. */
        void compareWords(Net lines, Net files) {
            stemCount = 0;
            for (int one = 0; one < held; one++) {
                for (int other = one + 1; other < held; other++) {
                    if (lengths[one] >= 2 && lengths[one] == lengths[other]) {
                        compareTwo(one, other, lines, files);
                    }
                }
            }
        }

        private void compareTwo(int one, int other, Net lines, Net files) {
            int last = lengths[one] - 1;
            long lastBits = SIGN_MASK << shiftOf(last);
            long firstBits = SIGN_MASK << shiftOf(0);
            long unlike = keys[one] ^ keys[other];
            if ((unlike & ~lastBits) == 0) {
                lines.linkByWords(signAt(one, last), signAt(other, last));
                if (last >= 2) {
                    int bits = 1 << signAt(one, last) | 1 << signAt(other, last);
                    addEndings(keys[one] & ~lastBits, bits);
                }
            }
            if ((unlike & ~firstBits) == 0) {
                files.linkByWords(signAt(one, 0), signAt(other, 0));
            }
        }

        private void addEndings(long key, int bits) {
            int at = 0;
            while (at < stemCount && stemKeys[at] < key) {
                at++;
            }
            if (at < stemCount && stemKeys[at] == key) {
                stemEndings[at] |= bits;
            } else if (stemCount < MAX_STEMS) {
                System.arraycopy(stemKeys, at, stemKeys, at + 1, stemCount - at);
                System.arraycopy(stemEndings, at, stemEndings, at + 1, stemCount - at);
                stemKeys[at] = key;
                stemEndings[at] = bits;
                stemCount++;
            }
        }

        int held() {
            return held;
        }

        int allCuts() {
            return cuts;
        }

        int stemsHeld() {
            return stemCount;
        }

        private boolean has(int k) {
            return k >= 0 && k < held;
        }

        int timesAt(int k) {
            return has(k) ? times[k] : 0;
        }

        int lengthOf(int k) {
            return has(k) ? lengths[k] : 0;
        }

        int signAt(int k, int i) {
            return has(k) ? signOfKey(keys[k], i) : NONE;
        }

        int wordFact(int k, int what) {
            if (!has(k) || what < 0) {
                return NONE;
            }
            if (what == 0) {
                return times[k];
            }
            return what == 1 ? lengths[k] : signAt(k, what - 2);
        }

        int rankedWord(int k) {
            return has(k) ? ranked[k] : NONE;
        }

        int stemFact(int k, int what) {
            if (k < 0 || k >= stemCount) {
                return NONE;
            }
            switch (what) {
                case 0: return Integer.bitCount(stemEndings[k]);
                case 1: return stemEndings[k];
                case 2: return lengthOfKey(stemKeys[k]);
                default: return signOfKey(stemKeys[k], what - 3);
            }
        }

        int timesOf(int sign, int what) {
            if (what < 1 || what > 3) {
                return NONE;
            }
            int n = 0;
            for (int k = 0; k < held; k++) {
                if (what == 3) {
                    n += holds(k, sign) ? 1 : 0;
                } else if (signAt(k, what == 1 ? 0 : lengths[k] - 1) == sign) {
                    n += times[k];
                }
            }
            return n;
        }

        private boolean holds(int k, int sign) {
            for (int i = 0; i < lengthOf(k); i++) {
                if (signAt(k, i) == sign) {
                    return true;
                }
            }
            return false;
        }
    }

    /** One side of the GRID: the LINES, or the FILES. */
    private static final class Net {
        private final boolean file;
        // Of each SIGN those that there are CLUES to, as bits.
        private final int[] byWords = new int[MAX_FORMS];
        private final int[] links = new int[MAX_FORMS];
        private final int[] labels = new int[MAX_FORMS];

        Net(boolean file) {
            this.file = file;
        }

        void forgetWords() {
            Arrays.fill(byWords, 0);
        }

        void linkByWords(int one, int other) {
            link(byWords, one, other);
        }

        private static boolean isPlace(int sign) {
            return sign >= 0 && sign < MAX_FORMS;
        }

        private static void link(int[] rows, int one, int other) {
            if (isPlace(one) && isPlace(other) && one != other) {
                rows[one] |= 1 << other;
                rows[other] |= 1 << one;
            }
        }

        void settle(Forms forms, Hand hand) {
            System.arraycopy(byWords, 0, links, 0, MAX_FORMS);
            for (int k = 0; k < hand.cluesHeld(); k++) {
                if (hand.clueIsOf(k, file)) {
                    link(links, forms.signOf(hand.clueOne(k)), forms.signOf(hand.clueOther(k)));
                }
            }
            startLabels(labels);
            for (int one = 0; one < MAX_FORMS; one++) {
                for (int other = one + 1; other < MAX_FORMS; other++) {
                    if ((links[one] >>> other & 1) == 1) {
                        joinLabels(labels, one, other);
                    }
                }
            }
        }

        int twos() {
            int n = 0;
            for (int sign = 0; sign < MAX_FORMS; sign++) {
                n += Integer.bitCount(links[sign]);
            }
            return n / 2;
        }

        int groups(Forms forms) {
            int n = 0;
            for (int sign = 0; sign < MAX_FORMS; sign++) {
                n += forms.isSign(sign) && labels[sign] == sign ? 1 : 0;
            }
            return n;
        }

        int labelOf(int sign) {
            return isPlace(sign) ? labels[sign] : NONE;
        }

        boolean together(int one, int other) {
            return isPlace(one) && isPlace(other) && labels[one] == labels[other];
        }

        /** The fewest CLUES from one SIGN to another one of the same group. */
        int stepsBetween(int one, int other) {
            int reached = 1 << one;
            int steps = 0;
            while (steps < MAX_FORMS && (reached >>> other & 1) == 0) {
                int more = reached;
                for (int sign = 0; sign < MAX_FORMS; sign++) {
                    more |= (reached >>> sign & 1) == 1 ? links[sign] : 0;
                }
                reached = more;
                steps++;
            }
            return steps;
        }
    }

    /** What is KNOWN of each SIGN by GUESSES, and which SIGNS are DISPUTED. */
    private static final class Values {
        private final int[] consonants = new int[MAX_FORMS];
        private final int[] vowels = new int[MAX_FORMS];
        private final int[] ofLines = new int[MAX_FORMS];
        private final int[] ofFiles = new int[MAX_FORMS];
        private int disputedLines;
        private int disputedFiles;
        private int disputed;

        void settle(Forms forms, Hand hand, Net lines, Net files) {
            gatherGuesses(forms, hand, lines, files);
            Arrays.fill(consonants, NONE);
            Arrays.fill(vowels, NONE);
            disputed = 0;
            for (int sign = 0; sign < MAX_FORMS; sign++) {
                if (forms.isSign(sign)) {
                    spread(sign, lines.labelOf(sign), files.labelOf(sign));
                }
            }
            for (int one = 0; one < MAX_FORMS; one++) {
                for (int other = one + 1; other < MAX_FORMS; other++) {
                    if (bothKnown(one) && consonants[one] == consonants[other] && vowels[one] == vowels[other]) {
                        disputed |= 1 << one | 1 << other;
                    }
                }
            }
        }

        private void gatherGuesses(Forms forms, Hand hand, Net lines, Net files) {
            Arrays.fill(ofLines, NONE);
            Arrays.fill(ofFiles, NONE);
            disputedLines = 0;
            disputedFiles = 0;
            for (int form = 0; form < forms.told(); form++) {
                int guess = hand.guessOf(form);
                if (guess != NONE) {
                    int sign = forms.signOf(form);
                    disputedLines |= claim(ofLines, lines.labelOf(sign), guess / VOWEL_KINDS);
                    disputedFiles |= claim(ofFiles, files.labelOf(sign), guess % VOWEL_KINDS);
                }
            }
        }

        /** The first claim stays, as FORMS come by their order; the bit of the group, if this one is unlike it. */
        private static int claim(int[] groups, int label, int value) {
            if (label < 0 || label >= groups.length) {
                return 0;
            }
            if (groups[label] == NONE) {
                groups[label] = value;
            }
            return groups[label] == value ? 0 : 1 << label;
        }

        private void spread(int sign, int line, int file) {
            if (!isPlace(sign) || !isPlace(line) || !isPlace(file)) {
                return;
            }
            consonants[sign] = ofLines[line];
            vowels[sign] = ofFiles[file];
            if ((disputedLines >>> line & 1) == 1 || (disputedFiles >>> file & 1) == 1) {
                disputed |= 1 << sign;
            }
        }

        private static boolean isPlace(int sign) {
            return sign >= 0 && sign < MAX_FORMS;
        }

        boolean bothKnown(int sign) {
            return isPlace(sign) && consonants[sign] != NONE && vowels[sign] != NONE;
        }

        int consonantOf(int sign) {
            return isPlace(sign) ? consonants[sign] : NONE;
        }

        int vowelOf(int sign) {
            return isPlace(sign) ? vowels[sign] : NONE;
        }

        int disputedSigns() {
            return Integer.bitCount(disputed);
        }

        int factOf(int sign, int what) {
            if (!isPlace(sign)) {
                return NONE;
            }
            switch (what) {
                case 0: return consonants[sign];
                case 1: return vowels[sign];
                case 2: return disputed >>> sign & 1;
                default: return NONE;
            }
        }
    }

    /** Which WORDS FIT which NAMES, the HITS, and TESTS by values that are changed about. */
    private static final class Match {
        private final Names names;
        private final Lexicon lexicon;
        private final Values values;
        private final boolean[] fit = new boolean[MAX_NAMES * MAX_WORDS];
        // What WORDS are looked at with: what is KNOWN, or that changed about.
        private final int[] consonants = new int[MAX_FORMS];
        private final int[] vowels = new int[MAX_FORMS];
        // The SIGNS of which consonant and vowel are KNOWN.
        private final int[] whole = new int[MAX_FORMS];
        private int wholeCount;
        private int hitCount;

        Match(Names names, Lexicon lexicon, Values values) {
            this.names = names;
            this.lexicon = lexicon;
            this.values = values;
        }

        void settle() {
            wholeCount = 0;
            for (int sign = 0; sign < MAX_FORMS; sign++) {
                if (values.bothKnown(sign)) {
                    whole[wholeCount] = sign;
                    wholeCount++;
                }
            }
            takeKnown();
            for (int name = 0; name < names.told(); name++) {
                for (int k = 0; k < lexicon.held(); k++) {
                    if (isPlace(name, k)) {
                        fit[name * MAX_WORDS + k] = agrees(name, k, false) && hasShape(name, k);
                    }
                }
            }
            hitCount = countHits();
        }

        private void takeKnown() {
            for (int sign = 0; sign < MAX_FORMS; sign++) {
                consonants[sign] = values.consonantOf(sign);
                vowels[sign] = values.vowelOf(sign);
            }
        }

        private static boolean isPlace(int name, int k) {
            return name >= 0 && name < MAX_NAMES && k >= 0 && k < MAX_WORDS;
        }

        /** Like length, and no consonant or vowel is another one; with all, none is missing either. */
        private boolean agrees(int name, int k, boolean all) {
            if (lexicon.lengthOf(k) != names.lengthOf(name)) {
                return false;
            }
            for (int i = 0; i < names.lengthOf(name); i++) {
                int sign = lexicon.signAt(k, i);
                int syllable = names.syllableAt(name, i);
                if (sign < 0 || sign >= MAX_FORMS
                        || !mayBe(consonants[sign], syllable / VOWEL_KINDS, all)
                        || !mayBe(vowels[sign], syllable % VOWEL_KINDS, all)) {
                    return false;
                }
            }
            return true;
        }

        private static boolean mayBe(int value, int wanted, boolean all) {
            return value == wanted || value == NONE && !all;
        }

        /** One SIGN stands for one SYLLABLE and one SYLLABLE for one SIGN. */
        private boolean hasShape(int name, int k) {
            for (int i = 0; i < lexicon.lengthOf(k); i++) {
                for (int j = 0; j < i; j++) {
                    boolean oneSign = lexicon.signAt(k, i) == lexicon.signAt(k, j);
                    boolean oneSyllable = names.syllableAt(name, i) == names.syllableAt(name, j);
                    if (oneSign != oneSyllable) {
                        return false;
                    }
                }
            }
            return true;
        }

        private int countHits() {
            int n = 0;
            for (int name = 0; name < names.told(); name++) {
                for (int k = 0; k < lexicon.held(); k++) {
                    n += agrees(name, k, true) && hasShape(name, k) ? 1 : 0;
                }
            }
            return n;
        }

        int hitsNow() {
            return hitCount;
        }

        boolean isFitting(int name, int k) {
            return isPlace(name, k) && fit[name * MAX_WORDS + k];
        }

        int fitting(int name) {
            int n = 0;
            for (int k = 0; k < lexicon.held(); k++) {
                n += isFitting(name, k) ? 1 : 0;
            }
            return n;
        }

        int fittingWord(int name, int which) {
            int n = 0;
            for (int k = 0; k < lexicon.held(); k++) {
                if (isFitting(name, k)) {
                    if (n == which) {
                        return k;
                    }
                    n++;
                }
            }
            return NONE;
        }

        /** How many times of m the values, changed about, have as many HITS at least. */
        int asGoodByChance(int m, int seed) {
            int good = 0;
            int x = seed;
            for (int n = 0; n < m; n++) {
                // SIGNS of which just one of both is KNOWN keep it: no HIT can have them anyway.
                takeKnown();
                x = changeAbout(x);
                good += countHits() >= hitCount ? 1 : 0;
            }
            takeKnown();
            return good;
        }

        /** What x is behind the DRAWS for it. */
        private int changeAbout(int seed) {
            int x = seed;
            for (int i = wholeCount - 1; i >= 1; i--) {
                x = (int) ((x * 1103515245L + 12345L) & DRAW_MASK);
                int drawn = x / 65536 % (i + 1);
                if (drawn >= 0 && drawn < i) {
                    swap(consonants, whole[i], whole[drawn]);
                    swap(vowels, whole[i], whole[drawn]);
                }
            }
            return x;
        }

        private static void swap(int[] row, int one, int other) {
            int kept = row[one];
            row[one] = row[other];
            row[other] = kept;
        }
    }

    /** The WAYS in which all NAMES get a WORD. */
    private static final class Ways {
        private final Match match;
        private final Names names;
        private final Lexicon lexicon;
        private final Net lines;
        private final Net files;
        // All that WAYS ask of WORDS is asked of twos of them: for two NAMES and a WORD of the lesser one
        // the WORDS of the other one that go with it, as bits.
        private final long[] partners = new long[MAX_NAMES * (MAX_NAMES - 1) / 2 * MAX_WORDS * BIT_ROWS];
        // What each NAME can still get when so many NAMES have their WORDS, as bits.
        private final long[] open = new long[MAX_NAMES * MAX_NAMES * BIT_ROWS];
        private final int[] chosen = new int[MAX_NAMES];
        private final int[] first = new int[MAX_NAMES];
        private int total;

        Ways(Match match, Names names, Lexicon lexicon, Net lines, Net files) {
            this.match = match;
            this.names = names;
            this.lexicon = lexicon;
            this.lines = lines;
            this.files = files;
        }

        void settle() {
            total = names.told() == 0 ? 1 : 0;
            Arrays.fill(open, 0L);
            Arrays.fill(partners, 0L);
            for (int name = 0; name < names.told(); name++) {
                for (int k = 0; k < lexicon.held(); k++) {
                    if (match.isFitting(name, k) && goTogether(name, k, name, k)) {
                        putBit(open, openAt(0, name), k);
                    }
                }
                for (int lesser = 0; lesser < name; lesser++) {
                    pairWords(lesser, name);
                }
            }
            choose(0);
        }

        private void pairWords(int lesser, int name) {
            for (int k = 0; k < lexicon.held(); k++) {
                if (hasBit(open, openAt(0, lesser), k)) {
                    for (int other = 0; other < lexicon.held(); other++) {
                        if (k != other && hasBit(open, openAt(0, name), other)
                                && goTogether(lesser, k, name, other)) {
                            putBit(partners, partnersAt(lesser, name, k), other);
                        }
                    }
                }
            }
        }

        private boolean goTogether(int name, int k, int otherName, int otherWord) {
            for (int i = 0; i < lexicon.lengthOf(k); i++) {
                int sign = lexicon.signAt(k, i);
                int syllable = names.syllableAt(name, i);
                for (int j = 0; j < lexicon.lengthOf(otherWord); j++) {
                    int otherSign = lexicon.signAt(otherWord, j);
                    int otherSyllable = names.syllableAt(otherName, j);
                    if ((sign == otherSign) != (syllable == otherSyllable)
                            || lines.together(sign, otherSign) && !sameConsonant(syllable, otherSyllable)
                            || files.together(sign, otherSign) && !sameVowel(syllable, otherSyllable)) {
                        return false;
                    }
                }
            }
            return true;
        }

        private static boolean sameConsonant(int one, int other) {
            return one / VOWEL_KINDS == other / VOWEL_KINDS;
        }

        private static boolean sameVowel(int one, int other) {
            return one % VOWEL_KINDS == other % VOWEL_KINDS;
        }

        /** NAMES get their WORDS by their order, so the first WAY that is found is the first one. */
        private void choose(int name) {
            if (name < 0 || name >= MAX_NAMES || name >= names.told()) {
                return;
            }
            if (name == names.told() - 1) {
                countLast(name);
                return;
            }
            for (int k = 0; k < lexicon.held() && total < MOST_WAYS; k++) {
                if (hasBit(open, openAt(name, name), k)) {
                    give(name, k);
                }
            }
        }

        private void give(int name, int k) {
            if (narrow(name, k)) {
                chosen[name] = k;
                choose(name + 1);
            }
        }

        /** What the NAMES behind can still get; false, if one of them gets nothing. */
        private boolean narrow(int name, int k) {
            for (int behind = name + 1; behind < names.told(); behind++) {
                int from = openAt(name, behind);
                int to = openAt(name + 1, behind);
                int by = partnersAt(name, behind, k);
                if (from == NONE || to == NONE || by == NONE) {
                    return false;
                }
                long some = 0;
                for (int i = 0; i < BIT_ROWS; i++) {
                    open[to + i] = open[from + i] & partners[by + i];
                    some |= open[to + i];
                }
                if (some == 0) {
                    return false;
                }
            }
            return true;
        }

        private void countLast(int name) {
            int n = 0;
            for (int k = 0; k < lexicon.held(); k++) {
                if (hasBit(open, openAt(name, name), k)) {
                    if (total == 0 && n == 0) {
                        chosen[name] = k;
                        System.arraycopy(chosen, 0, first, 0, MAX_NAMES);
                    }
                    n++;
                }
            }
            total = Math.min(MOST_WAYS, total + n);
        }

        private static int openAt(int chosenNames, int name) {
            boolean right = chosenNames >= 0 && chosenNames < MAX_NAMES && name >= 0 && name < MAX_NAMES;
            return right ? (chosenNames * MAX_NAMES + name) * BIT_ROWS : NONE;
        }

        private static int partnersAt(int lesser, int name, int k) {
            boolean right = lesser >= 0 && lesser < name && name < MAX_NAMES && k >= 0 && k < MAX_WORDS;
            return right ? ((name * (name - 1) / 2 + lesser) * MAX_WORDS + k) * BIT_ROWS : NONE;
        }

        private static void putBit(long[] rows, int at, int k) {
            if (at >= 0 && k >= 0 && k < MAX_WORDS && at + k / ROW_BITS < rows.length) {
                rows[at + k / ROW_BITS] |= 1L << k % ROW_BITS;
            }
        }

        private static boolean hasBit(long[] rows, int at, int k) {
            return at >= 0 && k >= 0 && k < MAX_WORDS && at + k / ROW_BITS < rows.length
                    && (rows[at + k / ROW_BITS] >>> k % ROW_BITS & 1L) == 1L;
        }

        int found() {
            return total;
        }

        int firstWord(int name) {
            return total > 0 && name >= 0 && name < MAX_NAMES ? first[name] : NOT_FOUND;
        }
    }
}
