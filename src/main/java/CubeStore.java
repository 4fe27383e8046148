import java.util.Arrays;

/**
 * A store of facts for questions about sums. The numbered promises that it keeps stand in
 * ../shared/DOC.md; README.md tells how its classes work together.
 */
public final class CubeStore {
    public static final int NONE = -1;
    public static final int FULL = -2;
    public static final int CUT = -3;

    private static final int NEW = 0;
    private static final int OPEN = 1;
    private static final int DOWN = 2;

    private static final int MOST_BYTES = 65536;
    private static final int MOST_NAME = 40;
    private static final int MOST_DIMENSIONS = 8;
    private static final int MOST_LEVELS = 4;
    private static final int MOST_MEASURES = 8;
    private static final int MOST_MEMBERS = 1000;
    private static final int MOST_ITEMS = 24;
    private static final int MOST_COMPARISONS = 60;
    private static final int MOST_NUMBERS = 40;
    private static final int MOST_BRACKETS = 40;
    private static final int MOST_GROUPS = 8;
    private static final int MOST_SETS = 32;
    private static final int MOST_ANSWER_ROWS = 4000;
    private static final int MOST_BATCH = 8192;
    private static final int MOST_FACTS = 20000;
    private static final int MOST_CHANGES = 100;
    private static final int MOST_VIEWS = 512;
    private static final int MOST_CHOSEN = 16;
    private static final int MOST_EXTENTS = 200;
    private static final int LEAST_VALUE = 0x80000000;
    private static final int GREATEST_VALUE = 0x7FFFFFFF;
    private static final int LEAST_BLOCKS = 16;
    private static final int MOST_BLOCKS = 512;

    private static final int FED_BYTES = 20;
    private static final int MOST_STAGED = 1000;
    private static final int MOST_SPREAD = 4096;
    private static final int MOST_FUSE = 1000;
    private static final long SPREAD_TIMES = 6364136223846793005L;
    private static final long SPREAD_PLUS = 1442695040888963407L;

    private static final int SIGN_FAULT = 1;
    private static final int NUMBER_FAULT = 2;
    private static final int END_FAULT = 3;
    private static final int OTHER_FAULT = 4;
    private static final int NAME_FAULT = 5;
    private static final int TAKEN_FAULT = 6;
    private static final int MANY_FAULT = 7;
    private static final int STATE_FAULT = 8;
    private static final int KEY_FAULT = 9;
    private static final int TWICE_FAULT = 10;
    private static final int GROUP_FAULT = 11;
    private static final int ROOM_FAULT = 12;

    // Kinds of words, numbers and signs. A sign of one byte is its own kind, so these keep clear of 40 to 62.
    private static final int END = 0;
    private static final int NAME = 1;
    private static final int LONG_WORD = 2;
    private static final int NUMBER = 3;
    private static final int AT_MOST = 100;
    private static final int AT_LEAST = 101;
    private static final int UNLIKE = 102;
    private static final int DIMENSION = 200;
    private static final int MEASURE = 201;
    private static final int MEMBER = 202;
    private static final int SELECT = 203;
    private static final int WHERE = 204;
    private static final int GROUP = 205;
    private static final int BY = 206;
    private static final int ROLLUP = 207;
    private static final int CUBE = 208;
    private static final int GROUPING = 209;
    private static final int SUM = 210;
    private static final int COUNT = 211;
    private static final int MIN = 212;
    private static final int MAX = 213;
    private static final int AND = 214;
    private static final int OR = 215;
    private static final int NOT = 216;
    private static final int BETWEEN = 217;
    private static final int IN = 218;
    /** The reserved words in the order of their kinds, from DIMENSION on. */
    private static final String RESERVED =
        "dimension measure member select where group by rollup cube grouping sum count min max and or not between in ";
    private static final String SIGNS = "(),;.*=<>";

    private static final int BLOCK_WORDS = 512;
    private static final int BLOCK_BITS = 32768;
    private static final int MANIFESTS = 2;
    private static final int SEGMENT = 1024;
    /** A view's table at its widest: all places, the number of facts, and three cells for each measure. */
    private static final int MOST_COLUMNS = 33;
    private static final int COLUMN_BYTES = 20;

    private static final int PLAIN = 0;
    private static final int PACKED = 1;
    private static final int LIST = 2;
    private static final int RUNS = 3;
    private static final int STEPS = 4;
    private static final int FORMS = 5;

    private static final int CATALOG_EXTENT = 1;
    private static final int LOAD_EXTENT = 2;
    private static final int CHOICE_EXTENT = 3;
    private static final int SETTLED_EXTENT = 4;

    private final Text text = new Text();
    private final Catalog catalog = new Catalog();
    private final Question question = new Question(catalog);
    private final Reader reader = new Reader(text, catalog, question);
    private final Chooser chooser = new Chooser(catalog);
    private final Table table = new Table(catalog);
    private final Rows batch = new Rows(MOST_BATCH, MOST_MEASURES);
    /** Facts that were read back from the disk, for a choice, a settling or an audit. */
    private final Rows readFacts = new Rows(MOST_FACTS, MOST_MEASURES);
    private final int[] makingPlaces = new int[MOST_DIMENSIONS];
    private final long[] makingAmounts = new long[MOST_MEASURES];
    private final int[] partRows = new int[MOST_CHOSEN];
    private final Disk disk;
    private Answer answer = new Answer();
    /** A question that fails for want of room must leave the answer before it, so there are two. */
    private Answer spareAnswer = new Answer();
    private int stateNow = NEW;
    private int stagedInLife = 0;
    private int changesInLife = 0;

    public CubeStore(int blocks) {
        disk = new Disk(Math.max(LEAST_BLOCKS, Math.min(MOST_BLOCKS, blocks)));
    }

    public int feed(int a, int b, int c, int d, int e) throws IllegalStateException {
        refuseIfDown();
        refuseIf(text.length > MOST_BYTES - FED_BYTES);
        text.append(a);
        text.append(b);
        text.append(c);
        text.append(d);
        text.append(e);
        return text.length;
    }

    public int trim(int n) throws IllegalArgumentException, IllegalStateException {
        forbidUnless(n >= 0 && n <= FED_BYTES && n <= text.length);
        refuseIfDown();
        text.length -= n;
        return text.length;
    }

    public int run() throws IllegalStateException {
        refuseIfDown();
        answer.forget();
        text.rewind();
        int done = 0;
        try {
            for (int i = 0; i < MOST_BYTES && reader.begins(stateNow == NEW); i++) {
                if (text.kind == SELECT) {
                    reader.readQuestion();
                    answerQuestion();
                } else {
                    reader.readCatalogStatement();
                }
                done++;
            }
        } catch (IllegalStateException fault) {
            // What the fault is the text has noted; the statements before it stay carried out.
        }
        text.length = 0;
        return done;
    }

    public int fault(int what) throws IllegalArgumentException, IllegalStateException {
        forbidUnless(what == 0 || what == 1);
        refuseIfDown();
        return what == 0 ? text.faultKind : text.faultPlace;
    }

    public int open() throws IllegalStateException {
        refuseIf(stateNow != NEW || !catalog.isComplete());
        catalog.arrange();
        disk.beginExtent(CATALOG_EXTENT, catalog.sizes());
        catalog.writeTo(disk.fresh);
        int blocks = disk.neededBlocks();
        int place = disk.roomFor(blocks);
        if (place == NONE) {
            return FULL;
        }
        disk.addExtent(CATALOG_EXTENT, place, blocks);
        if (!disk.commit(place, blocks)) {
            return cutPower();
        }
        stateNow = OPEN;
        beginFact();
        return blocks + 1;
    }

    public boolean key(int dimension, int value) throws IllegalArgumentException, IllegalStateException {
        forbidUnless(dimension >= 0 && dimension < catalog.dimensions);
        refuseUnlessOpen();
        int place = catalog.dimension[dimension].memberWith(value);
        if (place == NONE) {
            return false;
        }
        makingPlaces[dimension] = place;
        return true;
    }

    public long amount(int measure, long value) throws IllegalArgumentException, IllegalStateException {
        forbidUnless(measure >= 0 && measure < catalog.measures);
        refuseUnlessOpen();
        long before = makingAmounts[measure];
        makingAmounts[measure] = value;
        return before;
    }

    public int stage(int n) throws IllegalArgumentException, IllegalStateException {
        forbidUnless(n >= 1 && n <= MOST_STAGED);
        refuseToStage(n);
        for (int i = 0; i < n; i++) {
            for (int d = 0; d < catalog.dimensions; d++) {
                batch.places[d][batch.size] = makingPlaces[d];
            }
            for (int m = 0; m < catalog.measures; m++) {
                batch.amounts[m][batch.size] = makingAmounts[m];
            }
            batch.size++;
        }
        stagedInLife += n;
        return batch.size;
    }

    public int spread(int n, long seed) throws IllegalArgumentException, IllegalStateException {
        forbidUnless(n >= 1 && n <= MOST_SPREAD);
        refuseToStage(n);
        long h = seed;
        for (int i = 0; i < n; i++) {
            for (int d = 0; d < catalog.dimensions; d++) {
                h = h * SPREAD_TIMES + SPREAD_PLUS;
                batch.places[d][batch.size] = (int) ((h >>> 33) % catalog.dimension[d].members);
            }
            for (int m = 0; m < catalog.measures; m++) {
                h = h * SPREAD_TIMES + SPREAD_PLUS;
                batch.amounts[m][batch.size] = h >> 8 * (m % 8);
            }
            batch.size++;
        }
        stagedInLife += n;
        return batch.size;
    }

    public int drop() throws IllegalStateException {
        refuseUnlessOpen();
        int before = batch.size;
        batch.size = 0;
        return before;
    }

    public int load() throws IllegalStateException {
        refuseUnlessOpen();
        refuseIf(batch.size == 0);
        if (disk.extents >= MOST_EXTENTS) {
            return FULL;
        }
        disk.beginExtent(LOAD_EXTENT, disk.views + 1);
        writeFactsPart(batch);
        writeViewParts(batch, disk.viewNumbers, disk.views);
        int blocks = disk.neededBlocks();
        int place = disk.roomFor(blocks);
        if (place == NONE) {
            return FULL;
        }
        disk.addExtent(LOAD_EXTENT, place, blocks);
        disk.loads++;
        disk.facts += batch.size;
        for (int i = 0; i < disk.views; i++) {
            disk.viewRows[i] += partRows[i];
        }
        batch.size = 0;
        return disk.commit(place, blocks) ? disk.loads : cutPower();
    }

    public int choose(int k) throws IllegalArgumentException, IllegalStateException {
        forbidUnless(k >= 0 && k <= MOST_CHOSEN);
        refuseUnlessOpen();
        refuseIf(catalog.viewsInAll() > MOST_VIEWS || changesInLife >= MOST_CHANGES);
        int chosen = chooser.pick(k, disk.facts);
        int blocks = 0;
        int place = NONE;
        if (chosen > 0) {
            if (disk.extentsWithoutChoice() >= MOST_EXTENTS) {
                return FULL;
            }
            gatherFacts(disk.extents);
            disk.beginExtent(CHOICE_EXTENT, chosen);
            writeViewParts(readFacts, chooser.picked, chosen);
            blocks = disk.neededBlocks();
            place = disk.roomFor(blocks);
            if (place == NONE) {
                return FULL;
            }
        }
        changesInLife++;
        disk.dropChoice();
        if (chosen > 0) {
            disk.addExtent(CHOICE_EXTENT, place, blocks);
        }
        disk.takeViews(chooser.picked, partRows, chosen);
        return disk.commit(place, blocks) ? chosen : cutPower();
    }

    public int settle() throws IllegalStateException {
        refuseUnlessOpen();
        refuseIf(changesInLife >= MOST_CHANGES);
        gatherFacts(disk.extents);
        disk.beginExtent(SETTLED_EXTENT, disk.views + 1);
        writeFactsPart(readFacts);
        writeViewParts(readFacts, disk.viewNumbers, disk.views);
        int blocks = disk.neededBlocks();
        int place = disk.roomFor(blocks);
        if (place == NONE) {
            return FULL;
        }
        changesInLife++;
        disk.dropAllButCatalog();
        disk.addExtent(SETTLED_EXTENT, place, blocks);
        disk.takeViews(disk.viewNumbers, partRows, disk.views);
        return disk.commit(place, blocks) ? blocks + 1 : cutPower();
    }

    public void crash(int n) throws IllegalArgumentException, IllegalStateException {
        forbidUnless(n >= NONE && n <= MOST_FUSE);
        refuseIfDown();
        disk.fuse = n;
        if (n == 0) {
            cutPower();
        }
    }

    public int recover() {
        forgetAll();
        disk.fuse = NONE;
        if (!disk.restore()) {
            stateNow = NEW;
            return NONE;
        }
        int sizes = disk.noteOf(0);
        catalog.readFrom(disk.goTo(0), sizes);
        catalog.arrange();
        stateNow = OPEN;
        beginFact();
        return disk.loads;
    }

    public int state() {
        return stateNow;
    }

    public int writes() {
        return disk.written;
    }

    public int count(int what) throws IllegalArgumentException, IllegalStateException {
        forbidUnless(what >= 0 && what <= 6);
        refuseIfDown();
        switch (what) {
            case 0:
                return disk.loads;
            case 1:
                return disk.facts;
            case 2:
                return disk.views;
            case 3:
                return disk.extents;
            case 4:
                return disk.freeBlocks();
            case 5:
                return batch.size;
            default:
                return text.length;
        }
    }

    public int view(int i, int dimension) throws IllegalArgumentException {
        forbidUnless(i >= 0 && i < disk.views && dimension >= 0 && dimension < catalog.dimensions);
        return catalog.levelIn(disk.viewNumbers[i], dimension);
    }

    public int rows() throws IllegalStateException {
        refuseIfDown();
        return answer.isThere ? answer.found.size : NONE;
    }

    public long cell(int r, int i) throws IllegalArgumentException {
        forbidUnless(answer.has(r, i));
        return answer.valueAt(r, i);
    }

    public boolean isBlank(int r, int i) throws IllegalArgumentException {
        forbidUnless(answer.has(r, i));
        return answer.isBlankAt(r, i);
    }

    public int served() throws IllegalStateException {
        refuseIf(!answer.isThere);
        return answer.source;
    }

    public int audit() throws IllegalStateException {
        refuseUnlessOpen();
        int wrong = disk.blocksInTwo();
        for (int e = disk.firstWithViews(); e < disk.extents; e++) {
            wrong += wrongRows(e);
        }
        return wrong;
    }

    private static void forbidUnless(boolean allowed) {
        if (!allowed) {
            throw new IllegalArgumentException();
        }
    }

    private static void refuseIf(boolean unfit) {
        if (unfit) {
            throw new IllegalStateException();
        }
    }

    private void refuseIfDown() {
        refuseIf(stateNow == DOWN);
    }

    private void refuseUnlessOpen() {
        refuseIf(stateNow != OPEN);
    }

    private void refuseToStage(int n) {
        refuseUnlessOpen();
        refuseIf(batch.size + n > MOST_BATCH || stagedInLife + n > MOST_FACTS);
    }

    private int cutPower() {
        forgetAll();
        stateNow = DOWN;
        return CUT;
    }

    /** All that is not on the disk goes; what is on it comes back by reading the manifest alone. */
    private void forgetAll() {
        text.length = 0;
        text.rewind();
        catalog.forget();
        batch.size = 0;
        answer.forget();
        disk.forget();
    }

    private void beginFact() {
        Arrays.fill(makingPlaces, 0);
        Arrays.fill(makingAmounts, 0L);
    }

    private void writeFactsPart(Rows facts) {
        table.shapeAsFacts();
        table.sort(facts);
        table.writeFacts(facts, disk.fresh);
    }

    private void writeViewParts(Rows facts, int[] numbers, int views) {
        for (int i = 0; i < views && !disk.fresh.isOver; i++) {
            table.shapeAsView(numbers[i]);
            table.sort(facts);
            partRows[i] = table.writeView(facts, disk.fresh);
        }
    }

    /** Reads the facts' parts of all extents before one of them, in the order in which they came. */
    private void gatherFacts(int before) {
        readFacts.size = 0;
        table.shapeAsFacts();
        for (int e = 0; e < before; e++) {
            if (disk.hasFacts(e)) {
                table.readFacts(disk.goTo(e), readFacts);
            }
        }
    }

    private int wrongRows(int e) {
        Tape tape;
        if (disk.hasFacts(e)) {
            readFacts.size = 0;
            table.shapeAsFacts();
            tape = disk.goTo(e);
            table.readFacts(tape, readFacts);
        } else {
            gatherFacts(e);
            tape = disk.goTo(e);
        }
        int wrong = 0;
        for (int i = 0; i < disk.views; i++) {
            table.shapeAsView(disk.viewNumbers[i]);
            table.sort(readFacts);
            wrong += table.checkView(readFacts, tape);
        }
        return wrong;
    }

    private void answerQuestion() {
        int source = smallestTable();
        Answer fresh = spareAnswer;
        fresh.begin(question);
        int first = source == NONE ? 0 : disk.firstWithViews();
        for (int e = first; e < disk.extents && !fresh.isOver; e++) {
            if (source != NONE || disk.hasFacts(e)) {
                fresh.addPart(question, table, goToPart(e, source));
            }
        }
        if (fresh.isOver) {
            text.fail(ROOM_FAULT, question.place);
        }
        fresh.finish(question, source);
        spareAnswer = answer;
        answer = fresh;
    }

    private int smallestTable() {
        int best = NONE;
        int least = disk.facts;
        for (int i = 0; i < disk.views; i++) {
            if (disk.viewRows[i] < least && question.fits(disk.viewNumbers[i])) {
                best = i;
                least = disk.viewRows[i];
            }
        }
        return best;
    }

    /** Goes to a table's part in an extent, past the parts before it, and shapes the table for it. */
    private Tape goToPart(int e, int source) {
        Tape tape = disk.goTo(e);
        table.shapeAsFacts();
        if (source == NONE) {
            return tape;
        }
        if (disk.hasFacts(e)) {
            table.skipPart(tape);
        }
        for (int i = 0; i < source; i++) {
            table.shapeAsView(disk.viewNumbers[i]);
            table.skipPart(tape);
        }
        table.shapeAsView(disk.viewNumbers[source]);
        return tape;
    }

    /** The text that was fed, cut into words, numbers and signs one at a time, and the fault it had. */
    private static final class Text {
        final byte[] bytes = new byte[MOST_BYTES];
        int length;
        int at;
        int kind;
        int start;
        int number;
        int faultKind;
        int faultPlace = NONE;

        void append(int four) {
            for (int shift = 24; shift >= 0; shift -= 8) {
                bytes[length++] = (byte) (four >> shift);
            }
        }

        void rewind() {
            at = 0;
            kind = END;
            start = 0;
            faultKind = 0;
            faultPlace = NONE;
        }

        void fail(int fault, int place) {
            faultKind = fault;
            faultPlace = place;
            throw new IllegalStateException();
        }

        /** What stands here may not stand here. */
        void failHere() {
            fail(kind == END ? END_FAULT : OTHER_FAULT, start);
        }

        void expect(int wanted) {
            next();
            if (kind != wanted) {
                failHere();
            }
        }

        void needName() {
            if (kind != NAME) {
                boolean isWord = kind == LONG_WORD || kind >= DIMENSION;
                fail(isWord ? NAME_FAULT : kind == END ? END_FAULT : OTHER_FAULT, start);
            }
        }

        void next() {
            while (at < length && isSpace(bytes[at])) {
                at++;
            }
            start = at;
            if (at >= length) {
                kind = END;
            } else if (isLetter(bytes[at])) {
                while (at < length && isOfWord(bytes[at])) {
                    at++;
                }
                kind = wordKind();
            } else if (beginsNumber()) {
                kind = NUMBER;
                if (!readNumber()) {
                    fail(NUMBER_FAULT, start);
                }
            } else {
                kind = signKind();
                if (kind == NONE) {
                    fail(SIGN_FAULT, start);
                }
                at += kind >= AT_MOST ? 2 : 1;
            }
        }

        boolean says(byte[] name, int size) {
            if (at - start != size) {
                return false;
            }
            for (int i = 0; i < size; i++) {
                if (bytes[start + i] != name[i]) {
                    return false;
                }
            }
            return true;
        }

        int copyName(byte[] name) {
            int size = Math.min(at - start, MOST_NAME);
            System.arraycopy(bytes, start, name, 0, size);
            return size;
        }

        private static boolean isSpace(int c) {
            return c == 32 || c == 9 || c == 10 || c == 13;
        }

        private static boolean isLetter(int c) {
            return c >= 'a' && c <= 'z' || c >= 'A' && c <= 'Z';
        }

        private static boolean isOfWord(int c) {
            return c >= 'a' && c <= 'z' || c >= 'A' && c <= 'Z' || c >= '0' && c <= '9' || c == '_';
        }

        private boolean beginsNumber() {
            int digit = bytes[at] == '-' ? at + 1 : at;
            return digit < length && bytes[digit] >= '0' && bytes[digit] <= '9';
        }

        /** Answers whether it is an int; all its digits are read in either case. */
        private boolean readNumber() {
            boolean isNegative = bytes[at] == '-';
            if (isNegative) {
                at++;
            }
            long value = 0;
            for (; at < length && bytes[at] >= '0' && bytes[at] <= '9'; at++) {
                // It grows no more once it can't be an int again, with or without a - before it.
                if (value <= 1L << 32) {
                    value = value * 10 + bytes[at] - '0';
                }
            }
            value = isNegative ? -value : value;
            number = (int) value;
            return number == value;
        }

        private int signKind() {
            int c = bytes[at];
            int then = at + 1 < length ? bytes[at + 1] : 0;
            if (c == '<' && then == '=') {
                return AT_MOST;
            }
            if (c == '>' && then == '=') {
                return AT_LEAST;
            }
            if (c == '<' && then == '>') {
                return UNLIKE;
            }
            for (int i = 0; i < SIGNS.length(); i++) {
                if (SIGNS.charAt(i) == c) {
                    return c;
                }
            }
            return NONE;
        }

        private int wordKind() {
            int size = at - start;
            if (size > MOST_NAME) {
                return LONG_WORD;
            }
            int word = DIMENSION;
            int alike = 0;
            for (int i = 0; i < RESERVED.length(); i++) {
                char c = RESERVED.charAt(i);
                if (c == ' ') {
                    if (alike == size) {
                        return word;
                    }
                    word++;
                    alike = 0;
                } else if (alike >= 0 && alike < size && bytes[start + alike] == c) {
                    alike++;
                } else {
                    alike = NONE;
                }
            }
            return NAME;
        }
    }

    /**
     * Reads statements. Each method begins at the first word or sign of its thing and ends at the last one,
     * so that all that is asked of a thing is asked before what follows it is looked at.
     */
    private static final class Reader {
        /** Between two brackets there wait at most one or, one and, one not. */
        private static final int MOST_WAITING = 4 * (MOST_BRACKETS + 1);
        private final Text text;
        private final Catalog catalog;
        private final Question question;
        private final int[] waiting = new int[MOST_WAITING];
        private int waits;

        Reader(Text text, Catalog catalog, Question question) {
            this.text = text;
            this.catalog = catalog;
            this.question = question;
        }

        /** Whether there is one more statement; it stands at its first word then. */
        boolean begins(boolean isNew) {
            text.next();
            if (text.kind == END) {
                return false;
            }
            if (text.kind < DIMENSION || text.kind > SELECT) {
                text.failHere();
            }
            if (isNew == (text.kind == SELECT)) {
                text.fail(STATE_FAULT, text.start);
            }
            return true;
        }

        void readCatalogStatement() {
            if (text.kind == DIMENSION) {
                readDimension();
            } else if (text.kind == MEASURE) {
                readMeasure();
            } else if (text.kind == MEMBER) {
                readMembers();
            }
        }

        void readQuestion() {
            question.begin(text.start);
            for (int i = 0; i <= MOST_ITEMS; i++) {
                text.next();
                readItem();
                text.next();
                if (text.kind != ',') {
                    break;
                }
            }
            if (text.kind == WHERE) {
                readCondition();
            }
            if (text.kind == GROUP) {
                readGroups();
            }
            if (text.kind != ';') {
                text.failHere();
            }
            int stray = question.resolveItems();
            if (stray != NONE) {
                text.fail(GROUP_FAULT, question.itemPlace[stray]);
            }
        }

        private void readDimension() {
            text.next();
            needNewName();
            failIfMany(catalog.dimensions, MOST_DIMENSIONS);
            Dimension fresh = catalog.dimension[catalog.dimensions];
            fresh.begin(text);
            text.expect('(');
            for (int i = 0; i <= MOST_LEVELS; i++) {
                text.next();
                text.needName();
                if (fresh.levelCalled(text) != NONE) {
                    text.fail(TAKEN_FAULT, text.start);
                }
                failIfMany(fresh.levels, MOST_LEVELS);
                fresh.addLevel(text);
                text.next();
                if (text.kind != ',') {
                    break;
                }
            }
            if (text.kind != ')') {
                text.failHere();
            }
            text.expect(';');
            catalog.dimensions++;
        }

        private void readMeasure() {
            text.next();
            needNewName();
            failIfMany(catalog.measures, MOST_MEASURES);
            catalog.nameNextMeasure(text);
            text.expect(';');
            catalog.measures++;
        }

        private void readMembers() {
            text.next();
            Dimension owner = catalog.dimension[dimensionHere()];
            owner.coming = owner.members;
            for (int i = 0; i <= MOST_MEMBERS; i++) {
                text.expect('(');
                failIfMany(owner.coming, MOST_MEMBERS);
                int place = text.start;
                if (readValues(owner) != owner.levels) {
                    text.fail(MANY_FAULT, place);
                }
                if (owner.comingClashes()) {
                    text.fail(KEY_FAULT, place);
                }
                owner.coming++;
                text.next();
                if (text.kind != ',') {
                    break;
                }
            }
            if (text.kind != ';') {
                text.failHere();
            }
            owner.members = owner.coming;
        }

        /** Reads a member's values behind its bracket, up to the end bracket: how many there are. */
        private int readValues(Dimension owner) {
            int values = 0;
            for (int i = 0; i < MOST_BYTES; i++) {
                text.expect(NUMBER);
                if (values < owner.levels) {
                    owner.values[values][owner.coming] = text.number;
                }
                values++;
                text.next();
                if (text.kind != ',') {
                    break;
                }
            }
            if (text.kind != ')') {
                text.failHere();
            }
            return values;
        }

        private void readItem() {
            int place = text.start;
            int kind = text.kind;
            if (kind < GROUPING || kind > MAX) {
                int dimension = dimensionHere();
                failIfMany(question.items, MOST_ITEMS);
                question.addItem(NAME, levelBehind(dimension), place);
                return;
            }
            failIfMany(question.items, MOST_ITEMS);
            text.expect('(');
            int of = 0;
            if (kind == COUNT) {
                text.expect('*');
            } else {
                text.next();
                of = kind == GROUPING ? levelBehind(dimensionHere()) : measureHere();
            }
            question.addItem(kind, of, place);
            text.expect(')');
        }

        /** Unlike other methods it ends behind the condition: its end shows by what follows. */
        private void readCondition() {
            waits = 0;
            int brackets = 0;
            text.next();
            for (int i = 0; i < MOST_BYTES; i++) {
                if (text.kind == NOT) {
                    addNot();
                } else if (text.kind == '(') {
                    failIfMany(brackets, MOST_BRACKETS);
                    brackets++;
                    waiting[waits++] = '(';
                } else {
                    readComparison();
                    settleNot();
                    text.next();
                    brackets = readEndBrackets(brackets);
                    if (text.kind != AND && text.kind != OR) {
                        break;
                    }
                    addBinary(text.kind);
                }
                text.next();
            }
            if (brackets > 0) {
                text.failHere();
            }
            settleDownTo(OR);
        }

        private int readEndBrackets(int open) {
            int left = open;
            for (int i = 0; i < MOST_BRACKETS && left > 0 && text.kind == ')'; i++) {
                settleDownTo(OR);
                waits--;
                left--;
                settleNot();
                text.next();
            }
            return left;
        }

        /** Two nots in a row are none. */
        private void addNot() {
            if (waits > 0 && waiting[waits - 1] == NOT) {
                waits--;
            } else if (waits < MOST_WAITING) {
                waiting[waits++] = NOT;
            }
        }

        private void settleNot() {
            if (waits > 0 && waiting[waits - 1] == NOT) {
                waits--;
                question.addStep(NOT);
            }
        }

        private void addBinary(int operator) {
            settleDownTo(operator);
            if (waits < MOST_WAITING) {
                waiting[waits++] = operator;
            }
        }

        /** Carries out what waits and binds at least as close as an operator, back to the last open bracket. */
        private void settleDownTo(int operator) {
            for (int i = waits - 1; i >= 0; i--) {
                if (waiting[i] == '(' || waiting[i] > operator) {
                    break;
                }
                question.addStep(waiting[i]);
                waits--;
            }
        }

        private void readComparison() {
            int dimension = dimensionHere();
            failIfMany(question.comparisons, MOST_COMPARISONS);
            question.beginComparison(levelBehind(dimension));
            text.next();
            int kind = text.kind;
            if (kind == BETWEEN) {
                text.expect(NUMBER);
                int low = text.number;
                text.expect(AND);
                text.expect(NUMBER);
                question.admit(low, text.number);
            } else if (kind == IN || kind == NOT) {
                if (kind == NOT) {
                    text.expect(IN);
                }
                readList();
            } else if (kind == '=' || kind == '<' || kind == '>' || kind >= AT_MOST && kind <= UNLIKE) {
                text.expect(NUMBER);
                admitBeside(kind, text.number);
            } else {
                text.failHere();
            }
            if (kind == NOT || kind >= AT_MOST && kind <= UNLIKE) {
                question.turnComparison();
            }
        }

        /** Admits what = < > say; for <> >= <= these very values, as the comparison is turned then. */
        private void admitBeside(int kind, long number) {
            if (kind == '<' || kind == AT_LEAST) {
                question.admit(LEAST_VALUE, number - 1);
            } else if (kind == '>' || kind == AT_MOST) {
                question.admit(number + 1, GREATEST_VALUE);
            } else {
                question.admit(number, number);
            }
        }

        private void readList() {
            text.expect('(');
            for (int i = 0; i <= MOST_NUMBERS; i++) {
                text.expect(NUMBER);
                failIfMany(i, MOST_NUMBERS);
                question.admit(text.number, text.number);
                text.next();
                if (text.kind != ',') {
                    break;
                }
            }
            if (text.kind != ')') {
                text.failHere();
            }
        }

        /** Like readCondition() it ends behind the groups. */
        private void readGroups() {
            int place = text.start;
            text.expect(BY);
            for (int i = 0; i <= MOST_GROUPS; i++) {
                text.next();
                if (!readGroup()) {
                    text.fail(MANY_FAULT, place);
                }
                text.next();
                if (text.kind != ',') {
                    break;
                }
            }
        }

        /** Answers whether there are not too many grouping sets. */
        private boolean readGroup() {
            int kind = text.kind;
            int first = question.groups;
            if (kind != ROLLUP && kind != CUBE) {
                readGroupColumn();
                return question.addSets(kind, first);
            }
            text.expect('(');
            for (int i = 0; i <= MOST_GROUPS; i++) {
                text.next();
                readGroupColumn();
                text.next();
                if (text.kind != ',') {
                    break;
                }
            }
            if (text.kind != ')') {
                text.failHere();
            }
            return question.addSets(kind, first);
        }

        private void readGroupColumn() {
            int place = text.start;
            int dimension = dimensionHere();
            failIfMany(question.groups, MOST_GROUPS);
            int column = levelBehind(dimension);
            if (question.groupOf(column) != NONE) {
                text.fail(TWICE_FAULT, place);
            }
            question.addGroup(column);
        }

        private int dimensionHere() {
            text.needName();
            int dimension = catalog.dimensionCalled(text);
            if (dimension == NONE) {
                text.fail(NAME_FAULT, text.start);
            }
            return dimension;
        }

        private int measureHere() {
            text.needName();
            int measure = catalog.measureCalled(text);
            if (measure == NONE) {
                text.fail(NAME_FAULT, text.start);
            }
            return measure;
        }

        /** Reads a column behind its dimension's name: dimension and level as one number. */
        private int levelBehind(int dimension) {
            text.next();
            if (text.kind != '.') {
                text.failHere();
            }
            text.next();
            text.needName();
            int level = catalog.dimension[dimension].levelCalled(text);
            if (level == NONE) {
                text.fail(NAME_FAULT, text.start);
            }
            return dimension * MOST_LEVELS + level;
        }

        private void needNewName() {
            text.needName();
            if (catalog.dimensionCalled(text) != NONE || catalog.measureCalled(text) != NONE) {
                text.fail(TAKEN_FAULT, text.start);
            }
        }

        private void failIfMany(int there, int most) {
            if (there >= most) {
                text.fail(MANY_FAULT, text.start);
            }
        }
    }

    /** A dimension with its levels and members; when it is arranged, members stand by their values at level 0. */
    private static final class Dimension {
        final byte[] name = new byte[MOST_NAME];
        final byte[][] levelNames = new byte[MOST_LEVELS][MOST_NAME];
        final int[] levelNameSizes = new int[MOST_LEVELS];
        final int[][] values = new int[MOST_LEVELS][MOST_MEMBERS];
        /** By level and member: the place of its value among all values at the level. */
        final int[][] ranks = new int[MOST_LEVELS][MOST_MEMBERS];
        /** By level and place of a value there: a member that has it. */
        final int[][] bearers = new int[MOST_LEVELS][MOST_MEMBERS];
        final int[] different = new int[MOST_LEVELS];
        private final int[] order = new int[MOST_MEMBERS];
        private final int[] spare = new int[MOST_MEMBERS];
        int nameSize;
        int levels;
        int members;
        /** The members and those of the statement that is being read: they are members at its end only. */
        int coming;

        void begin(Text text) {
            nameSize = text.copyName(name);
            levels = 0;
            members = 0;
        }

        void addLevel(Text text) {
            levelNameSizes[levels] = text.copyName(levelNames[levels]);
            levels++;
        }

        int levelCalled(Text text) {
            for (int l = 0; l < levels; l++) {
                if (text.says(levelNames[l], levelNameSizes[l])) {
                    return l;
                }
            }
            return NONE;
        }

        boolean comingClashes() {
            for (int m = 0; m < coming; m++) {
                if (values[0][m] == values[0][coming]) {
                    return true;
                }
                boolean isAlike = false;
                for (int l = 1; l < levels; l++) {
                    boolean isSame = values[l][m] == values[l][coming];
                    if (isAlike && !isSame) {
                        return true;
                    }
                    isAlike = isSame;
                }
            }
            return false;
        }

        void arrange() {
            sortBy(values[0]);
            for (int l = 0; l < levels; l++) {
                for (int i = 0; i < members; i++) {
                    spare[i] = values[l][order[i]];
                }
                System.arraycopy(spare, 0, values[l], 0, members);
            }
            for (int l = 0; l < levels; l++) {
                sortBy(values[l]);
                rank(l);
            }
        }

        int memberWith(int value) {
            int low = 0;
            int high = members - 1;
            for (int i = 0; i < 32 && low <= high; i++) {
                int middle = (low + high) / 2;
                if (values[0][middle] == value) {
                    return middle;
                }
                if (values[0][middle] < value) {
                    low = middle + 1;
                } else {
                    high = middle - 1;
                }
            }
            return NONE;
        }

        void writeTo(Tape tape) {
            tape.put(nameSize, 8);
            tape.put(levels, 8);
            tape.put(members, 16);
            tape.putName(name, nameSize);
            for (int l = 0; l < levels; l++) {
                tape.put(levelNameSizes[l], 8);
                tape.putName(levelNames[l], levelNameSizes[l]);
                for (int m = 0; m < members; m++) {
                    tape.put(values[l][m], 32);
                }
            }
        }

        void readFrom(Tape tape) {
            nameSize = tape.takeUpTo(8, MOST_NAME);
            levels = tape.takeUpTo(8, MOST_LEVELS);
            members = tape.takeUpTo(16, MOST_MEMBERS);
            tape.takeName(name, nameSize);
            for (int l = 0; l < levels; l++) {
                levelNameSizes[l] = tape.takeUpTo(8, MOST_NAME);
                tape.takeName(levelNames[l], levelNameSizes[l]);
                for (int m = 0; m < members; m++) {
                    values[l][m] = (int) tape.take(32);
                }
            }
        }

        private void sortBy(int[] value) {
            for (int i = 0; i < members; i++) {
                int to = i;
                for (; to > 0 && value[order[to - 1]] > value[i]; to--) {
                    order[to] = order[to - 1];
                }
                order[to] = i;
            }
        }

        private void rank(int level) {
            int[] value = values[level];
            int last = NONE;
            for (int i = 0; i < members; i++) {
                int member = order[i];
                if (i == 0 || value[member] != value[order[i - 1]]) {
                    last++;
                    bearers[level][last] = member;
                }
                ranks[level][member] = last;
            }
            different[level] = last + 1;
        }
    }

    /** Dimensions and measures, and how views are numbered over them. */
    private static final class Catalog {
        final Dimension[] dimension = new Dimension[MOST_DIMENSIONS];
        int dimensions;
        int measures;
        private final byte[][] measureNames = new byte[MOST_MEASURES][MOST_NAME];
        private final int[] measureNameSizes = new int[MOST_MEASURES];

        Catalog() {
            for (int d = 0; d < MOST_DIMENSIONS; d++) {
                dimension[d] = new Dimension();
            }
        }

        void forget() {
            dimensions = 0;
            measures = 0;
        }

        boolean isComplete() {
            for (int d = 0; d < dimensions; d++) {
                if (dimension[d].members == 0) {
                    return false;
                }
            }
            return dimensions > 0 && measures > 0;
        }

        void arrange() {
            for (int d = 0; d < dimensions; d++) {
                dimension[d].arrange();
            }
        }

        int dimensionCalled(Text text) {
            for (int d = 0; d < dimensions; d++) {
                if (text.says(dimension[d].name, dimension[d].nameSize)) {
                    return d;
                }
            }
            return NONE;
        }

        int measureCalled(Text text) {
            for (int m = 0; m < measures; m++) {
                if (text.says(measureNames[m], measureNameSizes[m])) {
                    return m;
                }
            }
            return NONE;
        }

        void nameNextMeasure(Text text) {
            measureNameSizes[measures] = text.copyName(measureNames[measures]);
        }

        /** How many dimensions and measures there are, as the head of the catalog's extent says it. */
        int sizes() {
            return dimensions | measures << 8;
        }

        int viewsInAll() {
            int views = 1;
            for (int d = 0; d < dimensions; d++) {
                views *= dimension[d].levels + 1;
            }
            return views;
        }

        /** At which number a view has a dimension. */
        int levelIn(int viewNumber, int wanted) {
            int rest = viewNumber;
            for (int d = dimensions - 1; d > wanted; d--) {
                rest /= dimension[d].levels + 1;
            }
            return rest % (dimension[wanted].levels + 1);
        }

        void writeTo(Tape tape) {
            for (int d = 0; d < dimensions; d++) {
                dimension[d].writeTo(tape);
            }
            for (int m = 0; m < measures; m++) {
                tape.put(measureNameSizes[m], 8);
                tape.putName(measureNames[m], measureNameSizes[m]);
            }
        }

        void readFrom(Tape tape, int sizes) {
            dimensions = Math.min(sizes & 255, MOST_DIMENSIONS);
            measures = Math.min(sizes >> 8, MOST_MEASURES);
            for (int d = 0; d < dimensions; d++) {
                dimension[d].readFrom(tape);
            }
            for (int m = 0; m < measures; m++) {
                measureNameSizes[m] = tape.takeUpTo(8, MOST_NAME);
                tape.takeName(measureNames[m], measureNameSizes[m]);
            }
        }
    }

    /** A question as it was read. A column is one number: dimension * MOST_LEVELS + level. */
    private static final class Question {
        /** Comparisons, what joins them, and a not behind each of these. */
        private static final int MOST_STEPS = 4 * MOST_COMPARISONS;
        private final Catalog catalog;
        int place;
        int items;
        /** NAME for a column, or the kind of the item's first word. */
        final int[] itemKind = new int[MOST_ITEMS];
        /** The column or the measure; when items are resolved, the group column instead of the column. */
        final int[] itemOf = new int[MOST_ITEMS];
        final int[] itemPlace = new int[MOST_ITEMS];
        int groups;
        final int[] group = new int[MOST_GROUPS];
        int sets;
        /** Of each grouping set the group columns that are in it, as bits. */
        final int[] setMask = new int[MOST_SETS];
        int comparisons;
        private final int[] comparisonColumn = new int[MOST_COMPARISONS];
        /** By comparison and member of its dimension, 1 where it holds. */
        private final byte[][] holdsFor = new byte[MOST_COMPARISONS][MOST_MEMBERS];
        private int steps;
        /** The condition with each operator behind what it joins; below DIMENSION they are comparisons. */
        private final int[] step = new int[MOST_STEPS];
        /** By dimension the lowest level that the question asks for. */
        private final int[] lowest = new int[MOST_DIMENSIONS];

        Question(Catalog catalog) {
            this.catalog = catalog;
        }

        void begin(int at) {
            place = at;
            items = 0;
            groups = 0;
            sets = 1;
            setMask[0] = 0;
            comparisons = 0;
            steps = 0;
            Arrays.fill(lowest, MOST_LEVELS);
        }

        void addItem(int kind, int of, int at) {
            itemKind[items] = kind;
            itemOf[items] = of;
            itemPlace[items] = at;
            items++;
        }

        /** Finds the items' group columns: the first item that has none, or NONE. */
        int resolveItems() {
            for (int i = 0; i < items; i++) {
                if (itemKind[i] == NAME || itemKind[i] == GROUPING) {
                    itemOf[i] = groupOf(itemOf[i]);
                    if (itemOf[i] == NONE) {
                        return i;
                    }
                }
            }
            return NONE;
        }

        int groupOf(int column) {
            for (int g = 0; g < groups; g++) {
                if (group[g] == column) {
                    return g;
                }
            }
            return NONE;
        }

        void addGroup(int column) {
            needColumn(column);
            group[groups++] = column;
        }

        /** Joins the sets of the group that begins at a group column: whether there are not too many then. */
        boolean addSets(int kind, int first) {
            int columns = groups - first;
            int variants = kind == ROLLUP ? columns + 1 : kind == CUBE ? 1 << columns : 1;
            if (sets * variants > MOST_SETS) {
                return false;
            }
            if (kind != ROLLUP && kind != CUBE) {
                for (int s = 0; s < sets; s++) {
                    setMask[s] |= 1 << first;
                }
            }
            for (int v = 1; v < variants; v++) {
                int taken = kind == CUBE ? v : (1 << v) - 1;
                for (int s = 0; s < sets; s++) {
                    setMask[v * sets + s] = setMask[s] | taken << first;
                }
            }
            sets *= variants;
            return true;
        }

        void beginComparison(int column) {
            needColumn(column);
            comparisonColumn[comparisons] = column;
            Arrays.fill(holdsFor[comparisons], (byte) 0);
            addStep(comparisons);
            comparisons++;
        }

        /** The comparison in the making holds for values from one to another, too. */
        void admit(long low, long high) {
            int column = comparisonColumn[comparisons - 1];
            Dimension dimension = catalog.dimension[column / MOST_LEVELS];
            int[] values = dimension.values[column % MOST_LEVELS];
            byte[] holds = holdsFor[comparisons - 1];
            for (int m = 0; m < dimension.members; m++) {
                if (values[m] >= low && values[m] <= high) {
                    holds[m] = 1;
                }
            }
        }

        /** The comparison in the making holds for all other values instead. */
        void turnComparison() {
            byte[] holds = holdsFor[comparisons - 1];
            for (int m = 0; m < MOST_MEMBERS; m++) {
                holds[m] ^= 1;
            }
        }

        /** A not behind a not takes both away: brackets may bring any number of them. */
        void addStep(int what) {
            if (what == NOT && steps > 0 && step[steps - 1] == NOT) {
                steps--;
            } else if (steps < MOST_STEPS) {
                step[steps++] = what;
            }
        }

        boolean asksFor(int dimension) {
            return lowest[dimension] < MOST_LEVELS;
        }

        /** Whether a view can answer the question. */
        boolean fits(int viewNumber) {
            for (int d = 0; d < catalog.dimensions; d++) {
                if (asksFor(d) && catalog.levelIn(viewNumber, d) > lowest[d]) {
                    return false;
                }
            }
            return true;
        }

        /** Whether the condition holds for a row of the segment in a table. */
        boolean holds(Table table, int row) {
            // The values that wait for an operator are the lowest bits, the latest the very lowest.
            long waiting = 1;
            for (int i = 0; i < steps; i++) {
                int what = step[i];
                if (what < MOST_COMPARISONS) {
                    int member = table.memberAt(comparisonColumn[what] / MOST_LEVELS, row);
                    waiting = waiting << 1 | holdsFor[what][member];
                } else if (what == NOT) {
                    waiting ^= 1;
                } else if (what == AND) {
                    waiting = waiting >> 1 & (waiting | ~1L);
                } else {
                    waiting = waiting >> 1 | waiting & 1;
                }
            }
            return (waiting & 1) != 0;
        }

        private void needColumn(int column) {
            int d = column / MOST_LEVELS;
            lowest[d] = Math.min(lowest[d], column % MOST_LEVELS);
        }
    }

    /** The rows of an answer, found by their group columns while facts or rows of a view come in. */
    private static final class Answer {
        private static final int SLOTS = 8192;
        private static final int HASH_TIMES = 0x9E3779B1;
        /** So much of a hash is left out that the rest of it is a slot. */
        private static final int HASH_SHIFT = 19;
        /** Places are those of the group columns' values (behind all others for ALL), amounts are the items. */
        final Rows found = new Rows(MOST_ANSWER_ROWS, MOST_ITEMS);
        private final long[] facts = new long[MOST_ANSWER_ROWS];
        /** Of each row the items that are blank, as bits. */
        private final int[] blanks = new int[MOST_ANSWER_ROWS];
        private final int[] slots = new int[SLOTS];
        private final int[] ranks = new int[MOST_GROUPS];
        private final int[] lasts = new int[MOST_GROUPS];
        private int items;
        boolean isThere;
        boolean isOver;
        int source;

        void forget() {
            isThere = false;
        }

        boolean has(int r, int i) {
            return isThere && r >= 0 && r < found.size && i >= 0 && i < items;
        }

        long valueAt(int r, int i) {
            return found.amounts[i][found.order[r]];
        }

        boolean isBlankAt(int r, int i) {
            return (blanks[found.order[r]] >> i & 1) != 0;
        }

        void begin(Question question) {
            isThere = false;
            isOver = false;
            items = question.items;
            found.size = 0;
            Arrays.fill(slots, NONE);
            for (int g = 0; g < question.groups; g++) {
                lasts[g] = question.catalog.dimension[question.group[g] / MOST_LEVELS]
                    .different[question.group[g] % MOST_LEVELS];
            }
            for (int s = 0; s < question.sets; s++) {
                if (question.setMask[s] == 0) {
                    rowFor(question, 0);
                }
            }
        }

        void addPart(Question question, Table table, Tape tape) {
            int left = table.beginReading(tape);
            long wanted = table.columnsFor(question);
            for (; left > 0 && !isOver; left -= SEGMENT) {
                int size = table.readSegment(tape, wanted, table.cells);
                for (int row = 0; row < size && !isOver; row++) {
                    if (question.holds(table, row)) {
                        addRow(question, table, row);
                    }
                }
            }
        }

        void finish(Question question, int from) {
            for (int r = 0; r < found.size; r++) {
                blanks[r] = 0;
                for (int i = 0; i < items; i++) {
                    finishItem(question, r, i);
                }
            }
            found.arrange();
            for (int g = question.groups - 1; g >= 0; g--) {
                found.sortBy(g, null, lasts[g] + 1);
            }
            source = from;
            isThere = true;
        }

        private void finishItem(Question question, int r, int i) {
            int kind = question.itemKind[i];
            int of = question.itemOf[i];
            if (kind == NAME || kind == GROUPING) {
                int rank = found.places[of][r];
                boolean isAll = rank == lasts[of];
                if (kind == GROUPING) {
                    found.amounts[i][r] = isAll ? 1 : 0;
                } else if (isAll) {
                    blanks[r] |= 1 << i;
                } else {
                    Dimension dimension = question.catalog.dimension[question.group[of] / MOST_LEVELS];
                    int level = question.group[of] % MOST_LEVELS;
                    found.amounts[i][r] = dimension.values[level][dimension.bearers[level][rank]];
                }
            } else if ((kind == MIN || kind == MAX) && facts[r] == 0) {
                blanks[r] |= 1 << i;
            }
        }

        private void addRow(Question question, Table table, int row) {
            for (int g = 0; g < question.groups; g++) {
                int d = question.group[g] / MOST_LEVELS;
                ranks[g] = question.catalog.dimension[d].ranks[question.group[g] % MOST_LEVELS][table.memberAt(d, row)];
            }
            for (int s = 0; s < question.sets; s++) {
                int r = rowFor(question, question.setMask[s]);
                if (r == NONE) {
                    isOver = true;
                    return;
                }
                addTo(r, question, table, row);
            }
        }

        private void addTo(int r, Question question, Table table, int row) {
            for (int i = 0; i < items; i++) {
                int kind = question.itemKind[i];
                if (kind < SUM || kind > MAX) {
                    continue;
                }
                long[] values = found.amounts[i];
                long more = kind == COUNT ? table.factsAt(row) : table.cells[table.columnOf(kind, question.itemOf[i])][row];
                if (kind == SUM || kind == COUNT) {
                    values[r] += more;
                } else if (facts[r] == 0) {
                    values[r] = more;
                } else {
                    values[r] = kind == MIN ? Math.min(values[r], more) : Math.max(values[r], more);
                }
            }
            facts[r] += table.factsAt(row);
        }

        /** The row with the ranks of the columns in a grouping set, made anew if need be; NONE without room. */
        private int rowFor(Question question, int mask) {
            int hash = 0;
            for (int g = 0; g < question.groups; g++) {
                hash = (hash + ((mask >> g & 1) != 0 ? ranks[g] : lasts[g])) * HASH_TIMES;
            }
            int slot = hash >>> HASH_SHIFT;
            for (int i = 0; i < SLOTS; i++) {
                int r = slots[slot];
                if (r == NONE) {
                    break;
                }
                if (isRow(r, question, mask)) {
                    return r;
                }
                slot = slot + 1 & SLOTS - 1;
            }
            if (found.size >= MOST_ANSWER_ROWS) {
                return NONE;
            }
            slots[slot] = found.size;
            return makeRow(question, mask);
        }

        private boolean isRow(int r, Question question, int mask) {
            for (int g = 0; g < question.groups; g++) {
                if (found.places[g][r] != ((mask >> g & 1) != 0 ? ranks[g] : lasts[g])) {
                    return false;
                }
            }
            return true;
        }

        private int makeRow(Question question, int mask) {
            int r = found.size++;
            for (int g = 0; g < question.groups; g++) {
                found.places[g][r] = (mask >> g & 1) != 0 ? ranks[g] : lasts[g];
            }
            for (int i = 0; i < items; i++) {
                found.amounts[i][r] = 0;
            }
            facts[r] = 0;
            return r;
        }
    }

    /** A row of bits that is written or read from a place on, and the five forms of columns on it. */
    private static final class Tape {
        private static final int SLOTS = 4 * SEGMENT;
        private static final long HASH_TIMES = 0x9E3779B97F4A7C15L;
        private final long[] words;
        private final int limit;
        int at;
        /** Something did not fit: all that is put from then on is lost. */
        boolean isOver;
        private final int[] slots = new int[SLOTS];
        private final long[] list = new long[SEGMENT];
        private final int[] index = new int[SEGMENT];
        /** What the last survey of a column found: by form how long a cell and how long the whole is. */
        private final int[] cellBits = new int[FORMS];
        private final int[] formBytes = new int[FORMS];
        private int different;
        private int stretches;
        private long least;
        private long greatest;
        private long leastStep;
        private long greatestStep;

        Tape(long[] words) {
            this.words = words;
            limit = words.length * 64;
        }

        /** Only what was written is cleared: what lies behind it is clear already. */
        void clear() {
            Arrays.fill(words, 0, Math.min(words.length, (at >> 6) + 2), 0L);
            at = 0;
            isOver = false;
        }

        void put(long value, int bits) {
            if (bits > limit - at) {
                isOver = true;
            }
            if (isOver || bits == 0) {
                return;
            }
            long part = value & -1L >>> 64 - bits;
            int word = at >> 6;
            int shift = at & 63;
            words[word] |= part << shift;
            if (shift + bits > 64) {
                words[word + 1] |= part >>> 64 - shift;
            }
            at += bits;
        }

        long take(int bits) {
            if (bits == 0 || bits > limit - at) {
                return 0;
            }
            int word = at >> 6;
            int shift = at & 63;
            long part = words[word] >>> shift;
            if (shift + bits > 64) {
                part |= words[word + 1] << 64 - shift;
            }
            at += bits;
            return part & -1L >>> 64 - bits;
        }

        int takeUpTo(int bits, int most) {
            return (int) Math.min(take(bits), most);
        }

        void putName(byte[] name, int size) {
            for (int i = 0; i < size; i++) {
                put(name[i], 8);
            }
        }

        void takeName(byte[] name, int size) {
            for (int i = 0; i < size; i++) {
                name[i] = (byte) take(8);
            }
        }

        /** Fills in a number for which 0 was put before, when it was not known. */
        void fillIn(int place, long value, int bits) {
            int end = at;
            at = place;
            put(value, bits);
            at = end;
        }

        /** The head of a column has its form and length, by which it can be skipped, and what cells it spans. */
        void writeColumn(long[] cells, int n) {
            if (isOver) {
                return;
            }
            survey(cells, n);
            listCells(cells, n);
            weigh(n);
            int form = shortestForm();
            int bytes = formBytes[form];
            if (bytes + COLUMN_BYTES > (limit - at) / 8) {
                isOver = true;
                return;
            }
            put(form, 8);
            put(bytes, 24);
            put(least, 64);
            put(greatest, 64);
            int end = at + bytes * 8;
            if (form == LIST) {
                writeList(n);
            } else if (form == RUNS) {
                writeRuns(cells, n);
            } else {
                writeNumbers(form, cells, n);
            }
            at = end;
        }

        void readColumn(long[] cells, int n) {
            int form = takeUpTo(8, STEPS);
            int bytes = (int) take(24);
            take(64);
            take(64);
            int end = Math.min(limit, at + bytes * 8);
            if (form == LIST) {
                readList(cells, n);
            } else if (form == RUNS) {
                readRuns(cells, n);
            } else {
                readNumbers(form, cells, n);
            }
            at = end;
        }

        void skipColumn() {
            take(8);
            int bytes = (int) take(24);
            at = Math.min(limit, at + 128 + bytes * 8);
        }

        private void writeList(int n) {
            put(different, 16);
            for (int i = 0; i < different; i++) {
                put(list[i], 64);
            }
            for (int i = 0; i < n; i++) {
                put(index[i], cellBits[LIST]);
            }
        }

        private void readList(long[] cells, int n) {
            int entries = (int) Math.min(take(16), SEGMENT);
            for (int i = 0; i < entries; i++) {
                list[i] = take(64);
            }
            int bits = bitsOf(entries - 1);
            for (int i = 0; i < n; i++) {
                cells[i] = list[(int) Math.min(take(bits), SEGMENT - 1)];
            }
        }

        private void writeRuns(long[] cells, int n) {
            put(stretches, 16);
            int begin = 0;
            for (int i = 1; i <= n; i++) {
                if (i == n || cells[i] != cells[begin]) {
                    put(cells[begin], 64);
                    put(i - begin, 16);
                    begin = i;
                }
            }
        }

        private void readRuns(long[] cells, int n) {
            int left = (int) take(16);
            int done = 0;
            for (; left > 0; left--) {
                long cell = take(64);
                int end = (int) Math.min(n, done + take(16));
                Arrays.fill(cells, done, end, cell);
                done = end;
            }
        }

        /** The forms that have one number for each cell: itself, how far it is above the least, or its step. */
        private void writeNumbers(int form, long[] cells, int n) {
            int bits = cellBits[form];
            if (form == STEPS) {
                put(cells[0], 64);
                put(leastStep, 64);
                put(bits, 8);
                for (int i = 1; i < n; i++) {
                    put(cells[i] - cells[i - 1] - leastStep, bits);
                }
                return;
            }
            long base = 0;
            if (form == PACKED) {
                base = least;
                put(base, 64);
                put(bits, 8);
            }
            for (int i = 0; i < n; i++) {
                put(cells[i] - base, bits);
            }
        }

        private void readNumbers(int form, long[] cells, int n) {
            long base = form == PLAIN ? 0 : take(64);
            long step = form == STEPS ? take(64) : 0;
            int bits = form == PLAIN ? 64 : (int) Math.min(take(8), 64);
            for (int i = 0; i < n; i++) {
                if (form != STEPS) {
                    cells[i] = base + take(bits);
                } else {
                    cells[i] = i == 0 ? base : cells[i - 1] + step + take(bits);
                }
            }
        }

        private void survey(long[] cells, int n) {
            least = cells[0];
            greatest = cells[0];
            stretches = 1;
            leastStep = n > 1 ? cells[1] - cells[0] : 0;
            greatestStep = leastStep;
            for (int i = 1; i < n; i++) {
                long step = cells[i] - cells[i - 1];
                least = Math.min(least, cells[i]);
                greatest = Math.max(greatest, cells[i]);
                leastStep = Math.min(leastStep, step);
                greatestStep = Math.max(greatestStep, step);
                if (step != 0) {
                    stretches++;
                }
            }
        }

        /** Lists the different cells as they come, with the place in the list of each cell. */
        private void listCells(long[] cells, int n) {
            int mask = 4 * Integer.highestOneBit(n) - 1;
            Arrays.fill(slots, 0, mask + 1, NONE);
            different = 0;
            for (int i = 0; i < n; i++) {
                int slot = (int) (cells[i] * HASH_TIMES >>> 40) & mask;
                for (int tries = 0; tries < SLOTS; tries++) {
                    if (slots[slot] == NONE || list[slots[slot]] == cells[i]) {
                        break;
                    }
                    slot = slot + 1 & mask;
                }
                if (slots[slot] == NONE) {
                    slots[slot] = different;
                    list[different++] = cells[i];
                }
                index[i] = slots[slot];
            }
        }

        private void weigh(int n) {
            cellBits[PLAIN] = 64;
            cellBits[PACKED] = bitsOf(greatest - least);
            cellBits[LIST] = bitsOf(different - 1);
            cellBits[STEPS] = bitsOf(greatestStep - leastStep);
            formBytes[PLAIN] = 8 * n;
            formBytes[PACKED] = 9 + (n * cellBits[PACKED] + 7) / 8;
            formBytes[LIST] = 2 + 8 * different + (n * cellBits[LIST] + 7) / 8;
            formBytes[RUNS] = 2 + 10 * stretches;
            formBytes[STEPS] = 17 + ((n - 1) * cellBits[STEPS] + 7) / 8;
        }

        private int shortestForm() {
            int best = PLAIN;
            for (int form = PACKED; form < FORMS; form++) {
                if (formBytes[form] < formBytes[best]) {
                    best = form;
                }
            }
            return best;
        }

        private static int bitsOf(long number) {
            return 64 - Long.numberOfLeadingZeros(number);
        }
    }

    /**
     * The blocks, the power that writes them, and the ledger: what the manifest says of the extents in the
     * order in which they were written, and of the chosen views.
     */
    private static final class Disk {
        private final int blocks;
        private final long[] words;
        /** The extent that is being made: it goes to the blocks when it is known how long it is. */
        final Tape fresh;
        private final long[] freshWords;
        private final Tape manifest;
        private final long[] manifestWords = new long[BLOCK_WORDS];
        private final Tape reading;
        private final int[] holders = new int[MOST_BLOCKS];
        private int turn;
        int loads;
        int facts;
        int views;
        final int[] viewNumbers = new int[MOST_CHOSEN];
        final int[] viewRows = new int[MOST_CHOSEN];
        int extents;
        private final int[] kinds = new int[MOST_EXTENTS];
        private final int[] starts = new int[MOST_EXTENTS];
        private final int[] lengths = new int[MOST_EXTENTS];
        /** How many more blocks will be written before the power fails; NONE if it will not. */
        int fuse = NONE;
        int written;

        Disk(int blocks) {
            this.blocks = blocks;
            words = new long[blocks * BLOCK_WORDS];
            freshWords = new long[blocks * BLOCK_WORDS];
            fresh = new Tape(freshWords);
            manifest = new Tape(manifestWords);
            reading = new Tape(words);
        }

        void forget() {
            turn = 0;
            loads = 0;
            facts = 0;
            views = 0;
            extents = 0;
        }

        /** The head of an extent says its kind, before which change it was made, and how many things are in it. */
        void beginExtent(int kind, int note) {
            fresh.clear();
            fresh.put(kind, 8);
            fresh.put(turn, 24);
            fresh.put(note, 32);
        }

        int neededBlocks() {
            return (fresh.at + BLOCK_BITS - 1) / BLOCK_BITS;
        }

        /** The foremost place for so many blocks; NONE if there is none. */
        int roomFor(int needed) {
            if (fresh.isOver) {
                return NONE;
            }
            markHolders();
            int free = 0;
            for (int b = MANIFESTS; b < blocks; b++) {
                free = holders[b] == 0 ? free + 1 : 0;
                if (free >= needed) {
                    return b - needed + 1;
                }
            }
            return NONE;
        }

        int freeBlocks() {
            int free = blocks - MANIFESTS;
            for (int e = 0; e < extents; e++) {
                free -= lengths[e];
            }
            return free;
        }

        int blocksInTwo() {
            markHolders();
            int twice = 0;
            for (int b = 0; b < blocks; b++) {
                if (holders[b] > 1) {
                    twice++;
                }
            }
            return twice;
        }

        void addExtent(int kind, int start, int length) {
            kinds[extents] = kind;
            starts[extents] = start;
            lengths[extents] = length;
            extents++;
        }

        void dropChoice() {
            int kept = 0;
            for (int e = 0; e < extents; e++) {
                if (kinds[e] != CHOICE_EXTENT) {
                    kinds[kept] = kinds[e];
                    starts[kept] = starts[e];
                    lengths[kept] = lengths[e];
                    kept++;
                }
            }
            extents = kept;
        }

        void dropAllButCatalog() {
            extents = Math.min(extents, 1);
        }

        int extentsWithoutChoice() {
            int first = firstWithViews();
            return first < extents && kinds[first] == CHOICE_EXTENT ? extents - 1 : extents;
        }

        void takeViews(int[] numbers, int[] rows, int chosen) {
            views = chosen;
            for (int i = 0; i < chosen; i++) {
                viewNumbers[i] = numbers[i];
                viewRows[i] = rows[i];
            }
        }

        boolean hasFacts(int e) {
            return kinds[e] == LOAD_EXTENT || kinds[e] == SETTLED_EXTENT;
        }

        /** From which extent on there are parts of the views that are chosen now: the choice's, if that is there. */
        int firstWithViews() {
            for (int e = 0; e < extents; e++) {
                if (kinds[e] == CHOICE_EXTENT) {
                    return e;
                }
            }
            return 1;
        }

        /** Goes to what stands behind an extent's head. */
        Tape goTo(int e) {
            reading.at = starts[e] * BLOCK_BITS + 64;
            return reading;
        }

        int noteOf(int e) {
            reading.at = starts[e] * BLOCK_BITS + 32;
            return (int) reading.take(32);
        }

        /** Writes the fresh extent, if it has blocks, and the manifest: whether the power is still there. */
        boolean commit(int place, int length) {
            for (int b = 0; b < length; b++) {
                if (!writeBlock(freshWords, b, place + b)) {
                    return false;
                }
            }
            turn++;
            fillManifest();
            return writeBlock(manifestWords, 0, turn & 1);
        }

        /** Takes the ledger from the newer manifest; false if none was ever written. */
        boolean restore() {
            long even = words[0] & 0xFFFFFFFFL;
            long odd = words[BLOCK_WORDS] & 0xFFFFFFFFL;
            if (even == 0 && odd == 0) {
                return false;
            }
            reading.at = even > odd ? 0 : BLOCK_BITS;
            turn = (int) reading.take(32);
            loads = (int) reading.take(32);
            facts = reading.takeUpTo(32, MOST_FACTS);
            views = reading.takeUpTo(16, MOST_CHOSEN);
            extents = reading.takeUpTo(16, MOST_EXTENTS);
            for (int i = 0; i < views; i++) {
                viewNumbers[i] = (int) reading.take(32);
                viewRows[i] = (int) reading.take(32);
            }
            for (int e = 0; e < extents; e++) {
                kinds[e] = (int) reading.take(8);
                starts[e] = reading.takeUpTo(16, blocks - 1);
                lengths[e] = reading.takeUpTo(16, blocks - starts[e]);
            }
            return true;
        }

        private void fillManifest() {
            manifest.clear();
            manifest.put(turn, 32);
            manifest.put(loads, 32);
            manifest.put(facts, 32);
            manifest.put(views, 16);
            manifest.put(extents, 16);
            for (int i = 0; i < views; i++) {
                manifest.put(viewNumbers[i], 32);
                manifest.put(viewRows[i], 32);
            }
            for (int e = 0; e < extents; e++) {
                manifest.put(kinds[e], 8);
                manifest.put(starts[e], 16);
                manifest.put(lengths[e], 16);
            }
        }

        /** Answers whether the power is still there behind it. */
        private boolean writeBlock(long[] from, int source, int target) {
            System.arraycopy(from, source * BLOCK_WORDS, words, target * BLOCK_WORDS, BLOCK_WORDS);
            written++;
            if (fuse > 0) {
                fuse--;
            }
            return fuse != 0;
        }

        private void markHolders() {
            Arrays.fill(holders, 0);
            for (int e = 0; e < extents; e++) {
                for (int b = starts[e]; b < starts[e] + lengths[e]; b++) {
                    holders[b]++;
                }
            }
        }
    }

    /** Rows with places, by which they can be put in order, and amounts. */
    private static final class Rows {
        final int[][] places;
        final long[][] amounts;
        /** Which row is the first, the second and so on, since they were arranged. */
        final int[] order;
        private final int[] spare;
        /** A place for each rank and one for ALL, and one more for where the last of them ends. */
        private final int[] tally = new int[MOST_MEMBERS + 2];
        int size;

        Rows(int most, int width) {
            places = new int[MOST_DIMENSIONS][most];
            amounts = new long[width][most];
            order = new int[most];
            spare = new int[most];
        }

        void arrange() {
            for (int i = 0; i < size; i++) {
                order[i] = i;
            }
        }

        /** Orders by the ranks of one column's places (or these themselves), leaving alike ones as they are. */
        void sortBy(int column, int[] ranks, int different) {
            int[] place = places[column];
            Arrays.fill(tally, 0, different + 1, 0);
            for (int i = 0; i < size; i++) {
                tally[(ranks == null ? place[i] : ranks[place[i]]) + 1]++;
            }
            for (int k = 1; k <= different; k++) {
                tally[k] += tally[k - 1];
            }
            for (int i = 0; i < size; i++) {
                int row = order[i];
                int rank = ranks == null ? place[row] : ranks[place[row]];
                spare[tally[rank]++] = row;
            }
            System.arraycopy(spare, 0, order, 0, size);
        }
    }

    /** A table, the facts' or a view's, as it goes to the disk and comes from it segment by segment. */
    private static final class Table {
        private static final long ALL_COLUMNS = -1L;
        private final Catalog catalog;
        final long[][] cells = new long[MOST_COLUMNS][SEGMENT];
        /** What the disk has, when it is checked against the cells. */
        private final long[][] diskCells = new long[MOST_COLUMNS][SEGMENT];
        /** Of each dimension the number at which the table has it, and its column, NONE without one. */
        private final int[] levels = new int[MOST_DIMENSIONS];
        private final int[] placeColumn = new int[MOST_DIMENSIONS];
        private int places;
        private int columns;
        private boolean isView;
        /** How many rows of the cells are filled. */
        private int size;

        Table(Catalog catalog) {
            this.catalog = catalog;
        }

        void shapeAsFacts() {
            isView = false;
            places = catalog.dimensions;
            for (int d = 0; d < places; d++) {
                levels[d] = 0;
                placeColumn[d] = d;
            }
            columns = places + catalog.measures;
        }

        void shapeAsView(int number) {
            isView = true;
            places = 0;
            for (int d = 0; d < catalog.dimensions; d++) {
                levels[d] = catalog.levelIn(number, d);
                boolean isHere = levels[d] < catalog.dimension[d].levels;
                placeColumn[d] = isHere ? places : NONE;
                places += isHere ? 1 : 0;
            }
            columns = places + 1 + 3 * catalog.measures;
        }

        void sort(Rows facts) {
            facts.arrange();
            for (int d = catalog.dimensions - 1; d >= 0; d--) {
                if (placeColumn[d] != NONE) {
                    Dimension dimension = catalog.dimension[d];
                    facts.sortBy(d, dimension.ranks[levels[d]], dimension.different[levels[d]]);
                }
            }
        }

        /** Where a measure's cell of a kind is: in the facts' table it is the amount itself for all kinds. */
        int columnOf(int kind, int measure) {
            if (!isView) {
                return places + measure;
            }
            return places + 1 + 3 * measure + (kind == SUM ? 0 : kind == MIN ? 1 : 2);
        }

        long factsAt(int row) {
            return isView ? cells[places][row] : 1;
        }

        /** A member of a dimension with the value of a row; all such members are alike from the level on. */
        int memberAt(int d, int row) {
            if (placeColumn[d] == NONE) {
                return 0;
            }
            int place = (int) cells[placeColumn[d]][row];
            return isView ? catalog.dimension[d].bearers[levels[d]][place] : place;
        }

        /** The columns that a question must see, as bits. */
        long columnsFor(Question question) {
            long wanted = isView ? 1L << places : 0;
            for (int d = 0; d < catalog.dimensions; d++) {
                if (placeColumn[d] != NONE && question.asksFor(d)) {
                    wanted |= 1L << placeColumn[d];
                }
            }
            for (int i = 0; i < question.items; i++) {
                int kind = question.itemKind[i];
                if (kind == SUM || kind == MIN || kind == MAX) {
                    wanted |= 1L << columnOf(kind, question.itemOf[i]);
                }
            }
            return wanted;
        }

        void writeFacts(Rows facts, Tape tape) {
            tape.put(facts.size, 32);
            for (int from = 0; from < facts.size && !tape.isOver; from += SEGMENT) {
                size = Math.min(SEGMENT, facts.size - from);
                for (int i = 0; i < size; i++) {
                    int row = facts.order[from + i];
                    for (int d = 0; d < places; d++) {
                        cells[d][i] = facts.places[d][row];
                    }
                    for (int m = 0; m < catalog.measures; m++) {
                        cells[places + m][i] = facts.amounts[m][row];
                    }
                }
                writeSegment(tape);
            }
        }

        /** Writes the part of a view that sorted facts give: how many rows it has. */
        int writeView(Rows facts, Tape tape) {
            int rowsPlace = tape.at;
            tape.put(0, 32);
            int rows = 0;
            int from = 0;
            for (int s = 0; s < MOST_FACTS && from < facts.size && !tape.isOver; s++) {
                from = sumUp(facts, from);
                writeSegment(tape);
                rows += size;
            }
            tape.fillIn(rowsPlace, rows, 32);
            return rows;
        }

        /** How many rows of the part on the tape are not what sorted facts give. */
        int checkView(Rows facts, Tape tape) {
            int onDisk = beginReading(tape);
            int rows = 0;
            int wrong = 0;
            int from = 0;
            for (int s = 0; s < MOST_FACTS && from < facts.size; s++) {
                from = sumUp(facts, from);
                wrong += wrongRows(rows < onDisk ? readSegment(tape, ALL_COLUMNS, diskCells) : 0);
                rows += size;
            }
            return wrong + Math.max(0, onDisk - rows);
        }

        int beginReading(Tape tape) {
            return tape.takeUpTo(32, MOST_FACTS);
        }

        /** Reads the wanted columns of a segment (they are bits): how many rows it has. */
        int readSegment(Tape tape, long wanted, long[][] into) {
            int rows = tape.takeUpTo(16, SEGMENT);
            for (int c = 0; c < columns; c++) {
                if ((wanted >> c & 1) != 0) {
                    tape.readColumn(into[c], rows);
                } else {
                    tape.skipColumn();
                }
            }
            return rows;
        }

        void skipPart(Tape tape) {
            for (int left = beginReading(tape); left > 0; left -= SEGMENT) {
                tape.take(16);
                for (int c = 0; c < columns; c++) {
                    tape.skipColumn();
                }
            }
        }

        void readFacts(Tape tape, Rows into) {
            for (int left = beginReading(tape); left > 0; left -= SEGMENT) {
                int rows = Math.min(readSegment(tape, ALL_COLUMNS, cells), MOST_FACTS - into.size);
                for (int d = 0; d < places; d++) {
                    for (int i = 0; i < rows; i++) {
                        into.places[d][into.size + i] = (int) cells[d][i];
                    }
                }
                for (int m = 0; m < catalog.measures; m++) {
                    System.arraycopy(cells[places + m], 0, into.amounts[m], into.size, rows);
                }
                into.size += rows;
            }
        }

        private void writeSegment(Tape tape) {
            tape.put(size, 16);
            for (int c = 0; c < columns; c++) {
                tape.writeColumn(cells[c], size);
            }
        }

        /** How many rows of the cells are not what the disk has, of which so many rows were read. */
        private int wrongRows(int there) {
            int wrong = 0;
            for (int i = 0; i < size; i++) {
                boolean isRight = i < there;
                for (int c = 0; c < columns && isRight; c++) {
                    isRight = cells[c][i] == diskCells[c][i];
                }
                wrong += isRight ? 0 : 1;
            }
            return wrong;
        }

        /** Fills the cells with one segment of a view's rows: which of the sorted facts is the next one then. */
        private int sumUp(Rows facts, int from) {
            size = 0;
            for (int i = from; i < facts.size; i++) {
                int row = facts.order[i];
                if (i > from && isSameRow(facts, row, facts.order[i - 1])) {
                    addSums(facts, row);
                } else if (size < SEGMENT) {
                    size++;
                    beginSums(facts, row);
                } else {
                    return i;
                }
            }
            return facts.size;
        }

        private boolean isSameRow(Rows facts, int a, int b) {
            for (int d = 0; d < catalog.dimensions; d++) {
                if (placeColumn[d] != NONE) {
                    int[] ranks = catalog.dimension[d].ranks[levels[d]];
                    if (ranks[facts.places[d][a]] != ranks[facts.places[d][b]]) {
                        return false;
                    }
                }
            }
            return true;
        }

        private void beginSums(Rows facts, int row) {
            int last = size - 1;
            for (int d = 0; d < catalog.dimensions; d++) {
                if (placeColumn[d] != NONE) {
                    cells[placeColumn[d]][last] = catalog.dimension[d].ranks[levels[d]][facts.places[d][row]];
                }
            }
            cells[places][last] = 1;
            for (int c = places + 1; c < columns; c++) {
                cells[c][last] = facts.amounts[(c - places - 1) / 3][row];
            }
        }

        private void addSums(Rows facts, int row) {
            int last = size - 1;
            cells[places][last]++;
            for (int m = 0; m < catalog.measures; m++) {
                long more = facts.amounts[m][row];
                int c = places + 1 + 3 * m;
                cells[c][last] += more;
                cells[c + 1][last] = Math.min(cells[c + 1][last], more);
                cells[c + 2][last] = Math.max(cells[c + 2][last], more);
            }
        }
    }

    /** Chooses views by the rule: always the one that saves most, while one saves anything. */
    private static final class Chooser {
        private final Catalog catalog;
        final int[] picked = new int[MOST_CHOSEN];
        private final int[] estimates = new int[MOST_VIEWS];
        private final int[] costs = new int[MOST_VIEWS];
        /** Of each dimension what one more of its number adds to a view's number. */
        private final int[] weights = new int[MOST_DIMENSIONS];
        private final int[] lowest = new int[MOST_DIMENSIONS];
        private final int[] levels = new int[MOST_DIMENSIONS];
        private int views;

        Chooser(Catalog catalog) {
            this.catalog = catalog;
        }

        int pick(int most, int facts) {
            prepare(facts);
            for (int chosen = 0; chosen < most; chosen++) {
                int best = NONE;
                long greatest = 0;
                for (int v = 0; v < views; v++) {
                    long benefit = benefit(v);
                    if (benefit > greatest) {
                        greatest = benefit;
                        best = v;
                    }
                }
                if (best == NONE) {
                    return chosen;
                }
                picked[chosen] = best;
                cheapen(best);
            }
            return most;
        }

        private void prepare(int facts) {
            views = Math.min(MOST_VIEWS, catalog.viewsInAll());
            int weight = 1;
            for (int d = catalog.dimensions - 1; d >= 0; d--) {
                weights[d] = weight;
                weight *= catalog.dimension[d].levels + 1;
            }
            for (int v = 0; v < views; v++) {
                costs[v] = facts;
                estimates[v] = estimate(v, facts);
            }
        }

        /** The product stops growing at the number of facts, as it could outgrow a long. */
        private int estimate(int v, int facts) {
            long product = 1;
            for (int d = 0; d < catalog.dimensions; d++) {
                int level = catalog.levelIn(v, d);
                if (level < catalog.dimension[d].levels) {
                    product = Math.min(facts, product * catalog.dimension[d].different[level]);
                }
            }
            return (int) Math.min(facts, product);
        }

        private long benefit(int v) {
            long benefit = 0;
            int below = begin(v);
            for (int i = 0; i < MOST_VIEWS && below != NONE; i++) {
                benefit += Math.max(0, costs[below] - estimates[v]);
                below = following(below);
            }
            return benefit;
        }

        private void cheapen(int v) {
            int below = begin(v);
            for (int i = 0; i < MOST_VIEWS && below != NONE; i++) {
                costs[below] = Math.min(costs[below], estimates[v]);
                below = following(below);
            }
        }

        /** Begins to go through a view and all that it is above, which are those with no lesser number. */
        private int begin(int v) {
            for (int d = 0; d < catalog.dimensions; d++) {
                lowest[d] = catalog.levelIn(v, d);
                levels[d] = lowest[d];
            }
            return v;
        }

        private int following(int v) {
            int number = v;
            for (int d = catalog.dimensions - 1; d >= 0; d--) {
                if (levels[d] < catalog.dimension[d].levels) {
                    levels[d]++;
                    return number + weights[d];
                }
                number -= (levels[d] - lowest[d]) * weights[d];
                levels[d] = lowest[d];
            }
            return NONE;
        }
    }
}
