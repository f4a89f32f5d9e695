/**
 * An archive of messages that are typed line by line.
 *
 * <p>Every row that a call needs is made in the constructors and used again, so that no call makes
 * an object: all calls of a run share one room.
 */
public final class ThreadedArchive {
    public static final int OK = 0;
    public static final int REFUSED = -1;
    public static final int FULL = -2;
    public static final int BAD = -3;
    public static final int NONE = -4;

    private static final int LINE_LIMIT = 40;
    private static final int DRAFT_LIMIT = 30;
    private static final int MESSAGE_LIMIT = 12;
    private static final int ID_LIMIT = 64;
    private static final int REFERENCE_LIMIT = 4;
    private static final int WORD_LIMIT = 50;
    private static final int LETTER_LIMIT = 12;
    private static final int TAG_LIMIT = 8;
    private static final int CHARACTER_LIMIT = 256;

    /** Where a header's VALUE begins: behind its KEY and the colon. */
    private static final int VALUE_START = 2;

    /** Numbers of {@link #count} below this one are fixed questions, the others ask for a message. */
    private static final int FIRST_LEAVES_QUESTION = 6;

    private final Line line;
    private final Draft draft;
    private final PartReader reader;
    private final Threads threads;
    private final Query query;

    /** By number; a message that is not there keeps its rows for the next one. */
    private final Message[] messages;

    /** The numbers of the messages that are there, in the order in which they were added. */
    private final int[] order;
    private int messageCount;

    /** Bit n is set if n is the number of a FOUND message. */
    private int found;
    private int errorPlace;

    public ThreadedArchive() {
        line = new Line();
        draft = new Draft();
        reader = new PartReader();
        threads = new Threads();
        query = new Query();
        messages = new Message[MESSAGE_LIMIT];
        for (int number = 0; number < MESSAGE_LIMIT; number++) {
            messages[number] = new Message();
        }
        order = new int[MESSAGE_LIMIT];
        messageCount = 0;
        found = 0;
        errorPlace = -1;
    }

    public int type(int c) {
        if (c < 0 || c >= CHARACTER_LIMIT) {
            return REFUSED;
        }
        return line.put((char) c) ? line.length : FULL;
    }

    public int enter() {
        if (!draft.take(line)) {
            return FULL;
        }
        line.clear();
        return draft.size;
    }

    public int wipe() {
        int lines = draft.size;
        line.clear();
        draft.clear();
        return lines;
    }

    public int add() {
        int number = numberForDraft();
        if (number >= 0) {
            reader.readDraft(draft, messages[number]);
            order[messageCount] = number;
            messageCount++;
            rejoinThreads();
        }
        draft.clear();
        return number;
    }

    public int drop(int message) {
        Message dropped = messageAt(message);
        if (dropped == null) {
            return REFUSED;
        }
        dropped.there = false;
        removeFromOrder(message);
        rejoinThreads();
        return OK;
    }

    public int tag(int message, int tag, boolean on) {
        Message tagged = messageAt(message);
        if (tagged == null || tag < 0 || tag >= TAG_LIMIT) {
            return REFUSED;
        }
        tagged.setTag(tag, on);
        return OK;
    }

    public int search() {
        errorPlace = query.read(line, messages);
        line.clear();
        if (errorPlace >= 0) {
            return BAD;
        }
        found = query.holding() & numbersThere();
        return Integer.bitCount(found);
    }

    public int errorAt() {
        return errorPlace;
    }

    public int hit(int k) {
        return numberInSet(found, k);
    }

    public int related(int k) {
        long roots = rootsOf(found & numbersThere());
        int numbers = 0;
        for (int number = 0; number < MESSAGE_LIMIT; number++) {
            if (messages[number].there && (roots & rootBit(messages[number])) != 0) {
                numbers |= 1 << number;
            }
        }
        return numberInSet(numbers, k);
    }

    public int idOf(int message) {
        Message asked = messageAt(message);
        return asked == null ? REFUSED : asked.id;
    }

    public int answers(int message) {
        Message asked = messageAt(message);
        if (asked == null) {
            return REFUSED;
        }
        int id = threads.parentOf(asked.id);
        for (int step = 0; step < ID_LIMIT && id >= 0; step++) {
            int number = numberWithId(id);
            if (number >= 0) {
                return number;
            }
            id = threads.parentOf(id);
        }
        return NONE;
    }

    public int root(int id) {
        if (id < 0 || id >= ID_LIMIT) {
            return REFUSED;
        }
        return threads.topOf(id);
    }

    public long word(int message, int k) {
        Message asked = messageAt(message);
        if (asked == null || !asked.hasWord(k)) {
            return REFUSED;
        }
        return asked.codes[k];
    }

    public int field(int message, int k) {
        Message asked = messageAt(message);
        if (asked == null || !asked.hasWord(k)) {
            return REFUSED;
        }
        return asked.fields[k];
    }

    public int count(int what) {
        switch (what) {
            case 0:
                return messageCount;
            case 1:
                return line.length;
            case 2:
                return draft.size;
            case 3:
                return Integer.bitCount(found);
            case 4:
                return Long.bitCount(rootsOf(numbersThere()));
            case 5:
                return differentCodes();
            default:
                return what < 0 ? REFUSED : leavesOf(what - FIRST_LEAVES_QUESTION);
        }
    }

    /** The number that a message made of the draft gets, or why there can be no such message. */
    private int numberForDraft() {
        int id = draft.id();
        if (id < 0) {
            return BAD;
        }
        if (numberWithId(id) >= 0) {
            return REFUSED;
        }
        for (int number = 0; number < MESSAGE_LIMIT; number++) {
            if (!messages[number].there) {
                return number;
            }
        }
        return FULL;
    }

    private int numberWithId(int id) {
        for (int number = 0; number < MESSAGE_LIMIT; number++) {
            if (messages[number].there && messages[number].id == id) {
                return number;
            }
        }
        return -1;
    }

    private Message messageAt(int number) {
        if (number < 0 || number >= MESSAGE_LIMIT || !messages[number].there) {
            return null;
        }
        return messages[number];
    }

    private void removeFromOrder(int number) {
        int kept = 0;
        for (int i = 0; i < messageCount; i++) {
            if (order[i] != number) {
                order[kept] = order[i];
                kept++;
            }
        }
        messageCount = kept;
    }

    /** A dropped message may have given or barred PARENTS that a later one gives now, so all are set anew. */
    private void rejoinThreads() {
        threads.clear();
        for (int i = 0; i < messageCount; i++) {
            threads.join(messages[order[i]]);
        }
    }

    private int numbersThere() {
        int numbers = 0;
        for (int i = 0; i < messageCount; i++) {
            numbers |= 1 << order[i];
        }
        return numbers;
    }

    /** The ROOTS of these messages, a bit for each ID. */
    private long rootsOf(int numbers) {
        long roots = 0;
        for (int number = 0; number < MESSAGE_LIMIT; number++) {
            if ((numbers >> number & 1) != 0) {
                roots |= rootBit(messages[number]);
            }
        }
        return roots;
    }

    private long rootBit(Message message) {
        return 1L << threads.topOf(message.id);
    }

    private static int numberInSet(int numbers, int k) {
        int before = 0;
        for (int number = 0; number < MESSAGE_LIMIT; number++) {
            if ((numbers >> number & 1) != 0) {
                if (before == k) {
                    return number;
                }
                before++;
            }
        }
        return NONE;
    }

    private int leavesOf(int number) {
        Message asked = messageAt(number);
        return asked == null ? REFUSED : asked.leaves;
    }

    private int differentCodes() {
        int different = 0;
        for (int i = 0; i < messageCount; i++) {
            Message message = messages[order[i]];
            for (int k = 0; k < message.wordCount; k++) {
                if (!message.hasCodeBefore(k, message.codes[k]) && !isCodeEarlier(i, message.codes[k])) {
                    different++;
                }
            }
        }
        return different;
    }

    private boolean isCodeEarlier(int place, long code) {
        for (int i = 0; i < place; i++) {
            Message message = messages[order[i]];
            if (message.hasCodeBefore(message.wordCount, code)) {
                return true;
            }
        }
        return false;
    }

    /** 1 to 26 for a small letter, else 0. */
    private static int smallLetter(int c) {
        return c >= 'a' && c <= 'z' ? c - 'a' + 1 : 0;
    }

    /** 1 to 26 for a letter, small or not, else 0. */
    private static int letter(int c) {
        return c >= 'A' && c <= 'Z' ? c - 'A' + 1 : smallLetter(c);
    }

    private static int digit(int c) {
        return c >= '0' && c <= '9' ? c - '0' : -1;
    }

    private static int hexDigit(int c) {
        if (c >= 'a' && c <= 'f') {
            return c - 'a' + 10;
        }
        if (c >= 'A' && c <= 'F') {
            return c - 'A' + 10;
        }
        return digit(c);
    }

    /** A row of characters. */
    private static final class Line {
        private final char[] characters = new char[LINE_LIMIT];
        private int length = 0;

        private boolean put(char c) {
            if (length >= LINE_LIMIT) {
                return false;
            }
            characters[length] = c;
            length++;
            return true;
        }

        private void clear() {
            length = 0;
        }

        private void copyFrom(Line other) {
            System.arraycopy(other.characters, 0, characters, 0, LINE_LIMIT);
            length = other.length;
        }

        /** -1, which is no character, outside of the line: so no reader has to look at the length first. */
        private int at(int place) {
            return place < 0 || place >= length ? -1 : characters[place];
        }

        private boolean isHeader(char key) {
            return at(0) == key && at(1) == ':';
        }

        private boolean isCut(int boundary) {
            return length == 2 && at(0) == '-' && at(1) == boundary;
        }

        private boolean isClosing(int boundary) {
            return length == 3 && at(0) == '-' && at(1) == boundary && at(2) == '.';
        }

        /** The ID that fills these places, or -1 if they hold none. */
        private int idBetween(int from, int to) {
            int first = digit(at(from));
            if (first < 0) {
                return -1;
            }
            if (to - from == 1) {
                return first;
            }
            int second = digit(at(from + 1));
            int id = first * 10 + second;
            return to - from == 2 && second >= 0 && id < ID_LIMIT ? id : -1;
        }

        /** The place of the first blank, or the end of the line. */
        private int blankFrom(int from) {
            for (int place = from; place < length; place++) {
                if (at(place) == ' ') {
                    return place;
                }
            }
            return length;
        }
    }

    /** The lines that were entered. A PART of them is a row of lines from .. to - 1. */
    private static final class Draft {
        private final Line[] lines = new Line[DRAFT_LIMIT];
        private int size = 0;

        private Draft() {
            for (int i = 0; i < DRAFT_LIMIT; i++) {
                lines[i] = new Line();
            }
        }

        private boolean take(Line line) {
            if (size >= DRAFT_LIMIT) {
                return false;
            }
            lines[size].copyFrom(line);
            size++;
            return true;
        }

        private void clear() {
            size = 0;
        }

        /** The place of the first empty line of a PART, or the PART's end. */
        private int headersEnd(int from, int to) {
            for (int i = from; i < to; i++) {
                if (lines[i].length == 0) {
                    return i;
                }
            }
            return to;
        }

        private int bodyStart(int from, int to) {
            return Math.min(headersEnd(from, to) + 1, to);
        }

        /** The header of a PART that counts for this KEY, or null. */
        private Line header(int from, int to, char key) {
            for (int i = headersEnd(from, to) - 1; i >= from; i--) {
                if (lines[i].isHeader(key)) {
                    return lines[i];
                }
            }
            return null;
        }

        /** The ID in the draft's header i, or -1 if there is none. */
        private int id() {
            Line header = header(0, size, 'i');
            return header == null ? -1 : header.idBetween(VALUE_START, header.length);
        }

        /** The place of the first line that closes a MULTI with this boundary, or the BODY's end. */
        private int closingPlace(int from, int to, int boundary) {
            for (int i = from; i < to; i++) {
                if (lines[i].isClosing(boundary)) {
                    return i;
                }
            }
            return to;
        }
    }

    /** The letters of a word, put one by one. */
    private static final class Letters {
        private long code = 0;
        private int number = 0;

        private void clear() {
            code = 0;
            number = 0;
        }

        private void put(int letter) {
            if (number < LETTER_LIMIT) {
                code = code * 32 + letter;
                number++;
            }
        }
    }

    /** A message, or the room for one. */
    private static final class Message {
        private final int[] references = new int[REFERENCE_LIMIT];
        private final long[] codes = new long[WORD_LIMIT];
        private final int[] fields = new int[WORD_LIMIT];
        private boolean there = false;
        private int id = 0;
        private int referenceCount = 0;
        private int wordCount = 0;
        private int leaves = 0;
        private int tags = 0;

        private void begin(int newId) {
            there = true;
            id = newId;
            wordCount = 0;
            leaves = 0;
            tags = 0;
        }

        private void setReferences(Line header) {
            referenceCount = header == null ? 0 : readReferences(header);
        }

        /** How many REFERENCES the header has: none, if anything is wrong with one of them. */
        private int readReferences(Line header) {
            int from = VALUE_START;
            for (int i = 0; i < REFERENCE_LIMIT; i++) {
                int to = header.blankFrom(from);
                int reference = header.idBetween(from, to);
                if (reference < 0) {
                    return 0;
                }
                references[i] = reference;
                if (to == header.length) {
                    return i + 1;
                }
                from = to + 1;
            }
            return 0;
        }

        private void takeWord(Letters letters, int inField) {
            if (letters.number > 0 && wordCount < WORD_LIMIT) {
                codes[wordCount] = letters.code;
                fields[wordCount] = inField;
                wordCount++;
            }
            letters.clear();
        }

        private boolean hasWord(int k) {
            return k >= 0 && k < wordCount;
        }

        private boolean hasCodeBefore(int end, long code) {
            for (int k = 0; k < end; k++) {
                if (codes[k] == code) {
                    return true;
                }
            }
            return false;
        }

        private void setTag(int number, boolean on) {
            int bit = 1 << number;
            tags = on ? tags | bit : tags & ~bit;
        }

        private boolean hasTag(int number) {
            return (tags >> number & 1) != 0;
        }

        private boolean hasMatch(long code, boolean isPrefix, int inField) {
            for (int k = 0; k < wordCount; k++) {
                boolean isAsked = inField == Query.ANY_FIELD || inField == fields[k];
                if (isAsked && (isPrefix ? beginsWith(codes[k], code) : codes[k] == code)) {
                    return true;
                }
            }
            return false;
        }

        /** No letter counts 0, so a CODE without its last five bits is that of the word without its last letter. */
        private static boolean beginsWith(long code, long prefix) {
            long rest = code;
            for (int i = 0; i < LETTER_LIMIT; i++) {
                if (rest == prefix) {
                    return true;
                }
                rest >>= 5;
            }
            return false;
        }
    }

    /** Makes a message of the draft: takes its PARTS apart and gathers their WORDS. */
    private static final class PartReader {
        private static final int DEEPEST = 4;
        private static final int SUBJECT = 0;
        private static final int SENDER = 1;
        private static final int BODY = 2;

        private final Letters letters = new Letters();
        private final Line decoded = new Line();

        private void readDraft(Draft draft, Message message) {
            message.begin(draft.id());
            message.setReferences(draft.header(0, draft.size, 'r'));
            readHeader(draft.header(0, draft.size, 's'), message, SUBJECT);
            readHeader(draft.header(0, draft.size, 'f'), message, SENDER);
            readPart(draft, 0, draft.size, 1, message);
        }

        private void readHeader(Line header, Message message, int inField) {
            if (header != null) {
                readLine(header, VALUE_START, message, inField);
            }
        }

        private void readPart(Draft draft, int from, int to, int depth, Message message) {
            Line multi = depth < DEEPEST ? draft.header(from, to, 'm') : null;
            int body = draft.bodyStart(from, to);
            if (multi != null && multi.length == VALUE_START + 1) {
                readMulti(draft, body, to, depth, message, multi.at(VALUE_START));
            } else {
                readLeaf(draft, body, to, draft.header(from, to, 'e'), message);
            }
        }

        private void readMulti(Draft draft, int body, int to, int depth, Message message, int boundary) {
            int end = draft.closingPlace(body, to, boundary);
            int start = -1;
            for (int i = body; i < end; i++) {
                if (draft.lines[i].isCut(boundary)) {
                    if (start >= 0) {
                        readPart(draft, start, i, depth + 1, message);
                    }
                    start = i + 1;
                }
            }
            if (start >= 0) {
                readPart(draft, start, end, depth + 1, message);
            }
        }

        private void readLeaf(Draft draft, int body, int to, Line encoding, Message message) {
            message.leaves++;
            boolean isHex = encoding != null && encoding.length == VALUE_START + 1
                    && encoding.at(VALUE_START) == 'h';
            for (int i = body; i < to; i++) {
                Line text = isHex ? decode(draft.lines[i]) : draft.lines[i];
                readLine(text, 0, message, BODY);
            }
        }

        private void readLine(Line line, int from, Message message, int inField) {
            for (int place = from; place < line.length; place++) {
                int letter = letter(line.at(place));
                if (letter > 0) {
                    letters.put(letter);
                } else {
                    message.takeWord(letters, inField);
                }
            }
            message.takeWord(letters, inField);
        }

        private Line decode(Line line) {
            decoded.clear();
            int high = -1;
            for (int place = 0; place < line.length; place++) {
                int value = hexDigit(line.at(place));
                if (value >= 0 && high < 0) {
                    high = value;
                } else if (value >= 0) {
                    decoded.put((char) (high * 16 + value));
                    high = -1;
                }
            }
            return decoded;
        }
    }

    /** The PARENTS of all IDs. They never make a RING, so a chain of them has at most ID_LIMIT steps. */
    private static final class Threads {
        private static final int NO_PARENT = -1;

        private final int[] parents = new int[ID_LIMIT];

        private Threads() {
            clear();
        }

        private void clear() {
            for (int id = 0; id < ID_LIMIT; id++) {
                parents[id] = NO_PARENT;
            }
        }

        private void join(Message message) {
            for (int i = 1; i < message.referenceCount; i++) {
                int child = message.references[i];
                if (parents[child] == NO_PARENT) {
                    setParent(child, message.references[i - 1]);
                }
            }
            if (message.referenceCount > 0) {
                setParent(message.id, message.references[message.referenceCount - 1]);
            }
        }

        private void setParent(int child, int parent) {
            if (!makesRing(child, parent)) {
                parents[child] = parent;
            }
        }

        private boolean makesRing(int child, int parent) {
            int id = parent;
            for (int step = 0; step < ID_LIMIT && id != NO_PARENT; step++) {
                if (id == child) {
                    return true;
                }
                id = parents[id];
            }
            return false;
        }

        private int parentOf(int id) {
            return id < 0 || id >= ID_LIMIT ? NO_PARENT : parents[id];
        }

        private int topOf(int id) {
            int top = id;
            for (int step = 0; step < ID_LIMIT && parents[top] != NO_PARENT; step++) {
                top = parents[top];
            }
            return top;
        }
    }

    /**
     * Reads a QUERY from left to right and works out at once for which messages it holds: sets of
     * messages have a bit for each number. What is open needs no recursion, only a row for each "(".
     */
    private static final class Query {
        private static final int ANY_FIELD = -1;
        private static final int LEVELS = 7;

        private static final int ONE_DUE = 0;
        private static final int WORD_DUE = 1;
        private static final int IN_WORD = 2;
        private static final int TAG_DUE = 3;
        private static final int BEHIND_ONE = 4;

        /** For each level: where the ALLs before the last "|" hold. */
        private final int[] any = new int[LEVELS];

        /** For each level: where the ONEs behind the last "|" hold. */
        private final int[] all = new int[LEVELS];

        /** For each level: whether an odd number of "!" stands before the ONE that is read. */
        private final boolean[] isNegated = new boolean[LEVELS];
        private final Letters letters = new Letters();
        private int level = 0;
        private int state = ONE_DUE;
        private int inField = ANY_FIELD;

        /** The place of the error, or -1 if the line is a QUERY. */
        private int read(Line line, Message[] messages) {
            level = 0;
            beginLevel();
            for (int place = 0; place < line.length; place++) {
                if (!readCharacter(line.at(place), messages)) {
                    return place;
                }
            }
            if (state == IN_WORD) {
                endWord(messages, false);
            }
            return state == BEHIND_ONE && level == 0 ? -1 : line.length;
        }

        /** After a line that is a QUERY: the numbers for which it holds, free ones too. */
        private int holding() {
            return any[0] | all[0];
        }

        private void beginLevel() {
            any[level] = 0;
            all[level] = -1;
            isNegated[level] = false;
            beginOne();
        }

        private void beginOne() {
            state = ONE_DUE;
            inField = ANY_FIELD;
            letters.clear();
        }

        /** Whether the line can go on so. */
        private boolean readCharacter(int c, Message[] messages) {
            switch (state) {
                case ONE_DUE:
                    return readLetter(c) || readNot(c) || readOpening(c);
                case WORD_DUE:
                    return readLetter(c);
                case IN_WORD:
                    return readLetter(c) || readColon(c) || readBehindWord(c, messages);
                case TAG_DUE:
                    return readTag(c, messages);
                default:
                    return readBehindOne(c);
            }
        }

        private boolean readLetter(int c) {
            int letter = smallLetter(c);
            if (letter == 0) {
                return false;
            }
            letters.put(letter);
            state = IN_WORD;
            return true;
        }

        private boolean readNot(int c) {
            if (c != '!') {
                return false;
            }
            isNegated[level] = !isNegated[level];
            return true;
        }

        private boolean readOpening(int c) {
            if (c != '(' || level + 1 >= LEVELS) {
                return false;
            }
            level++;
            beginLevel();
            return true;
        }

        /** What was read as a word turns out to be the name of a field, or t. */
        private boolean readColon(int c) {
            if (c != ':' || letters.number != 1 || inField != ANY_FIELD) {
                return false;
            }
            boolean isTag = letters.code == smallLetter('t');
            inField = fieldNamed(letters.code);
            letters.clear();
            state = isTag ? TAG_DUE : WORD_DUE;
            return isTag || inField != ANY_FIELD;
        }

        private static int fieldNamed(long code) {
            if (code == smallLetter('s')) {
                return PartReader.SUBJECT;
            }
            if (code == smallLetter('f')) {
                return PartReader.SENDER;
            }
            return code == smallLetter('b') ? PartReader.BODY : ANY_FIELD;
        }

        private boolean readBehindWord(int c, Message[] messages) {
            endWord(messages, c == '*');
            return c == '*' || readBehindOne(c);
        }

        private boolean readTag(int c, Message[] messages) {
            int number = digit(c);
            if (number < 0 || number >= TAG_LIMIT) {
                return false;
            }
            int numbers = 0;
            for (int i = 0; i < messages.length; i++) {
                if (messages[i].hasTag(number)) {
                    numbers |= 1 << i;
                }
            }
            endOne(numbers);
            return true;
        }

        private void endWord(Message[] messages, boolean isPrefix) {
            int numbers = 0;
            for (int i = 0; i < messages.length; i++) {
                if (messages[i].hasMatch(letters.code, isPrefix, inField)) {
                    numbers |= 1 << i;
                }
            }
            endOne(numbers);
        }

        private void endOne(int numbers) {
            all[level] &= isNegated[level] ? ~numbers : numbers;
            isNegated[level] = false;
            state = BEHIND_ONE;
        }

        private boolean readBehindOne(int c) {
            switch (c) {
                case '&':
                    beginOne();
                    return true;
                case '|':
                    any[level] |= all[level];
                    all[level] = -1;
                    beginOne();
                    return true;
                case ')':
                    return readClosing();
                default:
                    return false;
            }
        }

        private boolean readClosing() {
            if (level == 0) {
                return false;
            }
            int numbers = any[level] | all[level];
            level--;
            endOne(numbers);
            return true;
        }
    }
}
