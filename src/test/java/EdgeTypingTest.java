/** The edges of THE LINE and THE DRAFT: Terms and promises 1 to 4. */
public final class EdgeTypingTest {
    private static final int[] OUT_OF_RANGE = {-1, 256, -2, 257, -255, 256 + 'a', 65536 + 'a', Integer.MIN_VALUE,
        Integer.MAX_VALUE};

    public static void main(String[] args) {
        bothAreEmptyAtFirst();
        lineHoldsForty();
        fortiethCharacterCounts();
        lineOfFortyIsAQuery();
        rangeHasTwoEnds();
        rangeIsLookedAtFirst();
        everyCharacterIsKept();
        draftHoldsThirty();
        thirtiethLineCounts();
        enteredLineMayBeEmpty();
        enteredLineIsEmptyThen();
        fullDraftKeepsTheLine();
        wipeTellsTheLines();
        wipeEmptiesBoth();
        wipeLeavesTheRest();
        Check.end();
    }

    private static void bothAreEmptyAtFirst() {
        Check.sentence("both are empty at first");
        ThreadedArchive x = new ThreadedArchive();
        Check.due("characters", x.count(1), 0);
        Check.due("lines", x.count(2), 0);
        Check.due("wipe", x.wipe(), 0);
        Check.due("type of a new object", new ThreadedArchive().type('a'), 1);
        Check.due("enter of a new object", new ThreadedArchive().enter(), 1);
        Check.due("add of a new object", new ThreadedArchive().add(), ThreadedArchive.BAD);
        x = new ThreadedArchive();
        Check.due("search of a new object", x.search(), ThreadedArchive.BAD);
        Check.due("errorAt of an empty line", x.errorAt(), 0);
    }

    private static void lineHoldsForty() {
        Check.sentence("THE LINE holds at most 40 characters");
        ThreadedArchive x = new ThreadedArchive();
        for (int n = 1; n <= 40; n++) {
            Check.due("type number " + n, x.type('a'), n);
            Check.due("characters", x.count(1), n);
        }
        Check.due("type number 41", x.type('a'), ThreadedArchive.FULL);
        Check.due("type number 41 again", x.type('b'), ThreadedArchive.FULL);
        Check.due("characters of a full line", x.count(1), 40);
        x.enter();
        Check.due("type behind enter", x.type('a'), 1);
        Check.type(x, "a".repeat(39));
        Check.due("type at 40 again", x.type('a'), ThreadedArchive.FULL);
        x.search();
        Check.due("type behind search", x.type('a'), 1);
        Check.type(x, "a".repeat(39));
        x.wipe();
        Check.due("type behind wipe", x.type('a'), 1);
    }

    private static void fortiethCharacterCounts() {
        Check.sentence("40 there: FULL");
        ThreadedArchive x = Check.archiveOf("s:" + " ".repeat(37) + "qz", "", " ".repeat(39) + "vw");
        Check.dueWords("the 40th character and not the 41st", x, 0, "0q", "2v");
    }

    private static void lineOfFortyIsAQuery() {
        Check.sentence("THE LINE holds at most 40 characters");
        ThreadedArchive x = Check.archiveOf("s:a");
        Check.due("search with 40 characters", Check.search(x, "!".repeat(38) + "(" + "a"), ThreadedArchive.BAD);
        Check.due("errorAt with 40 characters", x.errorAt(), 40);
        Check.due("search with 41 characters", Check.search(x, "!".repeat(38) + "a*)"), 1);
    }

    private static void rangeHasTwoEnds() {
        Check.sentence("Puts a character 0 .. 255 at the end of THE LINE. Out of range: REFUSED");
        ThreadedArchive x = new ThreadedArchive();
        Check.due("type(0)", x.type(0), 1);
        Check.due("type(255)", x.type(255), 2);
        Check.due("type(1)", x.type(1), 3);
        Check.due("type(254)", x.type(254), 4);
        for (int c : OUT_OF_RANGE) {
            Check.due("type(" + c + ")", x.type(c), ThreadedArchive.REFUSED);
            Check.due("characters behind type(" + c + ")", x.count(1), 4);
        }
        Check.due("type(127)", x.type(127), 5);
        Check.due("type(128)", x.type(128), 6);
    }

    private static void rangeIsLookedAtFirst() {
        Check.sentence("Out of range: REFUSED; 40 there: FULL");
        ThreadedArchive x = new ThreadedArchive();
        Check.type(x, "a".repeat(40));
        for (int c : OUT_OF_RANGE) {
            Check.due("type(" + c + ") at 40", x.type(c), ThreadedArchive.REFUSED);
        }
        Check.due("type(0) at 40", x.type(0), ThreadedArchive.FULL);
        Check.due("type(255) at 40", x.type(255), ThreadedArchive.FULL);
        Check.due("characters", x.count(1), 40);
    }

    private static void everyCharacterIsKept() {
        Check.sentence("characters (0 .. 255)");
        for (int c = 0; c < 256; c++) {
            ThreadedArchive x = Check.archiveOf("m:" + (char) c, "", "-" + (char) c);
            Check.due("leaves with the boundary " + c, x.count(6), 1);
            Check.message(x, linesCutByOthers(c));
            Check.due("leaves with the boundary " + c + " and other lines", x.count(7), 0);
        }
    }

    /** Each line that might be a cut differs from one in a single bit. */
    private static String[] linesCutByOthers(int c) {
        String[] lines = new String[11];
        lines[0] = "i:2";
        lines[1] = "m:" + (char) c;
        lines[2] = "";
        for (int bit = 0; bit < 8; bit++) {
            lines[3 + bit] = "-" + (char) (c ^ 1 << bit);
        }
        return lines;
    }

    private static void draftHoldsThirty() {
        Check.sentence("THE DRAFT at most 30 lines");
        ThreadedArchive x = new ThreadedArchive();
        for (int n = 1; n <= 30; n++) {
            Check.due("enter number " + n, x.enter(), n);
            Check.due("lines", x.count(2), n);
        }
        Check.due("enter number 31", x.enter(), ThreadedArchive.FULL);
        Check.due("enter number 31 again", x.enter(), ThreadedArchive.FULL);
        Check.due("lines of a full draft", x.count(2), 30);
        x.add();
        Check.due("enter behind add", x.enter(), 1);
        Check.emptyLines(x, 30);
        Check.due("enter at 30 again", x.enter(), ThreadedArchive.FULL);
        x.wipe();
        Check.due("enter behind wipe", x.enter(), 1);
    }

    private static void thirtiethLineCounts() {
        Check.sentence("30 lines there: FULL");
        ThreadedArchive x = new ThreadedArchive();
        Check.line(x, "i:1");
        Check.emptyLines(x, 29);
        Check.line(x, "last");
        Check.line(x, "lost");
        Check.due("add", x.add(), 0);
        Check.dueWords("the 30th line and not the 31st", x, 0, "2last");
        x = new ThreadedArchive();
        Check.emptyLines(x, 1);
        Check.line(x, "");
        Check.due("lines", x.count(2), 2);
    }

    private static void enteredLineMayBeEmpty() {
        Check.sentence("THE LINE (it may be empty) becomes the last line of THE DRAFT");
        ThreadedArchive x = new ThreadedArchive();
        Check.line(x, "i:1");
        Check.due("enter of an empty line", x.enter(), 2);
        Check.line(x, "s:a");
        Check.due("add", x.add(), 0);
        Check.dueWords("the empty line ends the headers", x, 0, "2s", "2a");
    }

    private static void enteredLineIsEmptyThen() {
        Check.sentence("and is empty then");
        ThreadedArchive x = new ThreadedArchive();
        Check.type(x, "i:1");
        Check.due("enter", x.enter(), 1);
        Check.due("characters", x.count(1), 0);
        x.enter();
        Check.type(x, "a".repeat(40));
        Check.due("enter of a full line", x.enter(), 3);
        Check.due("characters behind a full line", x.count(1), 0);
        Check.line(x, "b");
        x.add();
        Check.dueWords("a short line behind a full one", x, 0, "2aaaaaaaaaaaa", "2b");
    }

    private static void fullDraftKeepsTheLine() {
        Check.sentence("A refused call (an answer below 0) changes nothing");
        ThreadedArchive x = new ThreadedArchive();
        Check.line(x, "i:7");
        Check.emptyLines(x, 30);
        Check.type(x, "i:9");
        Check.due("enter at 30", x.enter(), ThreadedArchive.FULL);
        Check.due("characters", x.count(1), 3);
        Check.due("lines", x.count(2), 30);
        Check.due("add of the full draft", x.add(), 0);
        Check.due("its first line stands", x.idOf(0), 7);
        Check.due("enter of the line that stayed", x.enter(), 1);
        Check.due("add of the line that stayed", x.add(), 1);
        Check.due("the line that stayed is whole", x.idOf(1), 9);
    }

    private static void wipeTellsTheLines() {
        Check.sentence("How many lines there were in THE DRAFT");
        ThreadedArchive x = new ThreadedArchive();
        Check.due("wipe of nothing", x.wipe(), 0);
        Check.type(x, "abc");
        Check.due("wipe of a line alone", x.wipe(), 0);
        x.enter();
        Check.due("wipe of one empty line", x.wipe(), 1);
        Check.emptyLines(x, 29);
        Check.due("wipe of 29 lines", x.wipe(), 29);
        Check.emptyLines(x, 30);
        x.enter();
        Check.due("wipe of 30 lines", x.wipe(), 30);
        Check.due("wipe again", x.wipe(), 0);
    }

    private static void wipeEmptiesBoth() {
        Check.sentence("THE LINE and THE DRAFT become empty");
        ThreadedArchive x = new ThreadedArchive();
        Check.line(x, "i:1");
        Check.type(x, "abc");
        x.wipe();
        Check.due("characters", x.count(1), 0);
        Check.due("lines", x.count(2), 0);
        Check.due("add", x.add(), ThreadedArchive.BAD);
        Check.due("search", x.search(), ThreadedArchive.BAD);
        Check.due("errorAt", x.errorAt(), 0);
    }

    private static void wipeLeavesTheRest() {
        Check.sentence("THE LINE and THE DRAFT become empty");
        ThreadedArchive x = Check.archiveOf("r:2", "s:hello");
        x.tag(0, 3, true);
        Check.search(x, "hello");
        Check.search(x, "he llo");
        Check.line(x, "i:1");
        x.wipe();
        Check.due("messages", x.count(0), 1);
        Check.due("idOf", x.idOf(0), 1);
        Check.due("root", x.root(1), 2);
        Check.dueWords("words", x, 0, "0hello");
        Check.dueHits("found ones", x, 0);
        Check.due("errorAt", x.errorAt(), 2);
        Check.due("tags", Check.search(x, "t:3"), 1);
    }
}
