/** The edges of PARTS, MULTI and LEAVES: Terms, seen by count(6) and the WORDS. */
public final class EdgePartsTest {
    public static void main(String[] args) {
        depthOneToThree();
        depthFourIsALeaf();
        oneCharacterAsValue();
        anyCharacterAsValue();
        cutLinesAreJustThat();
        headersAreNotCut();
        partsBetweenTwoCuts();
        partBehindTheLastCut();
        partsMayHaveNoLines();
        mostParts();
        linesBeforeTheFirstCut();
        closingLineIsJustThat();
        linesBehindTheFirstClosingLine();
        closingLineBeforeTheFirstCut();
        cutsBehindTheClosingLine();
        closingLinesOfOthers();
        sameBoundaryInside();
        anyOtherPartIsALeaf();
        leavesComeInOrder();
        Check.end();
    }

    private static ThreadedArchive dueLeaves(int leaves, String... lines) {
        ThreadedArchive x = Check.archiveOf(lines);
        Check.due("leaves of " + String.join(", ", lines), x.count(6), leaves);
        return x;
    }

    private static void dueLeavesAndWords(int leaves, String words, String... lines) {
        ThreadedArchive x = dueLeaves(leaves, lines);
        String[] fieldsAndWords = words.isEmpty() ? new String[0] : ("2" + words.replace(" ", " 2")).split(" ");
        Check.dueWords(String.join(", ", lines), x, 0, fieldsAndWords);
    }

    private static void depthOneToThree() {
        Check.sentence("A PART of depth 1 to 3 that has a header m with one character b as VALUE is MULTI");
        dueLeavesAndWords(2, "a b", "m:x", "", "-x", "", "a", "-x", "", "b");
        dueLeavesAndWords(2, "a b", "m:x", "", "-x", "m:y", "", "-y", "", "a", "-y", "", "b");
        dueLeavesAndWords(2, "a b", "m:x", "", "-x", "m:y", "", "-y", "m:z", "", "-z", "", "a", "-z", "", "b");
        dueLeavesAndWords(1, "", "m:x", "", "-x", "m:y", "", "-y", "m:z", "", "-z");
        dueLeavesAndWords(0, "", "m:x", "", "-x", "m:y", "", "-y", "m:z", "", "a");
    }

    private static void depthFourIsALeaf() {
        Check.sentence("A PART of depth 1 to 3");
        dueLeavesAndWords(1, "w a w", "m:x", "", "-x", "m:y", "", "-y", "m:z", "", "-z", "m:w", "", "-w", "", "a",
                "-w.");
        dueLeavesAndWords(2, "w w b", "m:x", "", "-x", "m:y", "", "-y", "m:z", "", "-z", "m:w", "", "-w", "-w", "-z",
                "", "b");
        dueLeavesAndWords(1, "k", "m:x", "", "-x", "m:y", "", "-y", "m:z", "", "-z", "m:w", "e:h", "", "-w", "6b");
    }

    private static void oneCharacterAsValue() {
        Check.sentence("a header m with one character b as VALUE");
        dueLeaves(2, "m:x", "", "-x", "-x");
        dueLeaves(1, "m:", "", "-x", "-x");
        dueLeaves(1, "m:", "", "-", "-");
        dueLeaves(1, "m:xx", "", "-x", "-x");
        dueLeaves(1, "m:xx", "", "-xx", "-xx");
        dueLeaves(1, "m:x ", "", "-x", "-x");
        dueLeaves(1, "m: x", "", "-x", "-x");
        dueLeaves(1, "m", "", "-m", "-m");
        dueLeaves(1, "mx", "", "-x", "-x");
        dueLeaves(1, "M:x", "", "-x", "-x");
        dueLeaves(1, "m;x", "", "-x", "-x");
        dueLeaves(1, "", "m:x", "-x", "-x");
    }

    private static void anyCharacterAsValue() {
        Check.sentence("with one character b as VALUE");
        for (int c = 0; c < 256; c++) {
            String b = "" + (char) c;
            dueLeaves(3, "m:" + b, "", "-" + b, "a", "-" + b, "-" + b, "-" + b + ".", "-" + b);
            dueLeaves(0, "m:" + b, "", "-" + b + ".", "-" + b);
        }
    }

    private static void cutLinesAreJustThat() {
        Check.sentence("the lines that are just \"-\" and b");
        String[] others = {"-", "x", "x-", "-xx", "--x", " -x", "-x ", "-X", "-y", "_x", "-w", ",x", ".x", "-x-", "-x:",
            "- x", "-\u0000x", "-x.."};
        for (String line : others) {
            dueLeaves(0, "m:x", "", line);
            dueLeaves(1, "m:x", "", "-x", line, "a");
        }
        for (int c = 0; c < 256; c++) {
            dueLeaves(c == 'x' ? 1 : 0, "m:x", "", "-" + (char) c);
            dueLeaves(c == '-' ? 1 : 0, "m:x", "", (char) c + "x");
        }
    }

    private static void headersAreNotCut() {
        Check.sentence("its BODY is cut");
        dueLeaves(0, "m:x", "-x", "-x");
        dueLeaves(0, "m:x", "-x", "-x", "");
        dueLeaves(1, "m:x", "-x", "-x.", "", "-x");
        dueLeaves(1, "-x.", "m:x", "", "-x");
    }

    private static void partsBetweenTwoCuts() {
        Check.sentence("each row of lines between two of these");
        dueLeavesAndWords(2, "a", "m:x", "", "-x", "", "a", "-x");
        dueLeavesAndWords(3, "a b c", "m:x", "", "-x", "", "a", "-x", "", "b", "-x", "", "c");
        dueLeavesAndWords(2, "a b", "m:x", "", "-x", "", "a", "", "b", "-x");
        dueLeavesAndWords(2, "", "m:x", "", "-x", "a", "-x", "b");
    }

    private static void partBehindTheLastCut() {
        Check.sentence("or behind the last one, is a PART one deeper");
        dueLeavesAndWords(1, "a", "m:x", "", "-x", "", "a");
        dueLeavesAndWords(1, "a", "m:x", "", "-x", "", "a", "-x.");
        dueLeavesAndWords(2, "a", "m:x", "", "-x", "-x", "", "a");
    }

    private static void partsMayHaveNoLines() {
        Check.sentence("(it may have no lines)");
        dueLeaves(1, "m:x", "", "-x");
        dueLeaves(2, "m:x", "", "-x", "-x");
        dueLeaves(3, "m:x", "", "-x", "-x", "-x");
        dueLeaves(1, "m:x", "", "-x", "-x.");
        dueLeaves(2, "m:x", "", "-x", "-x", "-x.");
        dueLeaves(1, "m:x", "", "-x", "");
        dueLeaves(3, "m:x", "", "-x", "m:y", "", "-y", "-y", "-x");
    }

    private static void mostParts() {
        Check.sentence("THE DRAFT at most 30 lines");
        ThreadedArchive x = new ThreadedArchive();
        Check.line(x, "i:1");
        Check.line(x, "m:x");
        Check.line(x, "");
        for (int n = 1; n <= 28; n++) {
            Check.line(x, "-x");
        }
        Check.due("add", x.add(), 0);
        Check.due("27 parts without lines", x.count(6), 27);
    }

    private static void linesBeforeTheFirstCut() {
        Check.sentence("lines before the first of them belong to none");
        dueLeavesAndWords(0, "", "m:x", "");
        dueLeavesAndWords(0, "", "m:x");
        dueLeavesAndWords(0, "", "m:x", "", "a", "", "b");
        dueLeavesAndWords(1, "b", "m:x", "", "a", "", "a", "-x", "", "b");
        dueLeavesAndWords(1, "a", "m:x", "", "e:h", "", "-x", "", "6a6");
        dueLeavesAndWords(1, "b", "m:x", "", "", "-x", "", "b");
    }

    private static void closingLineIsJustThat() {
        Check.sentence("a line that is just \"-\", b and \".\"");
        dueLeavesAndWords(1, "a", "m:x", "", "-x", "", "a", "-x.", "b");
        String[] others = {"-x..", "-x. ", " -x.", "-X.", "-y.", "--x.", "-xx.", "-.", "x.", "-x,", "-x/", "-x-", ".x-",
            "+x.", "-x .", "-x.-"};
        for (String line : others) {
            ThreadedArchive x = dueLeaves(2, "m:x", "", "-x", "", line, "-x", "", "q");
            Check.due("the word behind " + line, Check.search(x, "q"), 1);
        }
        for (int c = 0; c < 256; c++) {
            dueLeaves(c == '.' ? 1 : 2, "m:x", "", "-x", "-x" + (char) c, "-x");
        }
    }

    private static void linesBehindTheFirstClosingLine() {
        Check.sentence("and all lines behind the first such line");
        dueLeavesAndWords(1, "a", "m:x", "", "-x", "", "a", "-x.", "", "b", "-x.", "c");
        dueLeavesAndWords(1, "", "m:x", "", "-x", "-x.", "", "b");
        dueLeavesAndWords(1, "a", "m:x", "", "-x", "", "a", "-x.", "-x.");
    }

    private static void closingLineBeforeTheFirstCut() {
        Check.sentence("and all lines behind the first such line");
        dueLeavesAndWords(0, "", "m:x", "", "-x.");
        dueLeavesAndWords(0, "", "m:x", "", "-x.", "-x", "", "a");
        dueLeavesAndWords(0, "", "m:x", "", "a", "-x.", "", "b");
    }

    private static void cutsBehindTheClosingLine() {
        Check.sentence("and all lines behind the first such line");
        dueLeavesAndWords(1, "a", "m:x", "", "-x", "", "a", "-x.", "-x", "", "b");
        dueLeavesAndWords(2, "a", "m:x", "", "-x", "", "a", "-x", "-x.", "-x", "", "b", "-x", "-x.", "c");
    }

    private static void closingLinesOfOthers() {
        Check.sentence("a line that is just \"-\", b and \".\"");
        dueLeavesAndWords(2, "a b", "m:x", "", "-x", "m:y", "", "-y", "", "a", "-y.", "c", "-x", "", "b");
        dueLeavesAndWords(2, "a y b", "m:x", "", "-x", "", "a", "-y.", "-x", "", "b");
        dueLeavesAndWords(1, "a", "m:x", "", "-x", "m:y", "", "-y", "", "a", "-x.", "-y", "", "b");
        dueLeavesAndWords(2, "a c", "m:x", "", "-x", "m:y", "", "-y", "", "a", "-x", "", "c");
        dueLeavesAndWords(2, "a y c", "m:x", "", "-x", "m:y", "", "-y", "", "a", "-x", "", "-y", "c");
    }

    private static void sameBoundaryInside() {
        Check.sentence("its BODY is cut by the lines that are just \"-\" and b");
        dueLeavesAndWords(1, "b", "m:x", "", "-x", "m:x", "", "a", "-x", "", "b");
        dueLeavesAndWords(0, "", "m:x", "", "-x", "m:x", "", "a");
        dueLeavesAndWords(0, "", "m:x", "", "-x", "m:x", "", "-x.", "-x");
        dueLeavesAndWords(2, "a b", "m:-", "", "--", "m:.", "", "-.", "", "a", "-.", "", "b", "-..", "c");
        dueLeavesAndWords(1, "a", "m:.", "", "-.", "", "a", "-..", "b");
    }

    private static void anyOtherPartIsALeaf() {
        Check.sentence("Any other PART is a LEAF");
        dueLeavesAndWords(1, "");
        dueLeavesAndWords(1, "", "");
        dueLeavesAndWords(1, "a", "", "a");
        dueLeavesAndWords(1, "x a x", "m:xx", "", "-x", "a", "-x.");
        dueLeavesAndWords(1, "x a x", "m:", "", "-x", "a", "-x.");
    }

    private static void leavesComeInOrder() {
        Check.sentence("those of its LEAVES in order");
        dueLeavesAndWords(5, "a b c d e", "m:x", "", "-x", "", "a", "-x", "m:y", "", "-y", "", "b", "-y", "m:z", "",
                "-z", "", "c", "-z.", "-y", "", "d", "-x", "", "e");
    }
}
