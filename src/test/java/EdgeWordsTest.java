/** The edges of WORDS and CODES: Terms and promises 15 and 16. */
public final class EdgeWordsTest {
    private static final String NINETEEN = "a a a a a a a a a a a a a a a a a a a";

    public static void main(String[] args) {
        onlyLettersMakeWords();
        runsAreTheLongest();
        runsStayInALine();
        largeLettersCountAsSmall();
        firstTwelveCount();
        codesAreMadeFromLetters();
        fieldsComeInOrder();
        fieldsMayBeEmpty();
        firstFifty();
        fiftiethInAField();
        fiftiethInALeaf();
        leavesBehindTheFiftieth();
        wordsThatAreNotThere();
        wordsOfMessagesThatAreNotThere();
        Check.end();
    }

    private static boolean isLetter(int c) {
        return c >= 'a' && c <= 'z' || c >= 'A' && c <= 'Z';
    }

    private static void onlyLettersMakeWords() {
        Check.sentence("A WORD is a longest run of letters");
        for (int c = 0; c < 256; c++) {
            ThreadedArchive x = Check.archiveOf("s:x" + (char) c + "y", "", "x" + (char) c + "y");
            if (isLetter(c)) {
                String word = "x" + (char) (c | 32) + "y";
                Check.dueWords("character " + c, x, 0, "0" + word, "2" + word);
            } else {
                Check.dueWords("character " + c, x, 0, "0x", "0y", "2x", "2y");
            }
        }
    }

    private static void runsAreTheLongest() {
        Check.sentence("A WORD is a longest run of letters in a line");
        Check.dueWords("no letters", Check.archiveOf("s:12 !? ", "f: ", "", "", " ", "1"), 0);
        Check.dueWords("a whole line", Check.archiveOf("s:ab", "", "cd"), 0, "0ab", "2cd");
        Check.dueWords("blanks at both ends", Check.archiveOf("s: ab ", "", "  cd  "), 0, "0ab", "2cd");
        Check.dueWords("words side by side", Check.archiveOf("", "ab1cd  e"), 0, "2ab", "2cd", "2e");
        Check.dueWords("the same word twice", Check.archiveOf("s:a a", "f:a", "", "a"), 0, "0a", "0a", "1a", "2a");
    }

    private static void runsStayInALine() {
        Check.sentence("in a line");
        Check.dueWords("two lines", Check.archiveOf("", "ab", "cd"), 0, "2ab", "2cd");
        Check.dueWords("two full lines", Check.archiveOf("", "a".repeat(40), "b".repeat(40)), 0, "2aaaaaaaaaaaa",
                "2bbbbbbbbbbbb");
        Check.dueWords("header and body", Check.archiveOf("s:ab", "f:cd", "", "ef"), 0, "0ab", "1cd", "2ef");
    }

    private static void largeLettersCountAsSmall() {
        Check.sentence("A .. Z count as a .. z");
        for (char c = 'A'; c <= 'Z'; c++) {
            ThreadedArchive x = Check.archiveOf("s:" + c, "", "" + (char) (c | 32));
            Check.due("code of " + c, x.word(0, 0), c - 'A' + 1);
            Check.due("code of small " + c, x.word(0, 1), c - 'A' + 1);
            Check.due("codes", x.count(5), 1);
        }
    }

    private static void firstTwelveCount() {
        Check.sentence("of more than 12 letters the first 12 count");
        String letters = "abcdefghijklmnopqrstuvwxyzabcdefghijklmn";
        for (int length = 1; length <= 40; length++) {
            String counted = letters.substring(0, Math.min(12, length));
            ThreadedArchive x = Check.archiveOf("", letters.substring(0, length), "z");
            Check.dueWords(length + " letters", x, 0, "2" + counted, "2z");
        }
        ThreadedArchive x = Check.archiveOf("s:abcdefghijklx abcdefghijkly", "f:abcdefghijkl");
        Check.due("codes of words with the same 12", x.count(5), 1);
        x = Check.archiveOf("s:abcdefghijkx abcdefghijky");
        Check.due("codes of words with the same 11", x.count(5), 2);
    }

    private static void codesAreMadeFromLetters() {
        Check.sentence("32 times what there is plus 1 for a to 26 for z");
        ThreadedArchive x = Check.archiveOf("s:a z aa az za", "f:zzzzzzzzzzzz aaaaaaaaaaaa", "", "aaaaaaa zzzzzz");
        Check.due("a", x.word(0, 0), 1);
        Check.due("z", x.word(0, 1), 26);
        Check.due("aa", x.word(0, 2), 33);
        Check.due("az", x.word(0, 3), 58);
        Check.due("za", x.word(0, 4), 833);
        Check.due("twelve z", x.word(0, 5), 966966423218645850L);
        Check.due("twelve a", x.word(0, 6), 37191016277640225L);
        Check.due("seven a", x.word(0, 7), 1108378657L);
        Check.due("six z", x.word(0, 8), 900557658L);
    }

    private static void fieldsComeInOrder() {
        Check.sentence("those of its header s (field 0), then those of its header f (field 1), then");
        ThreadedArchive x = new ThreadedArchive();
        Check.message(x, "f:b", "i:1", "s:a", "", "c");
        Check.dueWords("f before s", x, 0, "0a", "1b", "2c");
    }

    private static void fieldsMayBeEmpty() {
        Check.sentence("The WORDS of a message");
        Check.dueWords("none", Check.archiveOf(), 0);
        Check.dueWords("field 0 alone", Check.archiveOf("s:a"), 0, "0a");
        Check.dueWords("field 1 alone", Check.archiveOf("f:a"), 0, "1a");
        Check.dueWords("field 2 alone", Check.archiveOf("", "a"), 0, "2a");
        Check.dueWords("all but field 1", Check.archiveOf("s:a", "", "a"), 0, "0a", "2a");
    }

    private static void firstFifty() {
        Check.sentence("the first 50 of all these");
        for (int words = 48; words <= 52; words++) {
            ThreadedArchive x = Check.archiveOf("s:" + NINETEEN, "f:" + NINETEEN, "", "b ".repeat(words - 39) + "c");
            Check.due("word 48 of " + words, x.word(0, 48), words == 48 ? -1 : words == 49 ? 3 : 2);
            Check.due("word 49 of " + words, x.word(0, 49), words < 50 ? -1 : words == 50 ? 3 : 2);
            Check.due("field 49 of " + words, x.field(0, 49), words < 50 ? -1 : 2);
            Check.due("word 50 of " + words, x.word(0, 50), ThreadedArchive.REFUSED);
            Check.due("field 50 of " + words, x.field(0, 50), ThreadedArchive.REFUSED);
            Check.due("codes of " + words, x.count(5), words <= 50 ? 3 : 2);
            Check.due("search of the last of " + words, Check.search(x, "c"), words <= 50 ? 1 : 0);
        }
    }

    private static void fiftiethInAField() {
        Check.sentence("the first 50 of all these");
        ThreadedArchive x = Check.archiveOf("s:" + NINETEEN, "f:" + NINETEEN, "", "b b b b b b b b b b b b b b b");
        Check.due("field 18", x.field(0, 18), 0);
        Check.due("field 19", x.field(0, 19), 1);
        Check.due("field 37", x.field(0, 37), 1);
        Check.due("field 38", x.field(0, 38), 2);
        Check.due("word 38", x.word(0, 38), 2);
        Check.due("word 49", x.word(0, 49), 2);
        Check.due("word 50", x.word(0, 50), ThreadedArchive.REFUSED);
    }

    private static void fiftiethInALeaf() {
        Check.sentence("the first 50 of all these");
        String twenty = NINETEEN + " a";
        ThreadedArchive x = Check.archiveOf("m:x", "", "-x", "", twenty, twenty, "-x", "", "b b b b b b b b b", "-x",
                "", "c", "d", "-x", "e:h", "", "65");
        Check.due("word 39", x.word(0, 39), 1);
        Check.due("word 48", x.word(0, 48), 2);
        Check.due("word 49", x.word(0, 49), 3);
        Check.due("word 50", x.word(0, 50), ThreadedArchive.REFUSED);
        Check.due("codes", x.count(5), 3);
        Check.due("search of the 50th", Check.search(x, "b:c*"), 1);
        Check.due("search of the 51st", Check.search(x, "d"), 0);
        Check.due("search of the 52nd", Check.search(x, "e*"), 0);
    }

    private static void leavesBehindTheFiftieth() {
        Check.sentence("6 and above: LEAVES of message what - 6");
        String twenty = NINETEEN + " a";
        ThreadedArchive x = Check.archiveOf("m:x", "", "-x", "", twenty, twenty, twenty, "-x", "-x", "", "b");
        Check.due("leaves, with words beyond the 50th", x.count(6), 3);
    }

    private static void wordsThatAreNotThere() {
        Check.sentence("REFUSED if there is no such");
        ThreadedArchive x = Check.archiveOf("s:a", "f:b", "", "c");
        int[] wrong = {-1, 3, 4, 49, 50, 51, -3, Integer.MIN_VALUE, Integer.MAX_VALUE};
        for (int k : wrong) {
            Check.due("word(0, " + k + ")", x.word(0, k), ThreadedArchive.REFUSED);
            Check.due("field(0, " + k + ")", x.field(0, k), ThreadedArchive.REFUSED);
        }
        Check.dueWords("those that are there", x, 0, "0a", "1b", "2c");
        Check.message(x, "i:2");
        Check.due("word(1, 0) of a message without words", x.word(1, 0), ThreadedArchive.REFUSED);
        Check.due("field(1, 0) of a message without words", x.field(1, 0), ThreadedArchive.REFUSED);
    }

    private static void wordsOfMessagesThatAreNotThere() {
        Check.sentence("REFUSED if there is no such");
        ThreadedArchive x = new ThreadedArchive();
        Check.due("word(0, 0) of a new object", x.word(0, 0), ThreadedArchive.REFUSED);
        Check.due("field(0, 0) of a new object", x.field(0, 0), ThreadedArchive.REFUSED);
        for (int n = 0; n < 12; n++) {
            Check.message(x, "i:" + n, "s:" + (char) ('a' + n));
        }
        for (int n = 0; n < 12; n++) {
            Check.due("word(" + n + ", 0)", x.word(n, 0), n + 1);
            Check.due("field(" + n + ", 0)", x.field(n, 0), 0);
        }
        int[] unknown = {-1, 12, 13, Integer.MIN_VALUE, Integer.MAX_VALUE};
        for (int number : unknown) {
            Check.due("word(" + number + ", 0)", x.word(number, 0), ThreadedArchive.REFUSED);
            Check.due("field(" + number + ", 0)", x.field(number, 0), ThreadedArchive.REFUSED);
        }
        x.drop(5);
        Check.due("word of a dropped one", x.word(5, 0), ThreadedArchive.REFUSED);
        Check.due("field of a dropped one", x.field(5, 0), ThreadedArchive.REFUSED);
        Check.message(x, "i:40");
        Check.due("word of a number given again", x.word(5, 0), ThreadedArchive.REFUSED);
        Check.due("field of a number given again", x.field(5, 0), ThreadedArchive.REFUSED);
    }
}
