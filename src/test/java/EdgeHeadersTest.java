/** The edges of HEADERS and BODY: Terms. */
public final class EdgeHeadersTest {
    public static void main(String[] args) {
        headersStandBeforeTheFirstEmptyLine();
        headersMayStandFirst();
        headersMayStandLast();
        allLinesIfThereIsNone();
        aBlankIsNotEmpty();
        secondCharacterIsAColon();
        keyIsTheFirstCharacter();
        valueIsBehindTheColon();
        lastOneCountsForIds();
        lastOneCountsForReferences();
        lastOneCountsForWords();
        lastOneCountsForParts();
        bodyIsBehindTheFirstEmptyLine();
        noBodyIfThereIsNone();
        innerHeadersAreTheirOwn();
        Check.end();
    }

    private static void dueAdd(int due, String... lines) {
        ThreadedArchive x = new ThreadedArchive();
        Check.due("add of " + String.join(", ", lines), Check.message(x, lines), due);
    }

    private static void dueWords(String[] words, String... lines) {
        Check.dueWords(String.join(", ", lines), Check.archiveOf(lines), 0, words);
    }

    private static String[] words(String... words) {
        return words;
    }

    private static void headersStandBeforeTheFirstEmptyLine() {
        Check.sentence("the lines before its first empty line");
        dueAdd(0, "i:1", "");
        dueAdd(0, "x", "i:1", "", "", "x");
        dueAdd(ThreadedArchive.BAD, "", "i:1");
        dueAdd(ThreadedArchive.BAD, "x", "", "i:1", "");
        dueAdd(ThreadedArchive.BAD, "x", "", "", "i:1");
        dueWords(words("0a", "2s", "2b"), "s:a", "", "s:b");
        dueWords(words("1a", "2f", "2b"), "f:a", "", "f:b");
        dueWords(words("2f", "2s"), "", "f:", "", "s:");
    }

    private static void headersMayStandFirst() {
        Check.sentence("the lines before its first empty line");
        ThreadedArchive x = new ThreadedArchive();
        Check.message(x, "s:a", "i:1", "");
        Check.message(x, "f:b", "i:2", "");
        Check.message(x, "r:50", "i:3", "");
        Check.message(x, "m:x", "i:4", "", "-x", "-x");
        Check.message(x, "e:h", "i:5", "", "4a");
        dueOneOfEach("in the first line", x);
    }

    private static void headersMayStandLast() {
        Check.sentence("the lines before its first empty line");
        ThreadedArchive x = new ThreadedArchive();
        Check.message(x, "i:1", "s:a", "");
        Check.message(x, "i:2", "f:b", "");
        Check.message(x, "i:3", "r:50", "");
        Check.message(x, "i:4", "m:x", "", "-x", "-x");
        Check.message(x, "i:5", "e:h", "", "4a");
        dueOneOfEach("in the line before the empty one", x);
    }

    private static void dueOneOfEach(String where, ThreadedArchive x) {
        Check.dueWords("s " + where, x, 0, "0a");
        Check.dueWords("f " + where, x, 1, "1b");
        Check.due("r " + where, x.root(3), 50);
        Check.due("m " + where, x.count(9), 2);
        Check.dueWords("e " + where, x, 4, "2j");
    }

    private static void allLinesIfThereIsNone() {
        Check.sentence("(all, if there is none)");
        dueAdd(0, "i:1");
        dueAdd(ThreadedArchive.BAD, "x");
        ThreadedArchive x = new ThreadedArchive();
        for (int n = 1; n <= 28; n++) {
            Check.line(x, "x");
        }
        Check.line(x, "s:a");
        Check.line(x, "i:5");
        Check.due("add of 30 lines with headers at the end", x.add(), 0);
        Check.due("idOf", x.idOf(0), 5);
        Check.dueWords("the 29th line", x, 0, "0a");
    }

    private static void aBlankIsNotEmpty() {
        Check.sentence("its first empty line");
        dueAdd(0, " ", "i:1");
        dueAdd(0, "\u0000", "i:1");
        dueWords(words("0a"), " ", "s:a");
        dueWords(words(), " ", "a");
    }

    private static void secondCharacterIsAColon() {
        Check.sentence("whose second character is a colon");
        for (int c = 0; c < 256; c++) {
            dueAdd(c == ':' ? 0 : ThreadedArchive.BAD, "i" + (char) c + "5");
        }
        dueAdd(ThreadedArchive.BAD, "i");
        dueAdd(ThreadedArchive.BAD, ":i:5");
        dueAdd(ThreadedArchive.BAD, ":5");
        dueAdd(ThreadedArchive.BAD, "ii:5");
        dueAdd(ThreadedArchive.BAD, "i :5");
        dueAdd(0, "i:5", "i", "i5", "ii:6", ":i:7");
        dueWords(words(), "s", "s a", "ss:a", ":s:a", "f", "f;a");
    }

    private static void keyIsTheFirstCharacter() {
        Check.sentence("its KEY the first character");
        for (int c = 0; c < 256; c++) {
            dueAdd(c == 'i' ? 0 : ThreadedArchive.BAD, (char) c + ":5");
            if ("sfim".indexOf(c) < 0) {
                dueWords(words("0a", "1b", "2q"), "s:a", "f:b", (char) c + ":c", "", "q");
            }
        }
        dueWords(words("0a"), "::b", "s:a", ":: c");
    }

    private static void valueIsBehindTheColon() {
        Check.sentence("a header's VALUE is what stands behind the colon");
        dueAdd(ThreadedArchive.BAD, "i:");
        dueAdd(ThreadedArchive.BAD, "i::5");
        dueWords(words(), "s:", "f:");
        dueWords(words("0a", "0s", "0b", "1f", "1c"), "s:a:s:b", "f:f:c");
        dueWords(words("0a"), "s::a");
        dueWords(words("0q", "1z"), "s:" + " ".repeat(37) + "q", "f:" + " ".repeat(37) + "z");
    }

    private static void lastOneCountsForIds() {
        Check.sentence("Of headers with the same KEY the last one counts");
        ThreadedArchive x = new ThreadedArchive();
        Check.due("add", Check.message(x, "i:1", "i:2", "x", "i:3", "x"), 0);
        Check.due("the last of three", x.idOf(0), 3);
        dueAdd(0, "i:", "i:64", "i:3");
        dueAdd(ThreadedArchive.BAD, "i:3", "i:");
        dueAdd(ThreadedArchive.BAD, "i:3", "i:64");
        dueAdd(0, "i:3", "", "i:64");
    }

    private static void lastOneCountsForReferences() {
        Check.sentence("Of headers with the same KEY the last one counts");
        Check.due("the last of two", Check.archiveOf("r:5", "r:6").root(1), 6);
        Check.due("a wrong one before", Check.archiveOf("r:x", "r:6").root(1), 6);
        Check.due("a wrong one behind", Check.archiveOf("r:5", "r:x").root(1), 1);
        Check.due("an empty one behind", Check.archiveOf("r:5", "r:").root(1), 1);
        Check.due("one in the body", Check.archiveOf("r:5", "", "r:6").root(1), 5);
        Check.due("the first one binds nothing", Check.archiveOf("r:7 5", "r:6").root(5), 5);
    }

    private static void lastOneCountsForWords() {
        Check.sentence("Of headers with the same KEY the last one counts");
        dueWords(words("0b", "1d"), "s:a", "f:c", "s:b", "f:d");
        dueWords(words(), "s:a", "f:c", "s:", "f:");
        dueWords(words("0b"), "s:", "s:b");
        dueWords(words("0a", "2s", "2b"), "s:a", "", "s:b");
    }

    private static void lastOneCountsForParts() {
        Check.sentence("Of headers with the same KEY the last one counts");
        Check.due("the last m", Check.archiveOf("m:x", "m:y", "", "-x", "-y", "-y").count(6), 2);
        Check.due("an empty m behind", Check.archiveOf("m:x", "m:", "", "-x", "-x").count(6), 1);
        Check.due("a long m behind", Check.archiveOf("m:x", "m:xx", "", "-x", "-x").count(6), 1);
        Check.due("a long m before", Check.archiveOf("m:xx", "m:x", "", "-x", "-x").count(6), 2);
        dueWords(words("2ab"), "e:x", "e:h", "", "6162");
        dueWords(words("2a", "2b"), "e:h", "e:", "", "6a1b62");
        dueWords(words("2a", "2b"), "e:h", "e:hh", "", "6a1b62");
    }

    private static void bodyIsBehindTheFirstEmptyLine() {
        Check.sentence("Its BODY is the lines behind the first empty line");
        dueWords(words("2a"), "x", "", "a");
        dueWords(words("2a", "2b"), "", "a", "", "b");
        dueWords(words("2a"), "", "", "", "a");
        dueWords(words(), "x", "");
        dueWords(words(), "x", "", "");
        dueWords(words("2i", "2s", "2a", "2no"), "", "i:7", "s:a", "no");
    }

    private static void noBodyIfThereIsNone() {
        Check.sentence("(none, if there is none)");
        dueWords(words(), "x", "no body", "a b c");
        dueWords(words(), "e:h", "6162");
        ThreadedArchive x = Check.archiveOf("m:x", "-x", "-x", "a");
        Check.due("leaves without a body", x.count(6), 0);
        x = Check.archiveOf("m:x", "", "-x", "a", "-x", "no: body");
        Check.due("parts without a body", x.count(6), 2);
        Check.dueWords("parts without a body", x, 0);
    }

    private static void innerHeadersAreTheirOwn() {
        Check.sentence("A PART is a row of lines. Its HEADERS are the lines before its first empty line");
        ThreadedArchive x = Check.archiveOf("m:x", "e:h", "s:a", "", "-x", "i:9", "r:8", "s:b", "f:c", "", "6a", "-x",
                "e:h", "", "6a");
        Check.due("the ID of the whole", x.idOf(0), 1);
        Check.due("the references of the whole", x.root(1), 1);
        Check.dueWords("the headers of the whole", x, 0, "0a", "2a", "2j");
    }
}
