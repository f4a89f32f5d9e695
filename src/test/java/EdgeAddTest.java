/** The edges of add: promise 5. */
public final class EdgeAddTest {
    public static void main(String[] args) {
        idIsNotThere();
        idHasOneOrTwoDigits();
        idIsAtMost63();
        idsAreUnlike();
        twelveMessages();
        refusalsComeInOrder();
        draftIsEmptyThen();
        lineStaysAsItIs();
        leastFreeNumber();
        noTagsAtFirst();
        numberGivenAgainIsNew();
        oneToFourReferences();
        referencesAreSuchNumbers();
        singleBlankBetweenTwo();
        noReferencesAtAll();
        referencesOfANumberGivenAgain();
        Check.end();
    }

    private static void dueBad(String... lines) {
        ThreadedArchive x = new ThreadedArchive();
        Check.due("add of " + String.join(", ", lines), Check.message(x, lines), ThreadedArchive.BAD);
        Check.due("messages", x.count(0), 0);
        Check.due("lines", x.count(2), 0);
        Check.due("add behind it", Check.message(x, "i:1"), 0);
    }

    private static void dueId(String header, int id) {
        ThreadedArchive x = new ThreadedArchive();
        Check.due("add of " + header, Check.message(x, header), 0);
        Check.due("idOf of " + header, x.idOf(0), id);
    }

    private static void idIsNotThere() {
        Check.sentence("Header i of THE DRAFT is not there: BAD");
        dueBad();
        dueBad("");
        dueBad("s:a", "r:1");
        dueBad("I:1");
        dueBad("s:a", "", "i:1");
        dueBad("m:x", "", "-x", "i:1");
    }

    private static void idHasOneOrTwoDigits() {
        Check.sentence("its VALUE is not one or two digits with a value 0 .. 63: BAD");
        dueBad("i:");
        dueBad("i:000");
        dueBad("i:001");
        dueBad("i:100");
        dueBad("i:1 ");
        dueBad("i: 1");
        dueBad("i:1 2");
        dueBad("i:-1");
        dueBad("i:+1");
        dueBad("i:1.");
        dueBad("i:" + "0".repeat(38));
        for (int c = 0; c < 256; c++) {
            boolean isDigit = c >= '0' && c <= '9';
            if (isDigit) {
                dueId("i:" + (char) c, c - '0');
                dueId("i:0" + (char) c, c - '0');
                dueId("i:1" + (char) c, 10 + c - '0');
            } else {
                dueBad("i:" + (char) c);
                dueBad("i:0" + (char) c);
                dueBad("i:" + (char) c + "0");
            }
        }
    }

    private static void idIsAtMost63() {
        Check.sentence("a value 0 .. 63");
        for (int value = 0; value < 100; value++) {
            String header = "i:" + value / 10 + value % 10;
            if (value <= 63) {
                dueId(header, value);
            } else {
                dueBad(header);
            }
        }
    }

    private static void idsAreUnlike() {
        Check.sentence("A message has the ID: REFUSED");
        ThreadedArchive x = new ThreadedArchive();
        Check.message(x, "i:0", "s:a");
        Check.message(x, "i:63", "s:b");
        Check.due("add of ID 0 again", Check.message(x, "i:0", "s:c"), ThreadedArchive.REFUSED);
        Check.due("add of ID 00", Check.message(x, "i:00", "s:c"), ThreadedArchive.REFUSED);
        Check.due("add of ID 63 again", Check.message(x, "i:63", "s:c"), ThreadedArchive.REFUSED);
        Check.due("messages", x.count(0), 2);
        Check.dueWords("the first one stays", x, 0, "0a");
        Check.dueWords("the second one stays", x, 1, "0b");
        Check.due("no message more", x.idOf(2), ThreadedArchive.REFUSED);
        Check.due("add of ID 1", Check.message(x, "i:1"), 2);
        Check.due("add of ID 62", Check.message(x, "i:62"), 3);
        x.drop(0);
        Check.due("add of a dropped ID", Check.message(x, "i:0"), 0);
        Check.message(x, "i:5", "r:6");
        Check.due("an ID that is a reference alone", Check.message(x, "i:6"), 5);
    }

    private static void twelveMessages() {
        Check.sentence("12 messages: FULL");
        ThreadedArchive x = Check.archiveOfMany(11);
        Check.due("add number 12", Check.message(x, "i:62"), 11);
        Check.due("add number 13", Check.message(x, "i:63", "r:0 50", "s:a"), ThreadedArchive.FULL);
        Check.due("messages", x.count(0), 12);
        Check.due("the ID is not there", x.root(63), 63);
        Check.due("its references are not there", x.root(50), 50);
        Check.due("its words are not there", x.count(5), 0);
        Check.due("lines", x.count(2), 0);
        x.drop(4);
        Check.due("add behind drop", Check.message(x, "i:63"), 4);
        Check.due("add at 12 again", Check.message(x, "i:61"), ThreadedArchive.FULL);
    }

    private static void refusalsComeInOrder() {
        Check.sentence("BAD. A message has the ID: REFUSED. 12 messages: FULL");
        ThreadedArchive x = Check.archiveOfMany(12);
        Check.due("no ID at 12", Check.message(x, "s:a"), ThreadedArchive.BAD);
        Check.due("a wrong ID at 12", Check.message(x, "i:64"), ThreadedArchive.BAD);
        Check.due("nothing at 12", x.add(), ThreadedArchive.BAD);
        Check.due("a known ID at 12", Check.message(x, "i:11"), ThreadedArchive.REFUSED);
        Check.due("a new ID at 12", Check.message(x, "i:12"), ThreadedArchive.FULL);
    }

    private static void draftIsEmptyThen() {
        Check.sentence("THE DRAFT becomes a message, and is empty then, whatever is answered");
        ThreadedArchive x = new ThreadedArchive();
        dueEmptyBehind(x, "i:1", 0);
        dueEmptyBehind(x, "i:1", ThreadedArchive.REFUSED);
        dueEmptyBehind(x, "i:64", ThreadedArchive.BAD);
        x = Check.archiveOfMany(12);
        dueEmptyBehind(x, "i:20", ThreadedArchive.FULL);
    }

    private static void dueEmptyBehind(ThreadedArchive x, String header, int due) {
        Check.line(x, header);
        Check.line(x, "s:a");
        Check.due("add", x.add(), due);
        Check.due("lines behind the answer " + due, x.count(2), 0);
        Check.due("add again behind the answer " + due, x.add(), ThreadedArchive.BAD);
        Check.due("enter behind the answer " + due, x.enter(), 1);
        x.wipe();
    }

    private static void lineStaysAsItIs() {
        Check.sentence("THE DRAFT becomes a message, and is empty then");
        ThreadedArchive x = new ThreadedArchive();
        Check.line(x, "i:1");
        Check.type(x, "i:2");
        Check.due("add", x.add(), 0);
        Check.due("characters", x.count(1), 3);
        Check.due("add of nothing", x.add(), ThreadedArchive.BAD);
        Check.due("characters behind a bad one", x.count(1), 3);
        x.enter();
        Check.due("add of the line", x.add(), 1);
        Check.due("the line is whole", x.idOf(1), 2);
    }

    private static void leastFreeNumber() {
        Check.sentence("Else its number, the least that is free");
        ThreadedArchive x = Check.archiveOfMany(12);
        x.drop(11);
        x.drop(6);
        x.drop(0);
        Check.due("the first", Check.message(x, "i:20"), 0);
        Check.due("the one between", Check.message(x, "i:21"), 6);
        Check.due("the last", Check.message(x, "i:22"), 11);
        for (int n = 11; n >= 0; n--) {
            x.drop(n);
        }
        Check.due("the first of all", Check.message(x, "i:23"), 0);
    }

    private static void noTagsAtFirst() {
        Check.sentence("no TAGS");
        ThreadedArchive x = Check.archiveOf();
        for (int tag = 0; tag < 8; tag++) {
            x.tag(0, tag, true);
        }
        Check.due("all tags", Check.search(x, "t:0&t:1&t:2&t:3&t:4&t:5&t:6&t:7"), 1);
        x.drop(0);
        Check.due("add", Check.message(x, "i:1"), 0);
        Check.due("no tag", Check.search(x, "t:0|t:1|t:2|t:3|t:4|t:5|t:6|t:7"), 0);
    }

    private static void numberGivenAgainIsNew() {
        Check.sentence("THE DRAFT becomes a message");
        ThreadedArchive x = Check.archiveOf("r:5 6", "s:a b", "f:c", "m:x", "", "-x", "", "d", "-x");
        Check.due("leaves", x.count(6), 2);
        x.drop(0);
        Check.due("add", Check.message(x, "i:2"), 0);
        Check.dueWords("no old words", x, 0);
        Check.due("leaves of the new one", x.count(6), 1);
        Check.due("no old references", x.root(2), 2);
        Check.due("the old ID is alone", x.root(1), 1);
        Check.due("the old references are alone", x.root(6), 6);
    }

    /** With REFERENCES from 20 on, 1 and all of them have the ROOT 20; without, each has its own. */
    private static void dueReferences(String header, int number) {
        ThreadedArchive x = Check.archiveOf(header);
        Check.due("root(1) with " + header, x.root(1), number > 0 ? 20 : 1);
        for (int id = 20; id < 26; id++) {
            Check.due("root(" + id + ") with " + header, x.root(id), id < 20 + number ? 20 : id);
        }
    }

    private static void oneToFourReferences() {
        Check.sentence("one to four such numbers with a single blank between two; else it has none");
        dueReferences("r:", 0);
        dueReferences("r:20", 1);
        dueReferences("r:20 21", 2);
        dueReferences("r:20 21 22", 3);
        dueReferences("r:20 21 22 23", 4);
        dueReferences("r:20 21 22 23 24", 0);
        dueReferences("r:20 21 22 23 24 25", 0);
        dueReferences("r:20 21 22 23 x", 0);
        dueReferences("r:20 21 22 23 ", 0);
    }

    private static void referencesAreSuchNumbers() {
        Check.sentence("one or two digits with a value 0 .. 63");
        for (int value = 0; value < 100; value++) {
            String number = "" + value / 10 + value % 10;
            Check.due("root(1) with r:" + number, Check.archiveOf("r:" + number).root(1), value <= 63 ? value : 1);
            Check.due("root(1) with r:20 " + number, Check.archiveOf("r:20 " + number).root(1), value <= 63 ? 20 : 1);
        }
        for (int digit = 0; digit < 10; digit++) {
            Check.due("root(1) with r:" + digit, Check.archiveOf("r:" + digit).root(1), digit);
        }
        String[] wrong = {"r:020", "r:20 021", "r:x", "r:20 x", "r:x 20", "r:-2", "r:20 -1", "r:2x", "r:x2", "r:20 2:",
            "r:20 /1", "r:64", "r:20 64", "r:64 20", "r:20 21 64", "r:20 21 22 64", "r:20 21 22 x", "r:20 99"};
        for (String header : wrong) {
            dueReferences(header, 0);
        }
    }

    private static void singleBlankBetweenTwo() {
        Check.sentence("with a single blank between two");
        String[] wrong = {"r: 20", "r:20 ", "r:20  21", "r:20 21 ", "r: 20 21", "r:20 21  22", "r:20 21 22  23", "r: ",
            "r:  ", "r:20 21 22 23  ", "r:20,21", "r:20-21", "r:20\u000021", "r:20\u000921", "r:20\u00a021", "r:2021",
            "r:20 2122"};
        for (String header : wrong) {
            dueReferences(header, 0);
        }
        for (int c = 0; c < 256; c++) {
            dueReferences("r:20" + (char) c + "21", c == ' ' ? 2 : 0);
        }
    }

    private static void noReferencesAtAll() {
        Check.sentence("Its REFERENCES are those of header r; else it has none");
        Check.due("no header r", Check.archiveOf().root(1), 1);
        dueReferences("R:20", 0);
        dueReferences("rr:20", 0);
        dueReferences("r20", 0);
        dueReferences("r;20", 0);
        Check.due("header r in the body", Check.archiveOf("", "r:20").root(1), 1);
        Check.due("header r in a part", Check.archiveOf("m:x", "", "-x", "r:20").root(1), 1);
    }

    private static void referencesOfANumberGivenAgain() {
        Check.sentence("else it has none");
        ThreadedArchive x = Check.archiveOf("r:20 21 22 23");
        x.drop(0);
        Check.message(x, "i:1", "r:20 21 64");
        Check.due("root(1)", x.root(1), 1);
        Check.due("root(21)", x.root(21), 21);
        Check.due("root(23)", x.root(23), 23);
        x.drop(0);
        Check.message(x, "i:1", "r:30");
        Check.due("root(1) with one reference", x.root(1), 30);
        Check.due("root(21) with one reference", x.root(21), 21);
    }
}
