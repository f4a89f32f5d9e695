/** The edges of drop, tag, idOf and count: promises 6, 7, 12 and 17. */
public final class EdgeMessagesTest {
    private static final int[] NO_NUMBERS = {-1, 12, 13, 64, -12, Integer.MIN_VALUE, Integer.MAX_VALUE};

    public static void main(String[] args) {
        numbersHaveTwoEnds();
        noSuchMessageToDrop();
        droppedMessageIsNotThere();
        asIfItHadNeverBeenAdded();
        dropOfTheLastMessage();
        addedAndDroppedManyTimes();
        tagsHaveTwoEnds();
        noSuchMessageToTag();
        tagIsSetOrNoMore();
        tagsAreTheMessagesOwn();
        noSuchIdOf();
        countOfMessages();
        countOfFoundOnesBefore();
        countOfRoots();
        countOfCodes();
        countOfLeaves();
        countOutOfRange();
        Check.end();
    }

    private static void numbersHaveTwoEnds() {
        Check.sentence("MESSAGES have numbers 0 .. 11");
        ThreadedArchive x = Check.archiveOfMany(12);
        for (int n = 0; n < 12; n++) {
            Check.due("idOf(" + n + ")", x.idOf(n), n);
        }
        for (int number : NO_NUMBERS) {
            Check.due("idOf(" + number + ")", x.idOf(number), ThreadedArchive.REFUSED);
            Check.due("drop(" + number + ")", x.drop(number), ThreadedArchive.REFUSED);
            Check.due("tag(" + number + ")", x.tag(number, 0, true), ThreadedArchive.REFUSED);
            Check.due("answers(" + number + ")", x.answers(number), ThreadedArchive.REFUSED);
            Check.due("word(" + number + ")", x.word(number, 0), ThreadedArchive.REFUSED);
            Check.due("field(" + number + ")", x.field(number, 0), ThreadedArchive.REFUSED);
        }
        Check.due("messages", x.count(0), 12);
        Check.due("no tag was set", Check.search(x, "t:0"), 0);
    }

    private static void noSuchMessageToDrop() {
        Check.sentence("No such message: REFUSED");
        ThreadedArchive x = new ThreadedArchive();
        Check.due("drop(0) of a new object", x.drop(0), ThreadedArchive.REFUSED);
        Check.due("drop(11) of a new object", x.drop(11), ThreadedArchive.REFUSED);
        x = Check.archiveOfMany(3);
        Check.due("drop of the first free number", x.drop(3), ThreadedArchive.REFUSED);
        Check.due("drop(1)", x.drop(1), ThreadedArchive.OK);
        Check.due("drop(1) again", x.drop(1), ThreadedArchive.REFUSED);
        Check.due("messages", x.count(0), 2);
        Check.due("idOf(0)", x.idOf(0), 0);
        Check.due("idOf(2)", x.idOf(2), 2);
    }

    private static void droppedMessageIsNotThere() {
        Check.sentence("The message is not there any more");
        for (int dropped = 0; dropped < 12; dropped++) {
            ThreadedArchive x = Check.archiveOfMany(12);
            Check.due("drop", x.drop(dropped), ThreadedArchive.OK);
            Check.due("messages", x.count(0), 11);
            for (int n = 0; n < 12; n++) {
                Check.due("idOf(" + n + ") without " + dropped, x.idOf(n), n == dropped ? ThreadedArchive.REFUSED : n);
            }
            Check.due("leaves", x.count(6 + dropped), ThreadedArchive.REFUSED);
            Check.due("tag", x.tag(dropped, 0, true), ThreadedArchive.REFUSED);
            Check.due("answers", x.answers(dropped), ThreadedArchive.REFUSED);
            Check.due("search", Check.search(x, "!a"), 11);
        }
    }

    /** Without message 0 the threads, WORDS and IDs are those of an archive that never had it. */
    private static void asIfItHadNeverBeenAdded() {
        Check.sentence("as if it had never been added");
        ThreadedArchive x = Check.archiveOf("r:5 6", "s:a b");
        Check.message(x, "i:2", "r:7 6", "s:b");
        Check.message(x, "i:5", "r:2");
        Check.due("root(6) before", x.root(6), 5);
        Check.due("answers of 5 before", x.answers(2), ThreadedArchive.NONE);
        Check.due("codes before", x.count(5), 2);
        x.drop(0);
        Check.due("root(6)", x.root(6), 7);
        Check.due("root(5)", x.root(5), 7);
        Check.due("root(1)", x.root(1), 1);
        Check.due("answers of 5", x.answers(2), 1);
        Check.due("codes", x.count(5), 1);
        Check.due("roots", x.count(4), 1);
        Check.due("search", Check.search(x, "a"), 0);
        Check.due("add of its ID", Check.message(x, "i:1", "r:5 6"), 0);
        Check.due("root(6) with the new one as the last", x.root(6), 7);
    }

    private static void dropOfTheLastMessage() {
        Check.sentence("as if it had never been added");
        ThreadedArchive x = Check.archiveOf("r:63 62", "s:a");
        x.drop(0);
        for (int what = 0; what < 6; what++) {
            Check.due("count(" + what + ")", x.count(what), 0);
        }
        for (int id = 0; id < 64; id++) {
            Check.due("root(" + id + ")", x.root(id), id);
        }
        Check.due("search", Check.search(x, "!b"), 0);
    }

    private static void addedAndDroppedManyTimes() {
        Check.sentence("as if it had never been added");
        ThreadedArchive x = Check.archiveOfMany(11);
        for (int n = 0; n < 50; n++) {
            Check.due("add number " + n, Check.message(x, "i:" + (12 + n)), 11);
            Check.due("drop number " + n, x.drop(11), ThreadedArchive.OK);
        }
        Check.due("messages", x.count(0), 11);
        Check.due("roots", x.count(4), 11);
    }

    private static void tagsHaveTwoEnds() {
        Check.sentence("TAGS 0 .. 7");
        ThreadedArchive x = Check.archiveOf();
        int[] wrong = {-1, 8, 9, 31, 32, 39, 40, -8, -32, Integer.MIN_VALUE, Integer.MAX_VALUE};
        for (int tag : wrong) {
            Check.due("tag(0, " + tag + ", true)", x.tag(0, tag, true), ThreadedArchive.REFUSED);
        }
        Check.due("no tag was set", Check.search(x, "t:0|t:1|t:2|t:3|t:4|t:5|t:6|t:7"), 0);
        for (int tag = 0; tag < 8; tag++) {
            Check.due("tag(0, " + tag + ", true)", x.tag(0, tag, true), ThreadedArchive.OK);
        }
        for (int tag : wrong) {
            Check.due("tag(0, " + tag + ", false)", x.tag(0, tag, false), ThreadedArchive.REFUSED);
        }
        Check.due("no tag was taken", Check.search(x, "t:0&t:1&t:2&t:3&t:4&t:5&t:6&t:7"), 1);
    }

    private static void noSuchMessageToTag() {
        Check.sentence("No such message, or tag out of range: REFUSED");
        ThreadedArchive x = new ThreadedArchive();
        Check.due("tag of a new object", x.tag(0, 0, true), ThreadedArchive.REFUSED);
        x = Check.archiveOfMany(2);
        Check.due("tag of the first free number", x.tag(2, 0, true), ThreadedArchive.REFUSED);
        Check.due("tag off of the first free number", x.tag(2, 0, false), ThreadedArchive.REFUSED);
        Check.due("tag out of range of no message", x.tag(2, 8, true), ThreadedArchive.REFUSED);
        x.drop(1);
        Check.due("tag of a dropped one", x.tag(1, 0, true), ThreadedArchive.REFUSED);
        Check.message(x, "i:5");
        Check.message(x, "i:6");
        Check.due("no tag waits for the next one", Check.search(x, "t:0"), 0);
    }

    private static void tagIsSetOrNoMore() {
        Check.sentence("The message has the TAG 0 .. 7 from now on (on), or no more: OK");
        for (int tag = 0; tag < 8; tag++) {
            ThreadedArchive x = Check.archiveOf();
            Check.due("off before on", x.tag(0, tag, false), ThreadedArchive.OK);
            Check.due("found before on", Check.search(x, "t:" + tag), 0);
            Check.due("on", x.tag(0, tag, true), ThreadedArchive.OK);
            Check.due("on again", x.tag(0, tag, true), ThreadedArchive.OK);
            Check.due("found", Check.search(x, "t:" + tag), 1);
            for (int other = 0; other < 8; other++) {
                Check.due(other + " with " + tag, Check.search(x, "t:" + other), other == tag ? 1 : 0);
            }
            Check.due("off", x.tag(0, tag, false), ThreadedArchive.OK);
            Check.due("off again", x.tag(0, tag, false), ThreadedArchive.OK);
            Check.due("found behind off", Check.search(x, "t:" + tag), 0);
        }
    }

    private static void tagsAreTheMessagesOwn() {
        Check.sentence("The message has the TAG 0 .. 7 from now on");
        ThreadedArchive x = Check.archiveOfMany(12);
        x.tag(0, 0, true);
        x.tag(11, 0, true);
        x.tag(11, 7, true);
        Check.search(x, "t:0");
        Check.dueHits("tag 0", x, 0, 11);
        Check.search(x, "t:7");
        Check.dueHits("tag 7", x, 11);
        x.tag(11, 0, false);
        Check.dueHits("what was found stays", x, 11);
        Check.search(x, "t:0");
        Check.dueHits("tag 0 behind off", x, 0);
    }

    private static void noSuchIdOf() {
        Check.sentence("The message's ID; REFUSED if there is no such message");
        ThreadedArchive x = new ThreadedArchive();
        Check.due("idOf(0) of a new object", x.idOf(0), ThreadedArchive.REFUSED);
        Check.message(x, "i:0");
        Check.message(x, "i:63");
        Check.due("the least ID", x.idOf(0), 0);
        Check.due("the largest ID", x.idOf(1), 63);
        Check.due("the first free number", x.idOf(2), ThreadedArchive.REFUSED);
        x.drop(0);
        Check.due("a dropped one", x.idOf(0), ThreadedArchive.REFUSED);
        Check.due("the other one", x.idOf(1), 63);
    }

    private static void countOfMessages() {
        Check.sentence("0: messages; 1: characters in THE LINE; 2: lines in THE DRAFT");
        ThreadedArchive x = Check.archiveOfMany(12);
        Check.due("12 messages", x.count(0), 12);
        Check.emptyLines(x, 30);
        Check.type(x, "a".repeat(41));
        Check.due("40 characters", x.count(1), 40);
        Check.due("30 lines", x.count(2), 30);
        x.wipe();
        Check.due("no characters", x.count(1), 0);
        Check.due("no lines", x.count(2), 0);
        for (int n = 0; n < 12; n++) {
            x.drop(n);
            Check.due("messages", x.count(0), 11 - n);
        }
    }

    private static void countOfFoundOnesBefore() {
        Check.sentence("3: FOUND messages (0 before)");
        ThreadedArchive x = new ThreadedArchive();
        Check.due("of a new object", x.count(3), 0);
        Check.message(x, "i:1", "s:a");
        Check.due("before any search", x.count(3), 0);
        Check.search(x, "(a");
        Check.due("behind a bad search", x.count(3), 0);
        Check.search(x, "a");
        Check.due("behind a search", x.count(3), 1);
        Check.search(x, "(a");
        Check.due("behind a bad search again", x.count(3), 1);
        x.drop(0);
        Check.due("behind drop", x.count(3), 1);
        Check.search(x, "b");
        Check.due("behind a search that finds none", x.count(3), 0);
        x = Check.archiveOfMany(12);
        Check.due("all", Check.search(x, "!a"), 12);
        Check.due("count of all", x.count(3), 12);
    }

    private static void countOfRoots() {
        Check.sentence("4: IDs that are the ROOT of some message's ID");
        ThreadedArchive x = Check.archiveOfMany(12);
        Check.due("12 messages without references", x.count(4), 12);
        x = new ThreadedArchive();
        for (int n = 0; n < 12; n++) {
            Check.message(x, "i:" + n, "r:63");
            Check.due("one root without a message", x.count(4), 1);
        }
        x = Check.archiveOf("r:10 11 12 13");
        Check.message(x, "i:2", "r:20 x");
        Check.due("IDs without a message do not count", x.count(4), 2);
        x.drop(1);
        Check.due("a dropped one does not count", x.count(4), 1);
        x.drop(0);
        Check.due("no messages", x.count(4), 0);
    }

    private static void countOfCodes() {
        Check.sentence("5: different CODES among all WORDS of all messages");
        ThreadedArchive x = Check.archiveOf();
        Check.due("no words", x.count(5), 0);
        Check.message(x, "i:2", "s:a A", "f:a", "", "a");
        Check.due("the same in all fields", x.count(5), 1);
        Check.message(x, "i:3", "", "b a aa b");
        Check.due("the same in two messages", x.count(5), 3);
        x.drop(1);
        Check.due("one is left", x.count(5), 3);
        x.drop(2);
        Check.due("none is left", x.count(5), 0);
    }

    private static void countOfLeaves() {
        Check.sentence("6 and above: LEAVES of message what - 6");
        ThreadedArchive x = new ThreadedArchive();
        for (int n = 0; n < 12; n++) {
            Check.line(x, "i:" + n);
            Check.line(x, "m:x");
            Check.line(x, "");
            for (int cut = 0; cut < n; cut++) {
                Check.line(x, "-x");
            }
            x.add();
        }
        for (int n = 0; n < 12; n++) {
            Check.due("count(" + (6 + n) + ")", x.count(6 + n), n);
        }
        Check.due("count(18)", x.count(18), ThreadedArchive.REFUSED);
        x.drop(7);
        Check.due("count(13) behind drop", x.count(13), ThreadedArchive.REFUSED);
        Check.due("count(12) behind drop", x.count(12), 6);
        Check.due("count(14) behind drop", x.count(14), 8);
    }

    private static void countOutOfRange() {
        Check.sentence("REFUSED below 0, or if there is no such message");
        ThreadedArchive x = new ThreadedArchive();
        for (int what = 6; what < 20; what++) {
            Check.due("count(" + what + ") of a new object", x.count(what), ThreadedArchive.REFUSED);
        }
        x = Check.archiveOfMany(12);
        int[] wrong = {-1, -2, -6, -7, 18, 19, 64, Integer.MIN_VALUE, Integer.MIN_VALUE + 5, Integer.MIN_VALUE + 6,
            Integer.MAX_VALUE, Integer.MAX_VALUE - 6};
        for (int what : wrong) {
            Check.due("count(" + what + ")", x.count(what), ThreadedArchive.REFUSED);
        }
        Check.due("count(0)", x.count(0), 12);
        Check.due("count(17)", x.count(17), 1);
    }
}
