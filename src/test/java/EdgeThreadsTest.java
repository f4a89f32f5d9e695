/** The edges of THREADS, answers and root: Terms and promises 13 and 14. */
public final class EdgeThreadsTest {
    public static void main(String[] args) {
        atFirstNoneHasOne();
        oneReference();
        referencesGetParents();
        onlyIfItHasNoneYet();
        lastReferenceReplacesTheParent();
        ringOfOne();
        ringOfTwo();
        ringOfMany();
        ringKeepsTheParentThatWasThere();
        ringAmongReferences();
        ringIsLookedForAtOnce();
        orderOfAdding();
        rootIsReachedAsLongAsThereIsOne();
        longestChain();
        rootOutOfRange();
        answersTheFirstWithAMessage();
        answersByIdsWithoutMessages();
        answersNone();
        answersOfNoSuchMessage();
        Check.end();
    }

    private static void dueRoots(String what, ThreadedArchive x, int... idsAndRoots) {
        for (int i = 0; i < idsAndRoots.length; i += 2) {
            Check.due(what + ": root(" + idsAndRoots[i] + ")", x.root(idsAndRoots[i]), idsAndRoots[i + 1]);
        }
    }

    private static void atFirstNoneHasOne() {
        Check.sentence("At first none has one");
        ThreadedArchive x = new ThreadedArchive();
        for (int id = 0; id < 64; id++) {
            Check.due("root(" + id + ")", x.root(id), id);
        }
        Check.message(x, "i:0");
        Check.message(x, "i:63");
        dueRoots("messages without references", x, 0, 0, 63, 63);
    }

    private static void oneReference() {
        Check.sentence("then the message's ID gets its last REFERENCE as PARENT");
        dueRoots("one", Check.archiveOf("r:5"), 1, 5, 5, 5);
        dueRoots("the least", Check.archiveOf("r:0"), 1, 0, 0, 0);
        dueRoots("the largest", Check.archiveOf("r:63"), 1, 63, 63, 63);
    }

    private static void referencesGetParents() {
        Check.sentence("b gets a as PARENT, then c gets b, then d gets c");
        dueRoots("two", Check.archiveOf("r:5 6"), 1, 5, 6, 5, 5, 5);
        dueRoots("three", Check.archiveOf("r:5 6 7"), 1, 5, 7, 5, 6, 5);
        ThreadedArchive x = Check.archiveOf("r:5 6 7 8");
        dueRoots("four", x, 1, 5, 8, 5, 7, 5, 6, 5, 5, 5);
        Check.message(x, "i:7", "r:9");
        dueRoots("7 has another parent", x, 1, 9, 8, 9, 7, 9, 6, 5, 5, 5);
        x.drop(1);
        Check.message(x, "i:8", "r:9");
        dueRoots("8 has another parent", x, 1, 9, 8, 9, 7, 5, 6, 5);
    }

    private static void onlyIfItHasNoneYet() {
        Check.sentence("each if it has none yet");
        ThreadedArchive x = Check.archiveOf("r:5 6");
        Check.message(x, "i:2", "r:7 6");
        dueRoots("6 has one", x, 6, 5, 2, 5, 7, 7);
        Check.message(x, "i:3", "r:8 1");
        dueRoots("a message's ID has one", x, 1, 5, 3, 5, 8, 8);
        Check.message(x, "i:4", "r:9 5 6");
        dueRoots("5 has none", x, 5, 9, 6, 9, 1, 9, 4, 9);
        x = Check.archiveOf("r:5 6 7 6");
        dueRoots("within one message", x, 6, 5, 7, 5, 1, 5);
        x = Check.archiveOf("r:5 6 8 6");
        Check.message(x, "i:6", "r:20");
        dueRoots("6 is not bound to 8", x, 8, 20, 5, 5, 1, 20);
    }

    private static void lastReferenceReplacesTheParent() {
        Check.sentence("(in place of any other)");
        ThreadedArchive x = Check.archiveOf("r:5 6");
        Check.message(x, "i:6", "r:7");
        dueRoots("6 goes to 7", x, 6, 7, 1, 7, 5, 5);
        x = Check.archiveOf("r:5 6");
        Check.message(x, "i:6", "r:8 6 7");
        dueRoots("6 keeps 5 among the references and gets 7 then", x, 7, 5, 6, 5, 8, 8);
        x = Check.archiveOf();
        Check.message(x, "i:2", "r:9 1");
        dueRoots("a message without references gets one", x, 1, 9, 2, 9);
        x = Check.archiveOf("r:7");
        Check.message(x, "i:2", "r:9 1");
        dueRoots("a message with references keeps its own", x, 1, 7, 2, 7, 9, 9);
    }

    private static void ringOfOne() {
        Check.sentence("makes a RING if y is x");
        dueRoots("itself", Check.archiveOf("r:1"), 1, 1);
        dueRoots("a reference to itself", Check.archiveOf("r:5 5"), 5, 5, 1, 5);
        dueRoots("four times the same", Check.archiveOf("r:5 5 5 5"), 5, 5, 1, 5);
        dueRoots("four times itself", Check.archiveOf("r:1 1 1 1"), 1, 1);
    }

    private static void ringOfTwo() {
        Check.sentence("or x is reached from y by going to the PARENT");
        ThreadedArchive x = Check.archiveOf("r:2");
        Check.message(x, "i:2", "r:1");
        dueRoots("two messages", x, 1, 2, 2, 2);
        Check.due("answers(0)", x.answers(0), 1);
        Check.due("answers(1)", x.answers(1), ThreadedArchive.NONE);
        dueRoots("its own ID among the references", Check.archiveOf("r:1 5"), 1, 1, 5, 1);
        dueRoots("its own ID as the last of two", Check.archiveOf("r:5 1"), 1, 5, 5, 5);
    }

    private static void ringOfMany() {
        Check.sentence("by going to the PARENT again and again");
        for (int length = 2; length <= 12; length++) {
            ThreadedArchive x = new ThreadedArchive();
            for (int n = 1; n <= length; n++) {
                Check.message(x, "i:" + n, "r:" + (n == length ? 1 : n + 1));
            }
            for (int n = 1; n <= length; n++) {
                Check.due("ring of " + length + ": root(" + n + ")", x.root(n), length);
            }
        }
        ThreadedArchive x = Check.archiveOf("r:5 6 7 8");
        Check.message(x, "i:5", "r:1");
        dueRoots("from the first reference to the message", x, 5, 5, 1, 5);
        Check.message(x, "i:9", "r:8 5");
        dueRoots("from the first reference to the last", x, 5, 5, 8, 5, 9, 5);
    }

    private static void ringKeepsTheParentThatWasThere() {
        Check.sentence("(in place of any other), if that makes no RING");
        ThreadedArchive x = Check.archiveOf("r:5 6 7");
        Check.message(x, "i:6", "r:1");
        dueRoots("6 stays with 5", x, 6, 5, 7, 5, 1, 5);
        Check.message(x, "i:7", "r:7");
        dueRoots("7 stays with 6", x, 7, 5);
    }

    private static void ringAmongReferences() {
        Check.sentence("each if it has none yet and that makes no RING");
        dueRoots("to and fro", Check.archiveOf("r:5 6 5"), 5, 5, 6, 5, 1, 5);
        dueRoots("to and fro again", Check.archiveOf("r:5 6 5 6"), 5, 5, 6, 5, 1, 5);
        dueRoots("three in a ring", Check.archiveOf("r:5 6 7 5"), 5, 5, 6, 5, 7, 5, 1, 5);
        ThreadedArchive x = Check.archiveOf("r:5 6 5 7");
        dueRoots("what stands behind a ring", x, 7, 5, 1, 5);
        Check.message(x, "i:2", "r:6 5 8");
        dueRoots("a ring with what was there", x, 5, 5, 8, 5, 2, 5);
    }

    /** A RING counts with the PARENTS of that moment: the later change of 6 does not bring 5 its PARENT. */
    private static void ringIsLookedForAtOnce() {
        Check.sentence("each if it has none yet and that makes no RING; then");
        ThreadedArchive x = Check.archiveOf("r:5 6");
        Check.message(x, "i:2", "r:6 5");
        Check.message(x, "i:6", "r:9");
        dueRoots("5 has none", x, 5, 5, 6, 9, 2, 5);
        x.drop(0);
        dueRoots("without the first one 5 goes to 6", x, 5, 9, 6, 9, 2, 9);
    }

    private static void orderOfAdding() {
        Check.sentence("the messages that are there are gone through in the order in which they were added");
        ThreadedArchive x = Check.archiveOf();
        Check.message(x, "i:2", "r:10 20");
        x.drop(0);
        Check.due("number given again", Check.message(x, "i:3", "r:30 20"), 0);
        dueRoots("the one added first", x, 20, 10);
        x.drop(1);
        dueRoots("the one that is left", x, 20, 30);
        Check.due("number given again", Check.message(x, "i:2", "r:10 20"), 1);
        dueRoots("the one added first now", x, 20, 30);
        x = Check.archiveOf("r:3");
        Check.message(x, "i:2", "r:1");
        Check.message(x, "i:3", "r:2");
        dueRoots("the last one would make a ring", x, 1, 3, 2, 3, 3, 3);
        x.drop(0);
        Check.message(x, "i:1", "r:3");
        dueRoots("the other one is the last now", x, 3, 1, 2, 1, 1, 1);
    }

    private static void rootIsReachedAsLongAsThereIsOne() {
        Check.sentence("The ROOT of an ID is reached by going to the PARENT as long as there is one");
        ThreadedArchive x = Check.archiveOf("r:5");
        dueRoots("once", x, 1, 5, 5, 5);
        Check.message(x, "i:5", "r:6");
        dueRoots("twice", x, 1, 6, 5, 6, 6, 6);
        Check.message(x, "i:6", "r:0");
        dueRoots("three times", x, 1, 0, 5, 0, 6, 0, 0, 0);
        x.drop(1);
        dueRoots("once again", x, 1, 5, 6, 0);
    }

    /** 12 messages with 4 REFERENCES each make a chain of 48 steps at most. */
    private static void longestChain() {
        Check.sentence("as long as there is one");
        ThreadedArchive x = new ThreadedArchive();
        for (int n = 11; n >= 0; n--) {
            int id = 4 * n + 19;
            Check.message(x, "i:" + id, "r:" + (id - 4) + " " + (id - 3) + " " + (id - 2) + " " + (id - 1));
        }
        for (int id = 15; id <= 63; id++) {
            Check.due("root(" + id + ")", x.root(id), 15);
        }
        Check.due("roots", x.count(4), 1);
        Check.due("answers of the last one", x.answers(11), ThreadedArchive.NONE);
        Check.due("answers of the first one", x.answers(0), 1);
    }

    private static void rootOutOfRange() {
        Check.sentence("The ROOT of an ID 0 .. 63; REFUSED out of range");
        ThreadedArchive x = Check.archiveOf("r:63 0");
        int[] wrong = {-1, 64, 65, 127, 128, -64, Integer.MIN_VALUE, Integer.MAX_VALUE};
        for (int id : wrong) {
            Check.due("root(" + id + ")", x.root(id), ThreadedArchive.REFUSED);
        }
        dueRoots("both ends", x, 0, 63, 63, 63, 1, 63);
    }

    private static void answersTheFirstWithAMessage() {
        Check.sentence("the first ID with a message that is reached from its own ID by going to the PARENT once"
                + " or more");
        ThreadedArchive x = Check.archiveOf("r:5 6 7 8");
        Check.message(x, "i:5");
        Check.due("the fourth one", x.answers(0), 1);
        Check.message(x, "i:6");
        Check.due("the third one", x.answers(0), 2);
        Check.message(x, "i:7");
        Check.due("the second one", x.answers(0), 3);
        Check.message(x, "i:8");
        Check.due("the first one", x.answers(0), 4);
        Check.due("answers(4)", x.answers(4), 3);
        Check.due("answers(3)", x.answers(3), 2);
        Check.due("answers(2)", x.answers(2), 1);
        Check.due("answers(1)", x.answers(1), ThreadedArchive.NONE);
        x.drop(3);
        Check.due("answers(4) without the one between", x.answers(4), 2);
        Check.due("answers(0) without it", x.answers(0), 4);
    }

    private static void answersByIdsWithoutMessages() {
        Check.sentence("the first ID with a message that is reached");
        ThreadedArchive x = Check.archiveOf("r:5 0 63");
        Check.due("no message yet", x.answers(0), ThreadedArchive.NONE);
        Check.message(x, "i:5");
        Check.due("by 63 and 0", x.answers(0), 1);
        Check.message(x, "i:0");
        Check.due("by 63", x.answers(0), 2);
        Check.due("answers of 0", x.answers(2), 1);
        Check.message(x, "i:63");
        Check.due("at once", x.answers(0), 3);
        Check.due("answers of 63", x.answers(3), 2);
    }

    private static void answersNone() {
        Check.sentence("NONE if it answers none");
        Check.due("no references", Check.archiveOf().answers(0), ThreadedArchive.NONE);
        Check.due("itself", Check.archiveOf("r:1").answers(0), ThreadedArchive.NONE);
        Check.due("no message", Check.archiveOf("r:2").answers(0), ThreadedArchive.NONE);
        Check.due("no messages", Check.archiveOf("r:2 3 4 5").answers(0), ThreadedArchive.NONE);
        ThreadedArchive x = Check.archiveOf("r:0");
        Check.message(x, "i:0");
        Check.due("the message with ID 0", x.answers(0), 1);
        x.drop(1);
        Check.due("ID 0 without its message", x.answers(0), ThreadedArchive.NONE);
    }

    private static void answersOfNoSuchMessage() {
        Check.sentence("REFUSED if there is no such message");
        Check.due("answers(0) of a new object", new ThreadedArchive().answers(0), ThreadedArchive.REFUSED);
        ThreadedArchive x = Check.archiveOf("r:2");
        int[] wrong = {-1, 1, 2, 11, 12, 63, Integer.MIN_VALUE, Integer.MAX_VALUE};
        for (int number : wrong) {
            Check.due("answers(" + number + ")", x.answers(number), ThreadedArchive.REFUSED);
        }
        x.drop(0);
        Check.due("answers of a dropped one", x.answers(0), ThreadedArchive.REFUSED);
    }
}
