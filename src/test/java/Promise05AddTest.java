public final class Promise05AddTest {
    public static void main(String[] args) {
        takesIds();
        refusesBadIds();
        emptiesTheDraft();
        ordersTheRefusals();
        givesTheLeastFreeNumber();
        takesReferences();
        leavesOutWrongReferences();
        Check.end();
    }

    private static void takesIds() {
        dueId("i:0", 0);
        dueId("i:9", 9);
        dueId("i:10", 10);
        dueId("i:63", 63);
        dueId("i:00", 0);
        dueId("i:07", 7);
        dueId("no header", "i:5", 5);
        dueId("i:x", "i:5", 5);
        dueId("i:4", "i:5", 5);
        dueId("i:5", "", 5);
        dueId("i:5", "ii:6", 5);
        dueId("i:5", "I:6", 5);
        dueId("i:5", "i", 5);
        dueId("i:5", " i:6", 5);
    }

    private static void dueId(String line, int id) {
        ThreadedArchive x = new ThreadedArchive();
        Check.due("add of " + line, Check.message(x, line), 0);
        Check.due("idOf of " + line, x.idOf(0), id);
    }

    private static void dueId(String first, String second, int id) {
        ThreadedArchive x = new ThreadedArchive();
        Check.due("add of " + first + ", " + second, Check.message(x, first, second), 0);
        Check.due("idOf of " + first + ", " + second, x.idOf(0), id);
    }

    private static void refusesBadIds() {
        String[] bad = {"i:", "i:64", "i:99", "i:100", "i:001", "i: 1", "i:1 ", "i:1.", "i:-1", "i:+1", "i:a",
            "i:1a", "i:a1", "I:1", "i;1", "i1", "i", "", " i:1", "x:1", "i:/", "i::", "i:1/", "i:1:", "i:6:"};
        for (String line : bad) {
            ThreadedArchive x = new ThreadedArchive();
            Check.due("add of '" + line + "'", Check.message(x, line), ThreadedArchive.BAD);
            Check.due("messages behind '" + line + "'", x.count(0), 0);
        }
        ThreadedArchive x = new ThreadedArchive();
        Check.due("the last header i is wrong", Check.message(x, "i:5", "i:"), ThreadedArchive.BAD);
        Check.due("header i in the body", Check.message(x, "s:a", "", "i:5"), ThreadedArchive.BAD);
        Check.due("no lines", x.add(), ThreadedArchive.BAD);
        Check.due("add behind bad ones", Check.message(x, "i:5"), 0);
    }

    private static void emptiesTheDraft() {
        ThreadedArchive x = new ThreadedArchive();
        Check.line(x, "i:1");
        Check.type(x, "abc");
        Check.due("add", x.add(), 0);
        Check.due("draft behind add", x.count(2), 0);
        Check.due("line behind add", x.count(1), 3);
        x.wipe();
        Check.due("add of the same ID", Check.message(x, "i:1", "s:other"), ThreadedArchive.REFUSED);
        Check.due("draft behind refused add", x.count(2), 0);
        Check.due("the first message stays", x.word(0, 0), ThreadedArchive.REFUSED);
        Check.due("add of no ID", Check.message(x, "s:other"), ThreadedArchive.BAD);
        Check.due("draft behind bad add", x.count(2), 0);
    }

    private static void ordersTheRefusals() {
        ThreadedArchive x = new ThreadedArchive();
        for (int n = 0; n < 12; n++) {
            Check.due("add number " + n, Check.message(x, "i:" + (n + 20)), n);
        }
        Check.due("add at 12", Check.message(x, "i:40", "r:20"), ThreadedArchive.FULL);
        Check.due("draft behind full add", x.count(2), 0);
        Check.due("a full add joins nothing", x.root(40), 40);
        Check.due("add of a known ID at 12", Check.message(x, "i:31"), ThreadedArchive.REFUSED);
        Check.due("add of no ID at 12", Check.message(x, "i:64"), ThreadedArchive.BAD);
        Check.due("messages", x.count(0), 12);
    }

    private static void givesTheLeastFreeNumber() {
        ThreadedArchive x = new ThreadedArchive();
        for (int n = 0; n < 5; n++) {
            Check.message(x, "i:" + n, "s:old words", "", "body");
        }
        x.tag(1, 2, true);
        x.drop(3);
        x.drop(1);
        Check.due("add in the first gap", Check.message(x, "i:1", "s:new"), 1);
        Check.dueWords("message in a gap", x, 1, "0new");
        Check.due("leaves of the message in a gap", x.count(7), 1);
        Check.due("no tags at first", Check.search(x, "t:2"), 0);
        Check.due("add in the second gap", Check.message(x, "i:9"), 3);
        Check.due("add behind the last", Check.message(x, "i:3"), 5);
    }

    /** With REFERENCES a b c d the ROOTS of all are a. */
    private static void takesReferences() {
        dueRoots("r:5", 5, 5, 6, 7, 8);
        dueRoots("r:5 6", 5, 5, 5, 7, 8);
        dueRoots("r:05 06 07", 5, 5, 5, 5, 8);
        dueRoots("r:5 6 7 8", 5, 5, 5, 5, 5);
        dueRoots("r:63 0", 63, 5, 6, 7, 8);
        dueRoots("r:8 8", 8, 5, 6, 7, 8);
    }

    private static void leavesOutWrongReferences() {
        String[] wrong = {"r:", "r: 5", "r:5 ", "r:5  6", "r:5 6 7 8 9", "r:5 6 7 8 ", "r:64", "r:5 64", "r:5,6",
            "r:5 x", "r:x 5", "r:005", "r:5 006", "r:-5", "R:5", "r;5", "q:5", "r:5\t6", " r:5", "r:5 6 7 8 x"};
        for (String line : wrong) {
            dueRoots(line, 1, 5, 6, 7, 8);
        }
        ThreadedArchive x = Check.archiveOf("r:5", "r:6");
        Check.due("the last header r counts", x.root(1), 6);
        x = Check.archiveOf("r:5", "r:");
        Check.due("the last header r is wrong", x.root(1), 1);
        x = Check.archiveOf("", "r:5");
        Check.due("header r in the body", x.root(1), 1);
    }

    private static void dueRoots(String header, int rootOf1, int rootOf5, int rootOf6, int rootOf7, int rootOf8) {
        ThreadedArchive x = Check.archiveOf(header);
        Check.due(header + ": root(1)", x.root(1), rootOf1);
        Check.due(header + ": root(5)", x.root(5), rootOf5);
        Check.due(header + ": root(6)", x.root(6), rootOf6);
        Check.due(header + ": root(7)", x.root(7), rootOf7);
        Check.due(header + ": root(8)", x.root(8), rootOf8);
    }
}
