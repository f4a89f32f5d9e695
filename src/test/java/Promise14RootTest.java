public final class Promise14RootTest {
    public static void main(String[] args) {
        refusesOutOfRange();
        bindsReferences();
        keepsParentsOfReferences();
        replacesTheParentOfTheId();
        makesNoRing();
        goesThroughLongChains();
        Check.end();
    }

    private static void refusesOutOfRange() {
        ThreadedArchive x = Check.archiveOf("r:63");
        int[] wrong = {-1, 64, 65, Integer.MIN_VALUE, Integer.MAX_VALUE};
        for (int id : wrong) {
            Check.due("root(" + id + ")", x.root(id), ThreadedArchive.REFUSED);
        }
        Check.due("root(0)", x.root(0), 0);
        Check.due("root(63)", x.root(63), 63);
        Check.due("root(1)", x.root(1), 63);
    }

    private static void bindsReferences() {
        ThreadedArchive x = Check.archiveOf("r:10 11 12 13");
        for (int id = 10; id <= 13; id++) {
            Check.due("root(" + id + ")", x.root(id), 10);
        }
        Check.due("root(1)", x.root(1), 10);
        Check.message(x, "i:2", "r:9 10");
        Check.due("the root itself gets a parent", x.root(13), 9);
    }

    private static void keepsParentsOfReferences() {
        ThreadedArchive x = Check.archiveOf("r:10 11");
        Check.message(x, "i:2", "r:20 11");
        Check.due("11 keeps its parent", x.root(11), 10);
        Check.due("2 goes by 11", x.root(2), 10);
        Check.due("20 is alone", x.root(20), 20);
    }

    private static void replacesTheParentOfTheId() {
        ThreadedArchive x = Check.archiveOf("r:10 11");
        Check.message(x, "i:11", "r:20");
        Check.due("11 has another parent", x.root(11), 20);
        Check.due("1 goes by 11", x.root(1), 20);
        Check.message(x, "i:30", "r:5 20 11");
        Check.due("20 gets a parent, 11 keeps its own", x.root(30), 5);
        x.drop(1);
        Check.due("without its message 11 goes to 10", x.root(11), 10);
    }

    private static void makesNoRing() {
        ThreadedArchive x = Check.archiveOf("r:1");
        Check.due("to itself", x.root(1), 1);
        x = Check.archiveOf("r:2 1");
        Check.due("1 is bound to 2 as a reference, not to itself", x.root(1), 2);
        x = Check.archiveOf("r:1 2");
        Check.due("1 to 2 would be a ring", x.root(2), 1);
        Check.due("1 stays", x.root(1), 1);
        x = Check.archiveOf("r:5 6 5");
        Check.due("5 to 6 would be a ring", x.root(5), 5);
        Check.due("6 is bound", x.root(6), 5);
        Check.due("1 is bound to the last one", x.root(1), 5);
        x = Check.archiveOf("r:5 6 7");
        Check.message(x, "i:5", "r:1");
        Check.due("a ring of four", x.root(5), 5);
        Check.message(x, "i:6", "r:1");
        Check.due("a ring keeps the parent that was there", x.root(6), 5);
        Check.message(x, "i:8", "r:7 5");
        Check.due("a ring by references", x.root(5), 5);
        Check.due("8 is bound all the same", x.root(8), 5);
        x = Check.archiveOf("r:9 9 9");
        Check.due("the same one again", x.root(1), 9);
        Check.due("the same one itself", x.root(9), 9);
    }

    /** 48 steps: no longer chain can be made of 12 messages with 4 REFERENCES each. */
    private static void goesThroughLongChains() {
        ThreadedArchive x = new ThreadedArchive();
        for (int n = 0; n < 12; n++) {
            int last = 4 * n + 4;
            Check.message(x, "i:" + last, "r:" + (last - 4) + " " + (last - 3) + " " + (last - 2) + " " + (last - 1));
        }
        Check.due("root(48)", x.root(48), 0);
        Check.due("roots", x.count(4), 1);
        for (int n = 0; n < 12; n++) {
            Check.due("answers(" + n + ")", x.answers(n), n == 0 ? ThreadedArchive.NONE : n - 1);
        }
    }
}
