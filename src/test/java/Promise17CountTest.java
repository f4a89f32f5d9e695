public final class Promise17CountTest {
    public static void main(String[] args) {
        countsWhatIsThere();
        countsRoots();
        countsCodes();
        countsLeaves();
        countsNestedLeaves();
        stopsAtDepthFour();
        takesFullDrafts();
        refusesWrongQuestions();
        Check.end();
    }

    private static void countsWhatIsThere() {
        ThreadedArchive x = new ThreadedArchive();
        for (int n = 1; n <= 12; n++) {
            Check.message(x, "i:" + n, "s:a");
            Check.due("messages", x.count(0), n);
        }
        Check.line(x, "i:1");
        Check.line(x, "");
        Check.type(x, "abc");
        Check.due("characters", x.count(1), 3);
        Check.due("lines", x.count(2), 2);
        Check.due("found before any search", x.count(3), 0);
        x.wipe();
        Check.search(x, "a");
        Check.due("found", x.count(3), 12);
        x.drop(5);
        Check.due("found, with one dropped", x.count(3), 12);
        Check.due("messages, with one dropped", x.count(0), 11);
    }

    private static void countsRoots() {
        ThreadedArchive x = Check.archiveOf();
        Check.due("one message", x.count(4), 1);
        Check.message(x, "i:2", "r:1");
        Check.due("an answer", x.count(4), 1);
        Check.message(x, "i:3", "r:50");
        Check.due("a root without a message", x.count(4), 2);
        Check.message(x, "i:4", "r:50 51");
        Check.due("the same root", x.count(4), 2);
        Check.message(x, "i:63");
        Check.due("one more", x.count(4), 3);
        Check.message(x, "i:50", "r:63");
        Check.due("two become one", x.count(4), 2);
    }

    private static void countsCodes() {
        ThreadedArchive x = Check.archiveOf("s:a b a", "f:b c", "", "c d A");
        Check.due("codes of one message", x.count(5), 4);
        Check.message(x, "i:2", "s:d e a e");
        Check.due("codes of two messages", x.count(5), 5);
        Check.message(x, "i:3", "s:abcdefghijklm abcdefghijkln");
        Check.due("long words are alike", x.count(5), 6);
        x.drop(0);
        Check.due("codes without the first message", x.count(5), 4);
        x.drop(2);
        Check.due("codes without the last message", x.count(5), 3);
    }

    private static void dueLeaves(String what, int leaves, String... lines) {
        ThreadedArchive x = Check.archiveOf(lines);
        Check.due(what, x.count(6), leaves);
    }

    private static void countsLeaves() {
        dueLeaves("no body", 1);
        dueLeaves("a body", 1, "", "text");
        dueLeaves("multi without an empty line", 0, "m:x");
        dueLeaves("multi without a body", 0, "m:x", "");
        dueLeaves("multi without cuts", 0, "m:x", "", "a", "-y", "b");
        dueLeaves("one cut", 1, "m:x", "", "-x");
        dueLeaves("two cuts", 2, "m:x", "", "-x", "-x");
        dueLeaves("two cuts and an end", 2, "m:x", "", "a", "-x", "-x", "-x.");
        dueLeaves("cuts behind the end", 1, "m:x", "", "-x", "-x.", "-x", "-x");
        dueLeaves("the end first", 0, "m:x", "", "-x.", "-x", "a");
        dueLeaves("cuts that are none", 1, "m:x", "", "-x", "-x ", " -x", "-xx", "-X", "--x", "-", "x-", "-x..", "+x.");
        dueLeaves("cuts among the headers", 0, "m:x", "-x", "-x", "");
        dueLeaves("m of two characters", 1, "m:xy", "", "-x", "-x");
        dueLeaves("m of none", 1, "m:", "", "-", "-");
        dueLeaves("the last m counts", 2, "m:y", "m:x", "", "-x", "-y", "-x");
        dueLeaves("the last m is too long", 1, "m:x", "m:xx", "", "-x", "-x");
        dueLeaves("m in the body", 1, "", "m:x", "-x", "-x");
        dueLeaves("other keys", 1, "M:x", "", "-x", "-x");
        dueLeaves("the boundary .", 2, "m:.", "", "-.", "-.", "-..", "-.");
        dueLeaves("the boundary -", 2, "m:-", "", "--", "--", "--.", "--");
        dueLeaves("the boundary :", 2, "m::", "", "-:", "-:", "-:.", "-:");
        dueLeaves("the boundary blank", 2, "m: ", "", "- ", "- ");
        ThreadedArchive first = new ThreadedArchive();
        Check.message(first, "m:x", "i:1", "", "-x", "-x");
        Check.due("m in the first line", first.count(6), 2);
        ThreadedArchive x = Check.archiveOf("m:x", "e:h", "", "before", "-x", "no header", "", "61", "-x", "e:h", "",
                "61", "-x", "gone", "-x", "", "-x.x", "last", "-x.", "behind", "-x", "", "behind");
        Check.due("five parts", x.count(6), 4);
        Check.dueWords("five parts", x, 0, "2a", "2x", "2x", "2last");
    }

    private static void countsNestedLeaves() {
        ThreadedArchive x = Check.archiveOf("m:x", "", "-x", "m:y", "s:no", "f:no", "i:9", "", "pre", "-y", "", "one",
                "-y", "m:z", "", "-z", "", "two", "-z.", "three", "-x", "", "four", "-y", "-y.", "five");
        Check.due("nested parts", x.count(6), 3);
        Check.dueWords("nested parts", x, 0, "2one", "2two", "2four", "2y", "2y", "2five");
        Check.due("id of the whole", x.idOf(0), 1);
        dueLeaves("the outer cuts come first", 1, "m:x", "", "-x", "m:x", "", "a", "-x", "b");
        x = Check.archiveOf("m:x", "", "-x", "m:y", "", "-y", "", "a", "-x.", "-y", "", "b");
        Check.due("the outer end ends all", x.count(6), 1);
        Check.dueWords("the outer end ends all", x, 0, "2a");
        x = Check.archiveOf("m:x", "", "-x", "m:y", "", "-y", "", "a", "-y.", "-y", "", "b", "-x", "", "c");
        Check.due("the inner end ends the inner ones", x.count(6), 2);
        Check.dueWords("the inner end ends the inner ones", x, 0, "2a", "2c");
    }

    private static void stopsAtDepthFour() {
        ThreadedArchive x = Check.archiveOf("m:a", "", "-a", "m:b", "", "-b", "m:c", "", "-c", "m:d", "", "-d", "", "q",
                "-d", "p", "-c", "m:d", "e:h", "", "-d", "62");
        Check.due("depth four is no multi", x.count(6), 2);
        Check.dueWords("depth four is no multi", x, 0, "2d", "2q", "2d", "2p", "2b");
    }

    private static void takesFullDrafts() {
        ThreadedArchive x = new ThreadedArchive();
        for (int n = 0; n < 30; n++) {
            Check.line(x, n == 29 ? "i:1" : "a");
        }
        Check.due("30 lines without an empty one", x.add(), 0);
        Check.due("its leaves", x.count(6), 1);
        x = new ThreadedArchive();
        Check.line(x, "i:1");
        Check.line(x, "m:x");
        Check.line(x, "");
        for (int n = 3; n < 30; n++) {
            Check.line(x, "-x");
        }
        Check.due("27 cuts", x.add(), 0);
        Check.due("27 leaves", x.count(6), 27);
    }

    private static void refusesWrongQuestions() {
        ThreadedArchive x = Check.archiveOf();
        Check.message(x, "i:2", "m:x", "", "-x", "-x", "-x");
        Check.due("count(6)", x.count(6), 1);
        Check.due("count(7)", x.count(7), 3);
        int[] wrong = {-1, 8, 17, 18, 19, Integer.MIN_VALUE, Integer.MIN_VALUE + 5, Integer.MAX_VALUE};
        for (int what : wrong) {
            Check.due("count(" + what + ")", x.count(what), ThreadedArchive.REFUSED);
        }
        for (int n = 2; n < 12; n++) {
            Check.message(x, "i:" + (n + 20), "m:x", "", "-x", "-x");
            Check.due("count(" + (n + 6) + ")", x.count(n + 6), 2);
        }
        x.drop(11);
        Check.due("count(17) behind drop", x.count(17), ThreadedArchive.REFUSED);
    }
}
