public final class Promise13AnswersTest {
    public static void main(String[] args) {
        ThreadedArchive x = new ThreadedArchive();
        Check.message(x, "i:1");
        Check.message(x, "i:2", "r:1");
        Check.message(x, "i:3", "r:1 2");
        Check.message(x, "i:4", "r:2 40");
        Check.message(x, "i:5", "r:41 42 43 44");
        Check.due("answers(0)", x.answers(0), ThreadedArchive.NONE);
        Check.due("answers(1)", x.answers(1), 0);
        Check.due("answers(2)", x.answers(2), 1);
        Check.due("answers(3), an ID without a message between", x.answers(3), 1);
        Check.due("answers(4), no ID with a message", x.answers(4), ThreadedArchive.NONE);
        Check.message(x, "i:41");
        Check.due("answers(4), the farthest one", x.answers(4), 5);
        Check.message(x, "i:43");
        Check.due("answers(4), a nearer one", x.answers(4), 6);
        Check.due("answers(6)", x.answers(6), 5);
        int[] unknown = {-1, 7, 11, 12, Integer.MIN_VALUE, Integer.MAX_VALUE};
        for (int number : unknown) {
            Check.due("answers(" + number + ")", x.answers(number), ThreadedArchive.REFUSED);
        }
        x.drop(1);
        Check.due("answers(1) behind drop", x.answers(1), ThreadedArchive.REFUSED);
        Check.due("answers(2) without the one between", x.answers(2), 0);
        Check.due("answers(3) without the one between", x.answers(3), 0);
        x.drop(0);
        Check.due("answers(2) without any", x.answers(2), ThreadedArchive.NONE);
        selfIsNoAnswer();
        Check.end();
    }

    private static void selfIsNoAnswer() {
        ThreadedArchive x = Check.archiveOf("r:1");
        Check.due("a message that refers to itself", x.answers(0), ThreadedArchive.NONE);
        x = Check.archiveOf("r:0");
        Check.due("ID 0 without a message", x.answers(0), ThreadedArchive.NONE);
        Check.message(x, "i:0");
        Check.due("ID 0 with a message", x.answers(0), 1);
        x = Check.archiveOf();
        Check.message(x, "i:0", "r:1");
        Check.due("a message with ID 0", x.answers(1), 0);
        Check.message(x, "i:63", "r:0");
        x.drop(1);
        Check.message(x, "i:9", "r:1 0");
        Check.due("by ID 0 without a message", x.answers(2), 0);
    }
}
