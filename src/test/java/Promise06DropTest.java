public final class Promise06DropTest {
    public static void main(String[] args) {
        forgetsTheMessage();
        refusesUnknownNumbers();
        undoesTheThreads();
        keepsTheOrderOfAdding();
        Check.end();
    }

    private static void forgetsTheMessage() {
        ThreadedArchive x = Check.archiveOf("s:hello world", "", "text");
        Check.message(x, "i:2", "s:hello");
        x.tag(0, 0, true);
        Check.due("drop", x.drop(0), ThreadedArchive.OK);
        Check.due("messages", x.count(0), 1);
        Check.due("codes", x.count(5), 1);
        Check.due("idOf", x.idOf(0), ThreadedArchive.REFUSED);
        Check.due("answers", x.answers(0), ThreadedArchive.REFUSED);
        Check.due("word", x.word(0, 0), ThreadedArchive.REFUSED);
        Check.due("field", x.field(0, 0), ThreadedArchive.REFUSED);
        Check.due("leaves", x.count(6), ThreadedArchive.REFUSED);
        Check.due("tag", x.tag(0, 0, true), ThreadedArchive.REFUSED);
        Check.due("search", Check.search(x, "hello"), 1);
        Check.dueHits("search", x, 1);
        Check.due("search of tags", Check.search(x, "t:0"), 0);
        Check.due("search of not", Check.search(x, "!hello"), 0);
        Check.due("drop again", x.drop(0), ThreadedArchive.REFUSED);
        Check.due("the ID is free", Check.message(x, "i:1"), 0);
    }

    private static void refusesUnknownNumbers() {
        ThreadedArchive x = Check.archiveOf();
        int[] unknown = {-1, 1, 11, 12, Integer.MIN_VALUE, Integer.MAX_VALUE};
        for (int number : unknown) {
            Check.due("drop(" + number + ")", x.drop(number), ThreadedArchive.REFUSED);
        }
        Check.due("messages", x.count(0), 1);
    }

    private static void undoesTheThreads() {
        ThreadedArchive x = new ThreadedArchive();
        Check.message(x, "i:1", "r:5 6");
        Check.message(x, "i:2", "r:7 6");
        Check.message(x, "i:6", "r:1");
        Check.due("6 answers 1, but that makes a ring", x.root(6), 5);
        x.drop(0);
        Check.due("without the first one 6 goes to 1", x.root(6), 1);
        Check.due("2 goes to 6 and then to 1", x.root(2), 1);
        x.drop(2);
        Check.due("without the third one 6 goes to 7", x.root(6), 7);
        x.drop(1);
        for (int id = 0; id < 64; id++) {
            Check.due("no messages: root(" + id + ")", x.root(id), id);
        }
        Check.due("no messages: roots", x.count(4), 0);
    }

    /** The message that got the freed number 0 counts as the last one. */
    private static void keepsTheOrderOfAdding() {
        ThreadedArchive x = new ThreadedArchive();
        Check.message(x, "i:1");
        Check.message(x, "i:2", "r:10 20");
        x.drop(0);
        Check.due("number given again", Check.message(x, "i:3", "r:30 20"), 0);
        Check.due("the first one added binds 20", x.root(20), 10);
        x.drop(1);
        Check.due("then the other one binds 20", x.root(20), 30);
        Check.message(x, "i:2", "r:10 20");
        Check.due("the number does not count", x.root(20), 30);
    }
}
