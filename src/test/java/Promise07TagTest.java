public final class Promise07TagTest {
    public static void main(String[] args) {
        ThreadedArchive x = Check.archiveOf();
        Check.message(x, "i:2");
        for (int tag = 0; tag < 8; tag++) {
            Check.due("no tag " + tag + " at first", Check.search(x, "t:" + tag), 0);
        }
        for (int tag = 0; tag < 8; tag++) {
            Check.due("tag " + tag, x.tag(1, tag, true), ThreadedArchive.OK);
            for (int other = 0; other < 8; other++) {
                Check.due("tag " + other + " with " + tag, Check.search(x, "t:" + other), other == tag ? 1 : 0);
            }
            Check.due("tag again", x.tag(1, tag, true), ThreadedArchive.OK);
            Check.search(x, "t:" + tag);
            Check.dueHits("tag " + tag, x, 1);
            Check.due("tag off", x.tag(1, tag, false), ThreadedArchive.OK);
            Check.due("tag off again", x.tag(1, tag, false), ThreadedArchive.OK);
            Check.due("search behind tag off", Check.search(x, "t:" + tag), 0);
        }
        offLeavesTheOthers();
        refusesWrongArguments();
        Check.end();
    }

    private static void offLeavesTheOthers() {
        ThreadedArchive x = Check.archiveOf();
        x.tag(0, 0, true);
        x.tag(0, 7, true);
        x.tag(0, 3, true);
        x.tag(0, 3, false);
        Check.due("the other tags stay", Check.search(x, "t:0&t:7&!t:3"), 1);
    }

    private static void refusesWrongArguments() {
        ThreadedArchive x = Check.archiveOf();
        int[] tags = {-1, 8, 32, 33, Integer.MIN_VALUE, Integer.MAX_VALUE};
        for (int tag : tags) {
            Check.due("tag(0, " + tag + ")", x.tag(0, tag, true), ThreadedArchive.REFUSED);
            Check.due("tag(0, " + tag + ") off", x.tag(0, tag, false), ThreadedArchive.REFUSED);
        }
        int[] messages = {-1, 1, 11, 12, Integer.MIN_VALUE, Integer.MAX_VALUE};
        for (int message : messages) {
            Check.due("tag(" + message + ", 0)", x.tag(message, 0, true), ThreadedArchive.REFUSED);
        }
        for (int tag = 0; tag < 8; tag++) {
            Check.due("refused ones set no tag " + tag, Check.search(x, "t:" + tag), 0);
        }
    }
}
