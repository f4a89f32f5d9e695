/** What the tests share: short ways to type, and the tally of wrong answers. */
final class Check {
    /** Far above what any test takes: every call of the program must end. */
    private static final long LONGEST_TEST_MILLIS = 300_000;

    private static int wrong = 0;
    private static String sentence = "";

    static {
        Thread watch = new Thread(Check::endLateTest);
        watch.setDaemon(true);
        watch.start();
    }

    private Check() {
    }

    private static void endLateTest() {
        try {
            Thread.sleep(LONGEST_TEST_MILLIS);
        } catch (InterruptedException e) {
            return;
        }
        System.out.println(sentence + "a call does not end");
        Runtime.getRuntime().halt(1);
    }

    /** The sentence of the document that the checks from here on are about; it is told with each wrong answer. */
    static void sentence(String words) {
        sentence = "\"" + words + "\": ";
    }

    static void due(String what, long got, long want) {
        if (got != want) {
            wrong++;
            System.out.println(sentence + what + " answered " + got + ", due is " + want);
        }
    }

    static void due(String what, boolean holds) {
        due(what, holds ? 1 : 0, 1);
    }

    /** To be called last by every main method. */
    static void end() {
        if (wrong != 0) {
            System.out.println(wrong + " answers are not as due");
            System.exit(1);
        }
    }

    static void type(ThreadedArchive x, String text) {
        for (int i = 0; i < text.length(); i++) {
            x.type(text.charAt(i));
        }
    }

    static void line(ThreadedArchive x, String text) {
        type(x, text);
        x.enter();
    }

    static int message(ThreadedArchive x, String... lines) {
        for (String line : lines) {
            line(x, line);
        }
        return x.add();
    }

    /** Enters empty lines until there are this many. */
    static void emptyLines(ThreadedArchive x, int lines) {
        for (int n = x.count(2); n < lines; n++) {
            x.enter();
        }
    }

    /** An archive with messages 0 .. number - 1, whose IDs are their numbers. */
    static ThreadedArchive archiveOfMany(int number) {
        ThreadedArchive x = new ThreadedArchive();
        for (int n = 0; n < number; n++) {
            due("add of message " + n, message(x, "i:" + n), n);
        }
        return x;
    }

    static int search(ThreadedArchive x, String query) {
        type(x, query);
        return x.search();
    }

    /** An archive with one message of number 0 and ID 1. */
    static ThreadedArchive archiveOf(String... linesBehindTheId) {
        ThreadedArchive x = new ThreadedArchive();
        line(x, "i:1");
        due("add of the one message", message(x, linesBehindTheId), 0);
        return x;
    }

    static long code(String smallLetters) {
        long code = 0;
        for (int i = 0; i < smallLetters.length(); i++) {
            code = 32 * code + (smallLetters.charAt(i) - 'a' + 1);
        }
        return code;
    }

    /** The message has these WORDS and no more; each is given as field digit and letters, as "0hello". */
    static void dueWords(String what, ThreadedArchive x, int message, String... words) {
        for (int k = 0; k < words.length; k++) {
            due(what + ": word " + k, x.word(message, k), code(words[k].substring(1)));
            due(what + ": field " + k, x.field(message, k), words[k].charAt(0) - '0');
        }
        due(what + ": word behind the last", x.word(message, words.length), ThreadedArchive.REFUSED);
        due(what + ": field behind the last", x.field(message, words.length), ThreadedArchive.REFUSED);
    }

    /** The FOUND messages are these and no more. */
    static void dueHits(String what, ThreadedArchive x, int... numbers) {
        due(what + ": count(3)", x.count(3), numbers.length);
        for (int k = 0; k < numbers.length; k++) {
            due(what + ": hit " + k, x.hit(k), numbers[k]);
        }
        due(what + ": hit behind the last", x.hit(numbers.length), ThreadedArchive.NONE);
    }

    static void dueRelated(String what, ThreadedArchive x, int... numbers) {
        for (int k = 0; k < numbers.length; k++) {
            due(what + ": related " + k, x.related(k), numbers[k]);
        }
        due(what + ": related behind the last", x.related(numbers.length), ThreadedArchive.NONE);
    }
}
