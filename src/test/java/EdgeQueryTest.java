/** The edges of QUERY and of search's errorAt: Terms and promises 8 and 9. */
public final class EdgeQueryTest {
    private static final String SMALL = "abcdefghijklmnopqrstuvwxyz";

    public static void main(String[] args) {
        whatBeginsAQuery();
        whatGoesOnBehindAWord();
        whatGoesOnBehindAStar();
        whatGoesOnBehindAColon();
        whatGoesOnBehindATag();
        whatGoesOnBehindBrackets();
        fieldsHaveOneLetter();
        fieldsStandOnce();
        tagsHaveOneDigit();
        lettersThatAreWords();
        unfinishedOnes();
        leastPlaceCounts();
        lineOfAnyLength();
        sixBrackets();
        seventhBracket();
        seventhBracketComesFirst();
        somethingElseComesFirst();
        bracketsThatAreClosed();
        beforeAnySearch();
        asTheLastSearchSetIt();
        whatIsAnswered();
        Check.end();
    }

    private static int errorIn(String query) {
        ThreadedArchive x = Check.archiveOf();
        int answer = Check.search(x, query);
        Check.due("search " + query + " and errorAt agree", (answer == ThreadedArchive.BAD) == (x.errorAt() >= 0));
        return x.errorAt();
    }

    private static void dueError(String query, int place) {
        Check.due("errorAt of " + query, errorIn(query), place);
    }

    private static void dueGood(String... queries) {
        for (String query : queries) {
            dueError(query, -1);
        }
    }

    /** Only these characters may stand behind what begins a QUERY. */
    private static void dueNext(String begin, String characters) {
        for (int c = 0; c < 256; c++) {
            int error = errorIn(begin + (char) c);
            boolean goesOn = characters.indexOf(c) >= 0;
            Check.due(begin + " and then character " + c, error == begin.length() ? 0 : 1, goesOn ? 1 : 0);
        }
    }

    private static void whatBeginsAQuery() {
        Check.sentence("a ONE is \"!\" ONE, or \"(\" QUERY \")\", or a TERM");
        dueNext("", SMALL + "!(");
        dueNext("!", SMALL + "!(");
        dueNext("!!", SMALL + "!(");
        dueNext("(", SMALL + "!(");
        dueNext("a&", SMALL + "!(");
        dueNext("a|", SMALL + "!(");
        dueNext("(a)&", SMALL + "!(");
    }

    private static void whatGoesOnBehindAWord() {
        Check.sentence("a TERM is word or word \"*\"");
        dueNext("a", SMALL + "*&|");
        dueNext("(a", SMALL + "*&|)");
        dueNext("s", SMALL + "*&|:");
        dueNext("f", SMALL + "*&|:");
        dueNext("b", SMALL + "*&|:");
        dueNext("t", SMALL + "*&|:");
        dueNext("!(t", SMALL + "*&|:)");
        dueNext("ss", SMALL + "*&|");
        dueNext("at", SMALL + "*&|");
        dueNext("s:s", SMALL + "*&|");
        dueNext("abcdefghijklm", SMALL + "*&|");
    }

    private static void whatGoesOnBehindAStar() {
        Check.sentence("Nothing else may stand in it, no blanks either");
        dueNext("a*", "&|");
        dueNext("s*", "&|");
        dueNext("(f:a*", "&|)");
    }

    private static void whatGoesOnBehindAColon() {
        Check.sentence("before which one of s: f: b: may stand");
        dueNext("s:", SMALL);
        dueNext("f:", SMALL);
        dueNext("b:", SMALL);
        dueNext("!b:", SMALL);
        dueNext("t:", "01234567");
    }

    private static void whatGoesOnBehindATag() {
        Check.sentence("or t: and one digit 0 .. 7");
        dueNext("t:0", "&|");
        dueNext("t:7", "&|");
        dueNext("(t:7", "&|)");
    }

    private static void whatGoesOnBehindBrackets() {
        Check.sentence("\"(\" QUERY \")\"");
        dueNext("(a)", "&|");
        dueNext("((a)", "&|)");
        dueNext("!(!a*)", "&|");
    }

    private static void fieldsHaveOneLetter() {
        Check.sentence("one of s: f: b:");
        for (char c = 'a'; c <= 'z'; c++) {
            boolean isField = "sfb".indexOf(c) >= 0;
            boolean isTag = c == 't';
            dueError(c + ":a", isField ? -1 : isTag ? 2 : 1);
            dueError(c + ":3", isTag ? -1 : isField ? 2 : 1);
            dueError("s" + c + ":a", 2);
            dueError(c + "s:a", 2);
        }
    }

    private static void fieldsStandOnce() {
        Check.sentence("before which one of s: f: b: may stand");
        dueError("s:s:a", 3);
        dueError("s:f:a", 3);
        dueError("b:t:3", 3);
        dueError("t:t:3", 2);
        dueError("t:s:a", 2);
        dueError("s:(a)", 2);
        dueError("s:!a", 2);
        dueError("s:*", 2);
        dueGood("s:a&f:a&b:a&t:0", "!s:a", "(s:a)|(s:a)");
    }

    private static void tagsHaveOneDigit() {
        Check.sentence("t: and one digit 0 .. 7");
        dueGood("t:0", "t:7", "!t:1", "(t:6)");
        dueError("t:8", 2);
        dueError("t:9", 2);
        dueError("t:-1", 2);
        dueError("t:00", 3);
        dueError("t:07", 3);
        dueError("t:0*", 3);
        dueError("t:", 2);
    }

    private static void lettersThatAreWords() {
        Check.sentence("(s, f, b, t are words themselves if no colon follows.)");
        String[] letters = {"s", "f", "b", "t"};
        for (String letter : letters) {
            ThreadedArchive x = Check.archiveOf("", letter);
            dueGood(letter, letter + "*", "s:" + letter, "(" + letter + ")", letter + "&" + letter);
            Check.due("search " + letter, Check.search(x, letter), 1);
            Check.due("search " + letter + "*", Check.search(x, letter + "*"), 1);
            Check.due("search b:" + letter, Check.search(x, "b:" + letter), 1);
            Check.due("search s:" + letter, Check.search(x, "s:" + letter), 0);
        }
    }

    private static void unfinishedOnes() {
        Check.sentence("or its length if there is no such k");
        String[] unfinished = {"", "!", "!!", "(", "(!", "((((((", "(a", "(a*", "(t:0", "((a)", "a&", "a|", "a&!", "s:",
            "f:", "b:", "t:", "a|s:", "(a|t:", "a*&", "(a)|"};
        for (String query : unfinished) {
            dueError(query, query.length());
        }
    }

    private static void leastPlaceCounts() {
        Check.sentence("errorAt is the least k such that its characters 0 .. k begin no QUERY");
        dueError(" ", 0);
        dueError(" a", 0);
        dueError("a ", 1);
        dueError("a b c", 1);
        dueError(")a)", 0);
        dueError("a)&(", 1);
        dueError("a&&|", 2);
        dueError("a&b|c A", 5);
        dueError("(a|b)) (", 5);
    }

    private static void lineOfAnyLength() {
        Check.sentence("begin no QUERY (of any length)");
        dueError("!".repeat(40), 40);
        dueError("!".repeat(39) + "(", 40);
        dueError("!".repeat(39) + "&", 39);
        dueError("!".repeat(38) + "s:", 40);
        dueError("!".repeat(33) + "((((((a", 40);
        dueGood("a".repeat(40), "!".repeat(39) + "a", "s:" + "a".repeat(38), "a".repeat(39) + "*");
    }

    private static void sixBrackets() {
        Check.sentence("More than 6 \"(\" are open at some place: BAD");
        for (int open = 1; open <= 6; open++) {
            dueGood("(".repeat(open) + "a" + ")".repeat(open));
            dueGood("!(".repeat(open) + "t:0" + ")".repeat(open));
            dueGood("a|" + "(".repeat(open) + "a" + ")".repeat(open) + "&a");
        }
        ThreadedArchive x = Check.archiveOf("s:a");
        Check.due("six", Check.search(x, "((((((a))))))"), 1);
        Check.due("six with not", Check.search(x, "!(!(!(!(!(!(a))))))"), 1);
        Check.due("six with one more not", Check.search(x, "!(!(!(!(!(!(!a))))))"), 0);
    }

    private static void seventhBracket() {
        Check.sentence("the place of the 7th being that k");
        dueError("(((((((a)))))))", 6);
        dueError("((((((((a))))))))", 6);
        dueError("(".repeat(40), 6);
        dueError("!(!(!(!(!(!(!(a", 13);
        dueError("a&(((((((a)))))))", 8);
        dueError("((((((a&(", 8);
    }

    private static void seventhBracketComesFirst() {
        Check.sentence("the place of the 7th being that k if it comes first");
        dueError("((((((( ", 6);
        dueError("(((((((", 6);
        dueError("(((((((a", 6);
        dueError("(((((((a)))))) )", 6);
    }

    private static void somethingElseComesFirst() {
        Check.sentence("the place of the 7th being that k if it comes first");
        dueError(" (((((((a)))))))", 0);
        dueError("(((((( (", 6);
        dueError("((((((a(", 7);
        dueError("((((((a)(((", 8);
        dueError("a b|(((((((a)))))))", 1);
    }

    private static void bracketsThatAreClosed() {
        Check.sentence("More than 6 \"(\" are open at some place");
        dueGood("(a)|(a)|(a)|(a)|(a)|(a)|(a)|(a)|(a)");
        dueGood("((((((a)))))&(a))|(a)", "((((((a)|(b)|(c))))))|((((((a))))))");
        dueError("((((((a)|(b)|((", 14);
        dueError("((((((a))))))|(((((((", 20);
        dueError("((((((a)))))&(((((((a", 18);
    }

    private static void beforeAnySearch() {
        Check.sentence("As the last search set it; -1 before");
        ThreadedArchive x = new ThreadedArchive();
        Check.due("errorAt of a new object", x.errorAt(), -1);
        Check.type(x, ")");
        x.enter();
        x.add();
        x.wipe();
        Check.due("errorAt behind other calls", x.errorAt(), -1);
    }

    private static void asTheLastSearchSetIt() {
        Check.sentence("As the last search set it");
        ThreadedArchive x = Check.archiveOf("s:a");
        Check.search(x, "a)");
        Check.due("errorAt", x.errorAt(), 1);
        Check.due("errorAt again", x.errorAt(), 1);
        Check.search(x, "aaaa)");
        Check.due("errorAt of the next one", x.errorAt(), 4);
        Check.type(x, "a");
        x.add();
        x.tag(0, 0, true);
        x.hit(0);
        Check.due("errorAt behind other calls", x.errorAt(), 4);
        Check.due("a good search", x.search(), 1);
        Check.due("errorAt behind a good search", x.errorAt(), -1);
        Check.due("an empty search", x.search(), ThreadedArchive.BAD);
        Check.due("errorAt behind an empty search", x.errorAt(), 0);
        Check.search(x, "zz");
        Check.due("errorAt behind a search that finds none", x.errorAt(), -1);
    }

    private static void whatIsAnswered() {
        Check.sentence("THE LINE is a QUERY, and is empty then, whatever is answered");
        ThreadedArchive x = Check.archiveOf("s:a");
        String[] queries = {"a", "zz", "a)", "(a", "(((((((a", ""};
        int[] answers = {1, 0, ThreadedArchive.BAD, ThreadedArchive.BAD, ThreadedArchive.BAD, ThreadedArchive.BAD};
        for (int i = 0; i < queries.length; i++) {
            Check.due("search " + queries[i], Check.search(x, queries[i]), answers[i]);
            Check.due("characters behind " + queries[i], x.count(1), 0);
            Check.due("type behind " + queries[i], x.type('a'), 1);
            Check.due("enter behind " + queries[i], x.enter(), i + 1);
        }
    }
}
