public final class Promise08SearchTest {
    public static void main(String[] args) {
        findsWords();
        findsFields();
        cutsLongWords();
        joinsAnswers();
        tellsWhereTheErrorIs();
        limitsTheOpenOnes();
        keepsWhatWasFound();
        forgetsBadOnes();
        emptiesTheLine();
        Check.end();
    }

    /** 0: ab abc (subject); 1: abc (sender) x (body); 2: b s t (body), tag 4; 3: no words, tag 4. */
    private static ThreadedArchive fourMessages() {
        ThreadedArchive x = new ThreadedArchive();
        Check.message(x, "i:1", "s:ab Abc");
        Check.message(x, "i:2", "f:abc", "", "x");
        Check.message(x, "i:3", "", "b s", "T");
        Check.message(x, "i:4");
        x.tag(2, 4, true);
        x.tag(3, 4, true);
        return x;
    }

    private static void dueFound(String query, int... numbers) {
        ThreadedArchive x = fourMessages();
        Check.due("search " + query, Check.search(x, query), numbers.length);
        Check.dueHits("search " + query, x, numbers);
        Check.due("errorAt of " + query, x.errorAt(), -1);
    }

    private static void findsWords() {
        dueFound("ab", 0);
        dueFound("abc", 0, 1);
        dueFound("abcd");
        dueFound("a");
        dueFound("a*", 0, 1);
        dueFound("ab*", 0, 1);
        dueFound("abc*", 0, 1);
        dueFound("abcd*");
        dueFound("b*", 2);
        dueFound("c*");
        dueFound("s", 2);
        dueFound("t", 2);
        dueFound("b", 2);
        dueFound("f");
        dueFound("s*", 2);
        dueFound("t*&b*", 2);
    }

    private static void findsFields() {
        dueFound("s:abc", 0);
        dueFound("f:abc", 1);
        dueFound("b:abc");
        dueFound("b:x", 1);
        dueFound("s:a*", 0);
        dueFound("f:a*", 1);
        dueFound("b:a*");
        dueFound("b:s", 2);
        dueFound("b:b&b:t", 2);
        dueFound("s:s");
        dueFound("s:ab&abc", 0);
        dueFound("s:ab|x", 0, 1);
        dueFound("(f:abc)&x", 1);
        dueFound("t:4", 2, 3);
        dueFound("t:0");
        dueFound("t:7");
    }

    private static void cutsLongWords() {
        ThreadedArchive x = Check.archiveOf("s:abcdefghijklmnop abcdefghijkx");
        Check.due("12 letters", Check.search(x, "abcdefghijkl"), 1);
        Check.due("11 letters", Check.search(x, "abcdefghijk"), 0);
        Check.due("11 letters and more", Check.search(x, "abcdefghijk*"), 1);
        Check.due("1 letter and more", Check.search(x, "a*"), 1);
        Check.due("13 letters", Check.search(x, "abcdefghijklz"), 1);
        Check.due("13 letters and more", Check.search(x, "abcdefghijklz*"), 1);
        Check.due("another 12th letter", Check.search(x, "abcdefghijkm"), 0);
        Check.due("38 letters in a field", Check.search(x, "s:abcdefghijkxyzyzyzyzyzyzyzyzyzyzyzyzyz"), 1);
        Check.due("39 letters and more", Check.search(x, "abcdefghijkxyzyzyzyzyzyzyzyzyzyzyzyzyzy*"), 1);
        Check.due("40 letters", Check.search(x, "abcdefghijkxyzyzyzyzyzyzyzyzyzyzyzyzyzyz"), 1);
    }

    private static void joinsAnswers() {
        dueFound("!ab", 1, 2, 3);
        dueFound("!!ab", 0);
        dueFound("!!!ab", 1, 2, 3);
        dueFound("ab|x", 0, 1);
        dueFound("abc&x", 1);
        dueFound("abc&!x", 0);
        dueFound("!abc&!x", 2, 3);
        dueFound("!abc|ab", 0, 2, 3);
        dueFound("ab|abc&x", 0, 1);
        dueFound("x&abc|ab", 0, 1);
        dueFound("x&(abc|ab)", 1);
        dueFound("(ab|abc)&x", 1);
        dueFound("ab|b|x", 0, 1, 2);
        dueFound("ab&abc&a*", 0);
        dueFound("b|ab&x|t:4", 2, 3);
        dueFound("!(ab|x)", 2, 3);
        dueFound("!(abc&x)", 0, 2, 3);
        dueFound("!(!ab)&!(b)", 0);
        dueFound("t:4&!b", 3);
        dueFound("!t:4", 0, 1);
        dueFound("((x))|(ab)", 0, 1);
        dueFound("!(x|!(ab|b)&t:4)", 0, 2);
        dueFound("(x|ab)&(b|ab)", 0);
        dueFound("zz|!zz", 0, 1, 2, 3);
        dueFound("zz&!zz");
    }

    private static void dueError(String query, int place) {
        ThreadedArchive x = fourMessages();
        Check.due("search " + query, Check.search(x, query), ThreadedArchive.BAD);
        Check.due("errorAt of " + query, x.errorAt(), place);
    }

    private static void tellsWhereTheErrorIs() {
        String[] unfinished = {"", "!", "!!", "(", "((", "(a", "(a*", "(a|", "a|", "a&", "a*&", "a|!", "s:", "f:",
            "b:", "t:", "(t:3", "!s:", "a&t:", "(a)|", "((a)", "((((((", "((((((a", "a|b&", "(s:"};
        for (String query : unfinished) {
            dueError(query, query.length());
        }
        String[] wrongAtTheEnd = {"A", " ", "1", "*", ":", ")", "&", "|", "-", "a b".substring(0, 2), "aB", "a1",
            "a:", "ab:", "ss:", "st:", "s::", "s:*", "s:!", "s:(", "s:3", "s:s:", "s:t:", "f:b:", "t:8", "t:a", "t::",
            "t:-", "t:3*", "t:34", "t:3a", "t:3:", "t:3(", "t:3!", "t:3)", "a**", "a*b", "a*:", "a*(", "a*!", "a)",
            "a!", "a(", "()", "(a))", "(a)a", "(a)*", "(a):", "(a)(", "(a)!", "!)", "!*", "!&", "!:", "a&&", "a||",
            "a|&", "a&|", "a&)", "(a|)", "(|", "(&", "(*", "a\u0000", "a\u00ff", "\u00e4", "b:b:", "a&b:s:", "c:",
            "a`", "a{", "`", "{", "t:/", "s:A", "t:0,"};
        for (String query : wrongAtTheEnd) {
            dueError(query, query.length() - 1);
            dueError(query + "a", query.length() - 1);
            dueError(query + ")&", query.length() - 1);
        }
        dueError("a|b c|d", 3);
        dueError("ab:c", 2);
    }

    private static void limitsTheOpenOnes() {
        dueFound("((((((ab))))))", 0);
        dueFound("((((((ab)|(x))|(x)))))|((((((x))))))", 0, 1);
        dueFound("(ab)&(ab)&(ab)&(ab)&(ab)&(ab)&(ab)&(ab)", 0);
        dueFound("!(!(!(!(!(!(ab))))))", 0);
        dueError("(((((((ab)))))))", 6);
        dueError("(((((((", 6);
        dueError("!(!(!(!(!(!(!(a", 13);
        dueError("(a)|(((((((a", 10);
        dueError("((((((a)&((a", 10);
        dueError("((a&(((((a", 8);
        dueError("((((()((((", 5);
        dueError("((((((a)|(b)|((", 14);
    }

    private static void keepsWhatWasFound() {
        ThreadedArchive x = fourMessages();
        Check.search(x, "abc");
        Check.due("bad search", Check.search(x, "ab)"), ThreadedArchive.BAD);
        Check.dueHits("behind a bad search", x, 0, 1);
        Check.search(x, "(((((((b)))))))");
        Check.dueHits("behind a search that is too deep", x, 0, 1);
        Check.search(x, "(b");
        Check.dueHits("behind a search that is unfinished", x, 0, 1);
        Check.search(x, "zz");
        Check.dueHits("behind a search that finds none", x);
        Check.due("errorAt behind a good search", x.errorAt(), -1);
    }

    private static void forgetsBadOnes() {
        ThreadedArchive x = fourMessages();
        String[] bad = {"!", "zz&", "ab|", "((", "(!", "b:", "t:", "s:x", "!(ab|", "zz zz", "f:ab)", "abc"};
        for (String query : bad) {
            Check.search(x, query);
            Check.search(x, "ab");
            Check.dueHits("behind " + query, x, 0);
            Check.search(x, query);
            Check.search(x, "(t:4)");
            Check.dueHits("behind " + query, x, 2, 3);
        }
    }

    private static void emptiesTheLine() {
        ThreadedArchive x = fourMessages();
        Check.line(x, "i:9");
        Check.search(x, "abc");
        Check.due("line behind a search", x.count(1), 0);
        Check.search(x, "(");
        Check.due("line behind a bad search", x.count(1), 0);
        Check.due("the draft stays", x.count(2), 1);
        Check.due("search of an empty line", x.search(), ThreadedArchive.BAD);
        Check.due("errorAt of an empty line", x.errorAt(), 0);
        Check.dueHits("behind an empty line", x, 0, 1);
    }
}
