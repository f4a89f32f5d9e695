import java.util.Random;

/** Runs of 512 calls, the same ones each time, on the program and on the model. */
public final class ModelTest {
    private static final int RUNS = 2000;
    private static final int CALLS = 512;

    /** From this call on the run looks at all that is there, as far as its calls go. */
    private static final int LAST_LOOK = 360;
    private static final String[] WORDS = {"a", "ab", "abc", "b", "s", "t", "Ab", "ABC", "ba", "abcdefghijkl",
        "abcdefghijklm", "abcdefghijk", "f", "a a b b c c d d e e f f g g"};
    private static final String[] TERMS = {"a", "ab", "abc", "b", "s", "t", "f", "ba", "a*", "b*", "ab*", "s:a", "f:a*",
        "b:b", "s:ab*", "b:a", "f:ab", "t:0", "t:1", "t:7", "abcdefghijklz", "abcdefghijk*", "c"};
    private static final String[] REFERENCE_HEADERS = {"r:", "r: 1", "r:1  2", "r:64", "r:1 2 3 4 5", "r:1 ", "r:x"};
    private static final String[] ID_HEADERS = {"i:", "i:64", "i:x", "i:1 ", "I:1", "i:001"};
    private static final String[] ENCODINGS = {"e:h", "e:h", "e:h", "e:H", "e:hh", "e:"};
    private static final String[] HEX_PAIRS = {"61", "62", "4A", "4f", "20", "0a"};
    private static final String BOUNDARIES = "xy.-:h";
    private static final String QUERY_CHARACTERS = "abz()!&|*:sft07 A8`{";

    private final Random random;
    private final int run;
    private final ThreadedArchive program = new ThreadedArchive();
    private final Model model = new Model();
    private int calls = 0;

    private ModelTest(int run) {
        this.run = run;
        this.random = new Random(run);
    }

    public static void main(String[] args) {
        for (int run = 0; run < RUNS; run++) {
            new ModelTest(run).go();
        }
        Check.end();
    }

    /** Nothing is promised behind the 512th call, so what is drawn then is not carried out. */
    private boolean goesOn() {
        calls++;
        return calls <= CALLS;
    }

    private void due(String call, long got, long want) {
        Check.due("run " + run + ", call " + calls + ": " + call, got, want);
    }

    private void go() {
        while (calls < LAST_LOOK) {
            int choice = random.nextInt(20);
            if (choice < 4) {
                draft();
            } else if (choice < 8) {
                query();
            } else if (choice == 8) {
                drop(random.nextInt(14) - 1);
            } else if (choice < 11) {
                tag(random.nextInt(14) - 1, random.nextInt(10) - 1, random.nextInt(4) > 0);
            } else if (choice == 11) {
                oddCall();
            } else {
                look();
            }
        }
        lookAtAll();
    }

    private void lookAtAll() {
        for (int n = 0; n < 12; n++) {
            idOf(n);
            answers(n);
            hit(n);
            related(n);
        }
        for (int what = 0; what < 18; what++) {
            count(what);
        }
        for (int id = 0; id < 14; id++) {
            root(id);
        }
        int message = random.nextInt(6);
        for (int k = 0; k < 35; k++) {
            wordAndField(message, k);
        }
    }

    private String oneOf(String[] texts) {
        return texts[random.nextInt(texts.length)];
    }

    private char oneOf(String characters) {
        return characters.charAt(random.nextInt(characters.length()));
    }

    private int anyId() {
        return random.nextInt(8) == 0 ? random.nextInt(64) : random.nextInt(14);
    }

    private void draft() {
        int headers = 1 + random.nextInt(5);
        line(random.nextInt(12) == 0 ? oneOf(ID_HEADERS) : "i:" + anyId());
        for (int i = 0; i < headers; i++) {
            line(header());
        }
        if (random.nextInt(4) > 0) {
            line("");
            int lines = random.nextInt(3) == 0 ? random.nextInt(16) : random.nextInt(5);
            for (int i = 0; i < lines; i++) {
                line(bodyLine());
            }
        }
        add();
        look();
    }

    private String header() {
        switch (random.nextInt(8)) {
            case 0:
                return "s:" + words();
            case 1:
                return "f:" + words();
            case 2:
                return "m:" + oneOf(BOUNDARIES) + (random.nextInt(8) == 0 ? "x" : "");
            case 3:
                return oneOf(ENCODINGS);
            case 4:
                return words();
            case 5:
                return random.nextInt(4) == 0 ? oneOf(REFERENCE_HEADERS) : references();
            default:
                return references();
        }
    }

    private String references() {
        StringBuilder text = new StringBuilder("r:").append(anyId());
        int more = random.nextInt(4);
        for (int i = 0; i < more; i++) {
            text.append(' ').append(anyId());
        }
        return text.toString();
    }

    private String words() {
        StringBuilder text = new StringBuilder();
        int number = random.nextInt(3);
        for (int i = 0; i < number; i++) {
            text.append(oneOf(WORDS)).append(oneOf(" -1\u00e9:@["));
        }
        return text.toString();
    }

    private String bodyLine() {
        switch (random.nextInt(8)) {
            case 0:
                return "";
            case 1:
            case 2:
            case 3:
                return "-" + oneOf(BOUNDARIES);
            case 4:
                return random.nextInt(3) == 0 ? "-" + oneOf(BOUNDARIES) + "." : "";
            case 5:
                return header();
            case 6:
                return hexLine();
            default:
                return words();
        }
    }

    private String hexLine() {
        StringBuilder text = new StringBuilder();
        int number = random.nextInt(8);
        for (int i = 0; i < number; i++) {
            text.append(random.nextInt(4) == 0 ? "" + oneOf("6g :G`@/") : oneOf(HEX_PAIRS));
        }
        return text.toString();
    }

    private void query() {
        String text = random.nextInt(4) == 0 ? "" : ones(random.nextInt(5));
        StringBuilder query = new StringBuilder(text);
        int changes = random.nextInt(3) == 0 ? 1 + random.nextInt(3) : 0;
        for (int i = 0; i < changes; i++) {
            query.insert(random.nextInt(query.length() + 1), oneOf(QUERY_CHARACTERS));
        }
        if (random.nextInt(6) == 0) {
            query.setLength(random.nextInt(query.length() + 1));
        }
        type(query.toString());
        search();
        look();
    }

    private String ones(int depth) {
        StringBuilder text = new StringBuilder();
        int number = 1 + random.nextInt(3);
        for (int i = 0; i < number; i++) {
            text.append(i == 0 ? "" : "" + oneOf("&|"));
            text.append("!".repeat(random.nextInt(5) == 0 ? 2 : random.nextInt(2)));
            boolean isNested = depth > 0 && random.nextInt(2) == 0;
            int more = random.nextInt(3) == 0 ? random.nextInt(5) : 1;
            text.append(isNested ? "(".repeat(more) + ones(depth - 1) + ")".repeat(more) : oneOf(TERMS));
        }
        return text.toString();
    }

    /** Calls in a state or with arguments that the others do not lead to. */
    private void oddCall() {
        switch (random.nextInt(8)) {
            case 0:
                type(random.nextInt(3) == 0 ? random.nextInt() : random.nextInt(260) - 2);
                break;
            case 1:
                enter();
                break;
            case 2:
                wipe();
                break;
            case 3:
                add();
                break;
            case 4:
                search();
                break;
            case 5:
                type("x".repeat(random.nextInt(45)));
                break;
            case 6:
                enterMany(random.nextInt(35));
                break;
            default:
                look(random.nextInt());
                break;
        }
    }

    private void enterMany(int times) {
        for (int i = 0; i < times; i++) {
            enter();
        }
    }

    private void look() {
        look(random.nextInt(20) - 1);
    }

    private void look(int n) {
        switch (random.nextInt(9)) {
            case 0:
                hit(n);
                break;
            case 1:
                related(n);
                break;
            case 2:
                idOf(n);
                break;
            case 3:
                answers(n);
                break;
            case 4:
                root(n);
                break;
            case 5:
                wordAndField(n, random.nextInt(4) == 0 ? random.nextInt(60) - 2 : random.nextInt(8));
                break;
            case 6:
                errorAt();
                break;
            default:
                count(n);
                break;
        }
    }

    private void line(String text) {
        type(text);
        enter();
    }

    private void type(String text) {
        for (int i = 0; i < text.length(); i++) {
            type(text.charAt(i));
        }
    }

    private void type(int c) {
        if (goesOn()) {
            due("type(" + c + ")", program.type(c), model.type(c));
        }
    }

    private void enter() {
        if (goesOn()) {
            due("enter()", program.enter(), model.enter());
        }
    }

    private void wipe() {
        if (goesOn()) {
            due("wipe()", program.wipe(), model.wipe());
        }
    }

    private void add() {
        if (goesOn()) {
            due("add()", program.add(), model.add());
        }
    }

    private void drop(int message) {
        if (goesOn()) {
            due("drop(" + message + ")", program.drop(message), model.drop(message));
        }
    }

    private void tag(int message, int tag, boolean on) {
        if (goesOn()) {
            due("tag(" + message + ", " + tag + ", " + on + ")", program.tag(message, tag, on),
                    model.tag(message, tag, on));
        }
    }

    private void search() {
        if (goesOn()) {
            due("search()", program.search(), model.search());
        }
        errorAt();
    }

    private void errorAt() {
        if (goesOn()) {
            due("errorAt()", program.errorAt(), model.errorAt());
        }
    }

    private void hit(int k) {
        if (goesOn()) {
            due("hit(" + k + ")", program.hit(k), model.hit(k));
        }
    }

    private void related(int k) {
        if (goesOn()) {
            due("related(" + k + ")", program.related(k), model.related(k));
        }
    }

    private void idOf(int message) {
        if (goesOn()) {
            due("idOf(" + message + ")", program.idOf(message), model.idOf(message));
        }
    }

    private void answers(int message) {
        if (goesOn()) {
            due("answers(" + message + ")", program.answers(message), model.answers(message));
        }
    }

    private void root(int id) {
        if (goesOn()) {
            due("root(" + id + ")", program.root(id), model.root(id));
        }
    }

    private void wordAndField(int message, int k) {
        if (goesOn()) {
            due("word(" + message + ", " + k + ")", program.word(message, k), model.word(message, k));
        }
        if (goesOn()) {
            due("field(" + message + ", " + k + ")", program.field(message, k), model.field(message, k));
        }
    }

    private void count(int what) {
        if (goesOn()) {
            due("count(" + what + ")", program.count(what), model.count(what));
        }
    }
}
