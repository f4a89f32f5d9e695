import java.util.ArrayList;
import java.util.Arrays;
import java.util.HashMap;
import java.util.HashSet;
import java.util.List;
import java.util.Map;
import java.util.Set;
import java.util.TreeSet;
import java.util.regex.Matcher;
import java.util.regex.Pattern;

/**
 * The document told a second time, as literally as can be and without a thought for speed or room, so
 * that a fault in the program is unlikely to stand here, too.
 */
final class Model {
    private static final Pattern LETTERS = Pattern.compile("[A-Za-z]+");
    private static final Pattern ID = Pattern.compile("[0-9]{1,2}");
    private static final Pattern TERM = Pattern.compile("([sfb]:)?([a-z]+)(\\*?)");
    private static final Pattern TAG = Pattern.compile("t:([0-7])");

    private record Word(String letters, int field) {
    }

    private static final class Message {
        int number;
        int id;
        int leaves;
        List<Integer> references = new ArrayList<>();
        List<Word> words = new ArrayList<>();
        Set<Integer> tags = new HashSet<>();
    }

    private String line = "";
    private List<String> draft = new ArrayList<>();
    private final List<Message> messages = new ArrayList<>();
    private Set<Integer> found = new TreeSet<>();
    private int errorPlace = -1;
    private final Map<String, Boolean> knownQueries = new HashMap<>();

    int type(int c) {
        if (c < 0 || c > 255) {
            return -1;
        }
        if (line.length() == 40) {
            return -2;
        }
        line += (char) c;
        return line.length();
    }

    int enter() {
        if (draft.size() == 30) {
            return -2;
        }
        draft.add(line);
        line = "";
        return draft.size();
    }

    int wipe() {
        int lines = draft.size();
        line = "";
        draft = new ArrayList<>();
        return lines;
    }

    int add() {
        List<String> part = draft;
        draft = new ArrayList<>();
        int id = id(header(part, 'i'));
        if (id < 0) {
            return -3;
        }
        for (Message message : messages) {
            if (message.id == id) {
                return -1;
            }
        }
        if (messages.size() == 12) {
            return -2;
        }
        Message message = new Message();
        message.id = id;
        while (at(message.number) != null) {
            message.number++;
        }
        message.references = references(header(part, 'r'));
        takeHeader(header(part, 's'), message, 0);
        takeHeader(header(part, 'f'), message, 1);
        takePart(part, 1, message);
        if (message.words.size() > 50) {
            message.words = message.words.subList(0, 50);
        }
        messages.add(message);
        return message.number;
    }

    int drop(int number) {
        return messages.remove(at(number)) ? 0 : -1;
    }

    int tag(int number, int tag, boolean on) {
        Message message = at(number);
        if (message == null || tag < 0 || tag > 7) {
            return -1;
        }
        if (on) {
            message.tags.add(tag);
        } else {
            message.tags.remove(tag);
        }
        return 0;
    }

    int search() {
        String query = line;
        line = "";
        errorPlace = errorIn(query);
        if (errorPlace >= 0) {
            return -3;
        }
        found = new TreeSet<>();
        for (Message message : messages) {
            if (queryHolds(query, message)) {
                found.add(message.number);
            }
        }
        return found.size();
    }

    int errorAt() {
        return errorPlace;
    }

    int hit(int k) {
        return kth(found, k);
    }

    int related(int k) {
        Set<Integer> roots = new HashSet<>();
        for (int number : found) {
            if (at(number) != null) {
                roots.add(root(at(number).id));
            }
        }
        Set<Integer> numbers = new TreeSet<>();
        for (Message message : messages) {
            if (roots.contains(root(message.id))) {
                numbers.add(message.number);
            }
        }
        return kth(numbers, k);
    }

    int idOf(int number) {
        return at(number) == null ? -1 : at(number).id;
    }

    int answers(int number) {
        if (at(number) == null) {
            return -1;
        }
        Map<Integer, Integer> parents = parents();
        for (Integer id = parents.get(at(number).id); id != null; id = parents.get(id)) {
            for (Message message : messages) {
                if (message.id == id) {
                    return message.number;
                }
            }
        }
        return -4;
    }

    int root(int id) {
        if (id < 0 || id > 63) {
            return -1;
        }
        Map<Integer, Integer> parents = parents();
        int root = id;
        while (parents.containsKey(root)) {
            root = parents.get(root);
        }
        return root;
    }

    long word(int number, int k) {
        Message message = at(number);
        return message == null || k < 0 || k >= message.words.size() ? -1 : Check.code(message.words.get(k).letters);
    }

    int field(int number, int k) {
        Message message = at(number);
        return message == null || k < 0 || k >= message.words.size() ? -1 : message.words.get(k).field;
    }

    int count(int what) {
        if (what >= 6) {
            return at(what - 6) == null ? -1 : at(what - 6).leaves;
        }
        Set<Integer> roots = new HashSet<>();
        Set<String> words = new HashSet<>();
        for (Message message : messages) {
            roots.add(root(message.id));
            for (Word word : message.words) {
                words.add(word.letters);
            }
        }
        int[] answers = {messages.size(), line.length(), draft.size(), found.size(), roots.size(), words.size()};
        return what < 0 ? -1 : answers[what];
    }

    private Message at(int number) {
        for (Message message : messages) {
            if (message.number == number) {
                return message;
            }
        }
        return null;
    }

    private static int kth(Set<Integer> numbers, int k) {
        return k < 0 || k >= numbers.size() ? -4 : new ArrayList<>(numbers).get(k);
    }

    private static String header(List<String> part, char key) {
        String value = null;
        for (String line : part) {
            if (line.isEmpty()) {
                break;
            }
            if (line.length() >= 2 && line.charAt(0) == key && line.charAt(1) == ':') {
                value = line.substring(2);
            }
        }
        return value;
    }

    private static int id(String text) {
        if (text == null || !ID.matcher(text).matches() || Integer.parseInt(text) > 63) {
            return -1;
        }
        return Integer.parseInt(text);
    }

    private static List<Integer> references(String text) {
        List<Integer> references = new ArrayList<>();
        if (text != null) {
            for (String one : text.split(" ", -1)) {
                references.add(id(one));
            }
        }
        return references.size() > 4 || references.contains(-1) ? new ArrayList<>() : references;
    }

    private static void takeHeader(String value, Message message, int field) {
        if (value != null) {
            takeWords(value, message, field);
        }
    }

    private static void takeWords(String text, Message message, int field) {
        Matcher matcher = LETTERS.matcher(text);
        while (matcher.find()) {
            message.words.add(new Word(cut(matcher.group().toLowerCase()), field));
        }
    }

    private static String cut(String letters) {
        return letters.substring(0, Math.min(12, letters.length()));
    }

    private static void takePart(List<String> part, int depth, Message message) {
        int empty = part.indexOf("");
        List<String> body = empty < 0 ? List.of() : part.subList(empty + 1, part.size());
        String multi = header(part, 'm');
        if (depth <= 3 && multi != null && multi.length() == 1) {
            for (List<String> inner : innerParts(body, multi)) {
                takePart(inner, depth + 1, message);
            }
            return;
        }
        message.leaves++;
        for (String line : body) {
            takeWords("h".equals(header(part, 'e')) ? decoded(line) : line, message, 2);
        }
    }

    private static List<List<String>> innerParts(List<String> body, String boundary) {
        int end = body.indexOf("-" + boundary + ".");
        List<List<String>> parts = new ArrayList<>();
        for (String line : end < 0 ? body : body.subList(0, end)) {
            if (line.equals("-" + boundary)) {
                parts.add(new ArrayList<>());
            } else if (!parts.isEmpty()) {
                parts.get(parts.size() - 1).add(line);
            }
        }
        return parts;
    }

    private static String decoded(String line) {
        String digits = line.replaceAll("[^0-9a-fA-F]", "");
        StringBuilder text = new StringBuilder();
        for (int i = 0; i + 2 <= digits.length(); i += 2) {
            text.append((char) Integer.parseInt(digits.substring(i, i + 2), 16));
        }
        return text.toString();
    }

    private Map<Integer, Integer> parents() {
        Map<Integer, Integer> parents = new HashMap<>();
        for (Message message : messages) {
            List<Integer> references = message.references;
            for (int i = 1; i < references.size(); i++) {
                if (!parents.containsKey(references.get(i))) {
                    join(parents, references.get(i), references.get(i - 1));
                }
            }
            if (!references.isEmpty()) {
                join(parents, message.id, references.get(references.size() - 1));
            }
        }
        return parents;
    }

    private static void join(Map<Integer, Integer> parents, int child, int parent) {
        Set<Integer> reached = new HashSet<>();
        for (Integer id = parent; id != null; id = parents.get(id)) {
            reached.add(id);
        }
        if (!reached.contains(child)) {
            parents.put(child, parent);
        }
    }

    private int errorIn(String query) {
        int error = isQuery(query) ? -1 : query.length();
        for (int k = query.length() - 1; k >= 0; k--) {
            String begin = query.substring(0, k + 1);
            if (!beginsQuery(begin) || open(begin) > 6) {
                error = k;
            }
        }
        return error;
    }

    private static int open(String text) {
        return (int) (text.chars().filter(c -> c == '(').count() - text.chars().filter(c -> c == ')').count());
    }

    /** What begins a QUERY is made whole by a letter or a digit or nothing, and then some ")". */
    private boolean beginsQuery(String begin) {
        for (String middle : Arrays.asList("", "a", "0")) {
            String whole = begin + middle;
            for (int closing = 0; closing <= begin.length(); closing++) {
                if (isQuery(whole + ")".repeat(closing))) {
                    return true;
                }
            }
        }
        return false;
    }

    private boolean isQuery(String text) {
        Boolean known = knownQueries.get(text);
        if (known == null) {
            known = isAll(text) || splits(text, '|', true) >= 0;
            knownQueries.put(text, known);
        }
        return known;
    }

    private boolean isAll(String text) {
        return isOne(text) || splits(text, '&', false) >= 0;
    }

    private boolean isOne(String text) {
        if (text.startsWith("!")) {
            return isOne(text.substring(1));
        }
        if (text.startsWith("(")) {
            return text.endsWith(")") && open(text) == 0 && isQuery(text.substring(1, text.length() - 1));
        }
        return TERM.matcher(text).matches() || TAG.matcher(text).matches();
    }

    /** Where the text is a QUERY before "|" and an ALL behind it, or an ALL before "&" and a ONE behind it. */
    private int splits(String text, char joint, boolean isOr) {
        for (int i = text.lastIndexOf(joint); i >= 0; i = text.lastIndexOf(joint, i - 1)) {
            String left = text.substring(0, i);
            String right = text.substring(i + 1);
            if (isOr ? isAll(right) && isQuery(left) : isOne(right) && isAll(left)) {
                return i;
            }
        }
        return -1;
    }

    private boolean queryHolds(String text, Message message) {
        int place = isAll(text) ? -1 : splits(text, '|', true);
        return place < 0 ? allHolds(text, message)
                : queryHolds(text.substring(0, place), message) || allHolds(text.substring(place + 1), message);
    }

    private boolean allHolds(String text, Message message) {
        int place = isOne(text) ? -1 : splits(text, '&', false);
        return place < 0 ? oneHolds(text, message)
                : allHolds(text.substring(0, place), message) && oneHolds(text.substring(place + 1), message);
    }

    private boolean oneHolds(String text, Message message) {
        if (text.startsWith("!")) {
            return !oneHolds(text.substring(1), message);
        }
        if (text.startsWith("(")) {
            return queryHolds(text.substring(1, text.length() - 1), message);
        }
        if (TAG.matcher(text).matches()) {
            return message.tags.contains(text.charAt(2) - '0');
        }
        Matcher term = TERM.matcher(text);
        return term.matches() && termHolds(term, message);
    }

    private static boolean termHolds(Matcher term, Message message) {
        int field = term.group(1) == null ? -1 : "sfb".indexOf(term.group(1).charAt(0));
        String letters = cut(term.group(2));
        for (Word word : message.words) {
            boolean fits = term.group(3).isEmpty() ? word.letters.equals(letters) : word.letters.startsWith(letters);
            if (fits && (field < 0 || word.field == field)) {
                return true;
            }
        }
        return false;
    }
}
